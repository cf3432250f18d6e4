/-! THE STATE: the objects and arrays that both constructors make lie at fixed places, behind them the exceptions; mS: arrays of ints (and booleans), arrays of longs, fields of ints, fields of longs, by their numbers -/
abbrev mS : Type := (Nat → Nat → Int32) × (Nat → Nat → Int64) × (Nat → Int32) × (Nat → Int64)
def uA (k : Nat) (T : Nat → Int32) (s : mS) : mS := (fun j => if j = k then T else s.1 j, s.2)
def uJ (k : Nat) (T : Nat → Int64) (s : mS) : mS := (s.1, fun j => if j = k then T else s.2.1 j, s.2.2)
def uF (k : Nat) (v : Int32) (s : mS) : mS := (s.1, s.2.1, fun j => if j = k then v else s.2.2.1 j, s.2.2.2)
def uG (k : Nat) (v : Int64) (s : mS) : mS := (s.1, s.2.1, s.2.2.1, fun j => if j = k then v else s.2.2.2 j)
def rdI {α : Type} (n : Nat) (i : Int32) (k : Option α) : Option α := if i < 0 ∨ n ≤ i.toNatClampNeg then none else k
def rdB {α : Type} (v : Int32) (k : Option α) : Option α := if v = 0 ∨ v = 1 then k else none
def pt {α : Type} (s : mS) (k : mS → α) : α := k s
theorem rdI_some {α : Type} {n : Nat} {i : Int32} {k : Option α} {r : α} (h : rdI n i k = some r) : vp_in i n ∧ k = some r := by
  unfold rdI at h
  by_cases c : i < 0 ∨ n ≤ i.toNatClampNeg
  · rw [if_pos c] at h; cases h
  · rw [if_neg c] at h; exact ⟨c, h⟩
theorem rdB_some {α : Type} {v : Int32} {k : Option α} {r : α} (h : rdB v k = some r) : (v = 0 ∨ v = 1) ∧ k = some r := by
  unfold rdB at h
  by_cases c : v = 0 ∨ v = 1
  · rw [if_pos c] at h; exact ⟨c, h⟩
  · rw [if_neg c] at h; cases h
theorem nar_B {v : Int32} (h : v = 0 ∨ v = 1) : narrow .boolean (.int v) = .int v := by rcases h with rfl | rfl <;> decide
theorem pt_some {α : Type} {s : mS} {k : mS → α} {r : α} (h : pt s k = r) : ∃ s1, s1 = s ∧ k s1 = r := ⟨s, rfl, h⟩
theorem bd_some {α β : Type} {x : Option α} {k : α → Option β} {r : β} (h : x.bind k = some r) : ∃ q, x = some q ∧ k q = some r := by
  cases x with
  | none => cases h
  | some q => exact ⟨q, rfl, h⟩
theorem ite_some {α : Type} {c : Prop} [Decidable c] {a b : Option α} {r : α} (h : (if c then a else b) = some r) : (c ∧ a = some r) ∨ (¬ c ∧ b = some r) := by
  by_cases q : c
  · rw [if_pos q] at h; exact Or.inl ⟨q, h⟩
  · rw [if_neg q] at h; exact Or.inr ⟨q, h⟩
theorem lgc_eq {x y : Int64} : lg_cmp x y = 0 ↔ x = y := lg_cmp_eq x y
theorem lgc_lt {x y : Int64} : lg_cmp x y < 0 ↔ x < y := lg_cmp_lt x y
theorem lgc_gt {x y : Int64} : 0 < lg_cmp x y ↔ y < x := lg_cmp_gt x y
theorem lgc_ge {x y : Int64} : 0 ≤ lg_cmp x y ↔ y ≤ x := lg_cmp_ge x y
theorem lgc_le {x y : Int64} : lg_cmp x y ≤ 0 ↔ x ≤ y := lg_cmp_le x y
theorem lgc_ne {x y : Int64} : (¬ lg_cmp x y = 0) ↔ ¬ x = y := not_congr lgc_eq
def hp (s : mS) (ex : mHp) : mHp := (.inr (8, [.ref 17, .ref 21, .ref 23, .ref 29, .ref 32])) :: (.inr (5, [.ref 18, .ref 19, .ref 20, .int (s.2.2.1 0)])) :: (.inl (.int, 42, .inl (s.1 18))) :: (.inl (.int, 42, .inl (s.1 19))) :: (.inr (7, [.long (s.2.2.2 0), .long (s.2.2.2 1), .long (s.2.2.2 2)])) :: (.inr (3, [.ref 17, .ref 22, .int (s.2.2.1 1)])) :: (.inl (.long, 40, .inr (.inl (s.2.1 22)))) :: (.inr (4, [.ref 17, .ref 21, .ref 24, .ref 25, .ref 26, .int (s.2.2.1 2), .ref 27, .int (s.2.2.1 3), .ref 28])) :: (.inl (.int, 1600, .inl (s.1 24))) :: (.inl (.int, 1600, .inl (s.1 25))) :: (.inl (.int, 225, .inl (s.1 26))) :: (.inl (.int, 800, .inl (s.1 27))) :: (.inl (.long, 40, .inr (.inl (s.2.1 28)))) :: (.inr (2, [.ref 17, .ref 23, .ref 30, .ref 31, .int (s.2.2.1 4)])) :: (.inl (.int, 75, .inl (s.1 30))) :: (.inl (.int, 75, .inl (s.1 31))) :: (.inr (6, [.ref 17, .ref 23, .ref 36, .ref 33, .int (s.2.2.1 5), .ref 34, .ref 35])) :: (.inl (.int, 75, .inl (s.1 33))) :: (.inl (.int, 75, .inl (s.1 34))) :: (.inl (.int, 75, .inl (s.1 35))) :: (.inr (1, [.ref 17, .ref 37, .ref 39, .int (s.2.2.1 6), .int (s.2.2.1 7), .int (s.2.2.1 8), .ref 41, .int (s.2.2.1 9)])) :: (.inr (0, [.int 1, .ref 38, .int (s.2.2.1 10), .int (s.2.2.1 11)])) :: (.inl (.int, 77, .inl (s.1 38))) :: (.inr (0, [.int (-1), .ref 40, .int (s.2.2.1 12), .int (s.2.2.1 13)])) :: (.inl (.int, 77, .inl (s.1 40))) :: (.inl (.int, 77, .inl (s.1 41))) :: (.inr (9, [.int (s.2.2.1 14), .int (s.2.2.1 15), .ref 43, .ref 44, .ref 45, .ref 46, .int (s.2.2.1 16), .int (s.2.2.1 17), .ref 47, .int (s.2.2.1 18), .ref 48, .int (s.2.2.1 19), .ref 49, .ref 50, .ref 51, .ref 52, .long (s.2.2.2 3), .long (s.2.2.2 4)])) :: (.inl (.long, 42, .inr (.inl (s.2.1 43)))) :: (.inl (.long, 42, .inr (.inl (s.2.1 44)))) :: (.inl (.boolean, 1600, .inl (s.1 45))) :: (.inl (.boolean, 1600, .inl (s.1 46))) :: (.inl (.int, 300, .inl (s.1 47))) :: (.inl (.int, 100, .inl (s.1 48))) :: (.inl (.int, 100, .inl (s.1 49))) :: (.inl (.int, 100, .inl (s.1 50))) :: (.inl (.int, 100, .inl (s.1 51))) :: (.inl (.int, 100, .inl (s.1 52))) :: (.inl (.long, 1, .inr (.inl (s.2.1 53)))) :: ex
theorem hg16 (s : mS) (ex : mHp) : mget (hp s ex) 16 = some (.inr (8, [.ref 17, .ref 21, .ref 23, .ref 29, .ref 32])) := rfl
theorem hg17 (s : mS) (ex : mHp) : mget (hp s ex) 17 = some (.inr (5, [.ref 18, .ref 19, .ref 20, .int (s.2.2.1 0)])) := rfl
theorem hF0 (s : mS) (ex : mHp) (v : Int32) : mput (hp s ex) 17 (.inr (5, [.ref 18, .ref 19, .ref 20, .int (s.2.2.1 0)].set 3 (.int v))) = hp (uF 0 v s) ex := rfl
theorem hg18 (s : mS) (ex : mHp) : mget (hp s ex) 18 = some (.inl (.int, 42, .inl (s.1 18))) := rfl
theorem hA18 (s : mS) (ex : mHp) (T : Nat → Int32) : mput (hp s ex) 18 (.inl (.int, 42, .inl T)) = hp (uA 18 T s) ex := rfl
theorem hg19 (s : mS) (ex : mHp) : mget (hp s ex) 19 = some (.inl (.int, 42, .inl (s.1 19))) := rfl
theorem hA19 (s : mS) (ex : mHp) (T : Nat → Int32) : mput (hp s ex) 19 (.inl (.int, 42, .inl T)) = hp (uA 19 T s) ex := rfl
theorem hg20 (s : mS) (ex : mHp) : mget (hp s ex) 20 = some (.inr (7, [.long (s.2.2.2 0), .long (s.2.2.2 1), .long (s.2.2.2 2)])) := rfl
theorem hG0 (s : mS) (ex : mHp) (v : Int64) : mput (hp s ex) 20 (.inr (7, [.long (s.2.2.2 0), .long (s.2.2.2 1), .long (s.2.2.2 2)].set 0 (.long v))) = hp (uG 0 v s) ex := rfl
theorem hG1 (s : mS) (ex : mHp) (v : Int64) : mput (hp s ex) 20 (.inr (7, [.long (s.2.2.2 0), .long (s.2.2.2 1), .long (s.2.2.2 2)].set 1 (.long v))) = hp (uG 1 v s) ex := rfl
theorem hG2 (s : mS) (ex : mHp) (v : Int64) : mput (hp s ex) 20 (.inr (7, [.long (s.2.2.2 0), .long (s.2.2.2 1), .long (s.2.2.2 2)].set 2 (.long v))) = hp (uG 2 v s) ex := rfl
theorem hg21 (s : mS) (ex : mHp) : mget (hp s ex) 21 = some (.inr (3, [.ref 17, .ref 22, .int (s.2.2.1 1)])) := rfl
theorem hF1 (s : mS) (ex : mHp) (v : Int32) : mput (hp s ex) 21 (.inr (3, [.ref 17, .ref 22, .int (s.2.2.1 1)].set 2 (.int v))) = hp (uF 1 v s) ex := rfl
theorem hg22 (s : mS) (ex : mHp) : mget (hp s ex) 22 = some (.inl (.long, 40, .inr (.inl (s.2.1 22)))) := rfl
theorem hA22 (s : mS) (ex : mHp) (T : Nat → Int64) : mput (hp s ex) 22 (.inl (.long, 40, .inr (.inl T))) = hp (uJ 22 T s) ex := rfl
theorem hg23 (s : mS) (ex : mHp) : mget (hp s ex) 23 = some (.inr (4, [.ref 17, .ref 21, .ref 24, .ref 25, .ref 26, .int (s.2.2.1 2), .ref 27, .int (s.2.2.1 3), .ref 28])) := rfl
theorem hF2 (s : mS) (ex : mHp) (v : Int32) : mput (hp s ex) 23 (.inr (4, [.ref 17, .ref 21, .ref 24, .ref 25, .ref 26, .int (s.2.2.1 2), .ref 27, .int (s.2.2.1 3), .ref 28].set 5 (.int v))) = hp (uF 2 v s) ex := rfl
theorem hF3 (s : mS) (ex : mHp) (v : Int32) : mput (hp s ex) 23 (.inr (4, [.ref 17, .ref 21, .ref 24, .ref 25, .ref 26, .int (s.2.2.1 2), .ref 27, .int (s.2.2.1 3), .ref 28].set 7 (.int v))) = hp (uF 3 v s) ex := rfl
theorem hg24 (s : mS) (ex : mHp) : mget (hp s ex) 24 = some (.inl (.int, 1600, .inl (s.1 24))) := rfl
theorem hA24 (s : mS) (ex : mHp) (T : Nat → Int32) : mput (hp s ex) 24 (.inl (.int, 1600, .inl T)) = hp (uA 24 T s) ex := rfl
theorem hg25 (s : mS) (ex : mHp) : mget (hp s ex) 25 = some (.inl (.int, 1600, .inl (s.1 25))) := rfl
theorem hA25 (s : mS) (ex : mHp) (T : Nat → Int32) : mput (hp s ex) 25 (.inl (.int, 1600, .inl T)) = hp (uA 25 T s) ex := rfl
theorem hg26 (s : mS) (ex : mHp) : mget (hp s ex) 26 = some (.inl (.int, 225, .inl (s.1 26))) := rfl
theorem hA26 (s : mS) (ex : mHp) (T : Nat → Int32) : mput (hp s ex) 26 (.inl (.int, 225, .inl T)) = hp (uA 26 T s) ex := rfl
theorem hg27 (s : mS) (ex : mHp) : mget (hp s ex) 27 = some (.inl (.int, 800, .inl (s.1 27))) := rfl
theorem hA27 (s : mS) (ex : mHp) (T : Nat → Int32) : mput (hp s ex) 27 (.inl (.int, 800, .inl T)) = hp (uA 27 T s) ex := rfl
theorem hg28 (s : mS) (ex : mHp) : mget (hp s ex) 28 = some (.inl (.long, 40, .inr (.inl (s.2.1 28)))) := rfl
theorem hA28 (s : mS) (ex : mHp) (T : Nat → Int64) : mput (hp s ex) 28 (.inl (.long, 40, .inr (.inl T))) = hp (uJ 28 T s) ex := rfl
theorem hg29 (s : mS) (ex : mHp) : mget (hp s ex) 29 = some (.inr (2, [.ref 17, .ref 23, .ref 30, .ref 31, .int (s.2.2.1 4)])) := rfl
theorem hF4 (s : mS) (ex : mHp) (v : Int32) : mput (hp s ex) 29 (.inr (2, [.ref 17, .ref 23, .ref 30, .ref 31, .int (s.2.2.1 4)].set 4 (.int v))) = hp (uF 4 v s) ex := rfl
theorem hg30 (s : mS) (ex : mHp) : mget (hp s ex) 30 = some (.inl (.int, 75, .inl (s.1 30))) := rfl
theorem hA30 (s : mS) (ex : mHp) (T : Nat → Int32) : mput (hp s ex) 30 (.inl (.int, 75, .inl T)) = hp (uA 30 T s) ex := rfl
theorem hg31 (s : mS) (ex : mHp) : mget (hp s ex) 31 = some (.inl (.int, 75, .inl (s.1 31))) := rfl
theorem hA31 (s : mS) (ex : mHp) (T : Nat → Int32) : mput (hp s ex) 31 (.inl (.int, 75, .inl T)) = hp (uA 31 T s) ex := rfl
theorem hg32 (s : mS) (ex : mHp) : mget (hp s ex) 32 = some (.inr (6, [.ref 17, .ref 23, .ref 36, .ref 33, .int (s.2.2.1 5), .ref 34, .ref 35])) := rfl
theorem hF5 (s : mS) (ex : mHp) (v : Int32) : mput (hp s ex) 32 (.inr (6, [.ref 17, .ref 23, .ref 36, .ref 33, .int (s.2.2.1 5), .ref 34, .ref 35].set 4 (.int v))) = hp (uF 5 v s) ex := rfl
theorem hg33 (s : mS) (ex : mHp) : mget (hp s ex) 33 = some (.inl (.int, 75, .inl (s.1 33))) := rfl
theorem hA33 (s : mS) (ex : mHp) (T : Nat → Int32) : mput (hp s ex) 33 (.inl (.int, 75, .inl T)) = hp (uA 33 T s) ex := rfl
theorem hg34 (s : mS) (ex : mHp) : mget (hp s ex) 34 = some (.inl (.int, 75, .inl (s.1 34))) := rfl
theorem hA34 (s : mS) (ex : mHp) (T : Nat → Int32) : mput (hp s ex) 34 (.inl (.int, 75, .inl T)) = hp (uA 34 T s) ex := rfl
theorem hg35 (s : mS) (ex : mHp) : mget (hp s ex) 35 = some (.inl (.int, 75, .inl (s.1 35))) := rfl
theorem hA35 (s : mS) (ex : mHp) (T : Nat → Int32) : mput (hp s ex) 35 (.inl (.int, 75, .inl T)) = hp (uA 35 T s) ex := rfl
theorem hg36 (s : mS) (ex : mHp) : mget (hp s ex) 36 = some (.inr (1, [.ref 17, .ref 37, .ref 39, .int (s.2.2.1 6), .int (s.2.2.1 7), .int (s.2.2.1 8), .ref 41, .int (s.2.2.1 9)])) := rfl
theorem hF6 (s : mS) (ex : mHp) (v : Int32) : mput (hp s ex) 36 (.inr (1, [.ref 17, .ref 37, .ref 39, .int (s.2.2.1 6), .int (s.2.2.1 7), .int (s.2.2.1 8), .ref 41, .int (s.2.2.1 9)].set 3 (.int v))) = hp (uF 6 v s) ex := rfl
theorem hF7 (s : mS) (ex : mHp) (v : Int32) : mput (hp s ex) 36 (.inr (1, [.ref 17, .ref 37, .ref 39, .int (s.2.2.1 6), .int (s.2.2.1 7), .int (s.2.2.1 8), .ref 41, .int (s.2.2.1 9)].set 4 (.int v))) = hp (uF 7 v s) ex := rfl
theorem hF8 (s : mS) (ex : mHp) (v : Int32) : mput (hp s ex) 36 (.inr (1, [.ref 17, .ref 37, .ref 39, .int (s.2.2.1 6), .int (s.2.2.1 7), .int (s.2.2.1 8), .ref 41, .int (s.2.2.1 9)].set 5 (.int v))) = hp (uF 8 v s) ex := rfl
theorem hF9 (s : mS) (ex : mHp) (v : Int32) : mput (hp s ex) 36 (.inr (1, [.ref 17, .ref 37, .ref 39, .int (s.2.2.1 6), .int (s.2.2.1 7), .int (s.2.2.1 8), .ref 41, .int (s.2.2.1 9)].set 7 (.int v))) = hp (uF 9 v s) ex := rfl
theorem hg37 (s : mS) (ex : mHp) : mget (hp s ex) 37 = some (.inr (0, [.int 1, .ref 38, .int (s.2.2.1 10), .int (s.2.2.1 11)])) := rfl
theorem hF10 (s : mS) (ex : mHp) (v : Int32) : mput (hp s ex) 37 (.inr (0, [.int 1, .ref 38, .int (s.2.2.1 10), .int (s.2.2.1 11)].set 2 (.int v))) = hp (uF 10 v s) ex := rfl
theorem hF11 (s : mS) (ex : mHp) (v : Int32) : mput (hp s ex) 37 (.inr (0, [.int 1, .ref 38, .int (s.2.2.1 10), .int (s.2.2.1 11)].set 3 (.int v))) = hp (uF 11 v s) ex := rfl
theorem hg38 (s : mS) (ex : mHp) : mget (hp s ex) 38 = some (.inl (.int, 77, .inl (s.1 38))) := rfl
theorem hA38 (s : mS) (ex : mHp) (T : Nat → Int32) : mput (hp s ex) 38 (.inl (.int, 77, .inl T)) = hp (uA 38 T s) ex := rfl
theorem hg39 (s : mS) (ex : mHp) : mget (hp s ex) 39 = some (.inr (0, [.int (-1), .ref 40, .int (s.2.2.1 12), .int (s.2.2.1 13)])) := rfl
theorem hF12 (s : mS) (ex : mHp) (v : Int32) : mput (hp s ex) 39 (.inr (0, [.int (-1), .ref 40, .int (s.2.2.1 12), .int (s.2.2.1 13)].set 2 (.int v))) = hp (uF 12 v s) ex := rfl
theorem hF13 (s : mS) (ex : mHp) (v : Int32) : mput (hp s ex) 39 (.inr (0, [.int (-1), .ref 40, .int (s.2.2.1 12), .int (s.2.2.1 13)].set 3 (.int v))) = hp (uF 13 v s) ex := rfl
theorem hg40 (s : mS) (ex : mHp) : mget (hp s ex) 40 = some (.inl (.int, 77, .inl (s.1 40))) := rfl
theorem hA40 (s : mS) (ex : mHp) (T : Nat → Int32) : mput (hp s ex) 40 (.inl (.int, 77, .inl T)) = hp (uA 40 T s) ex := rfl
theorem hg41 (s : mS) (ex : mHp) : mget (hp s ex) 41 = some (.inl (.int, 77, .inl (s.1 41))) := rfl
theorem hA41 (s : mS) (ex : mHp) (T : Nat → Int32) : mput (hp s ex) 41 (.inl (.int, 77, .inl T)) = hp (uA 41 T s) ex := rfl
theorem hg42 (s : mS) (ex : mHp) : mget (hp s ex) 42 = some (.inr (9, [.int (s.2.2.1 14), .int (s.2.2.1 15), .ref 43, .ref 44, .ref 45, .ref 46, .int (s.2.2.1 16), .int (s.2.2.1 17), .ref 47, .int (s.2.2.1 18), .ref 48, .int (s.2.2.1 19), .ref 49, .ref 50, .ref 51, .ref 52, .long (s.2.2.2 3), .long (s.2.2.2 4)])) := rfl
theorem hF14 (s : mS) (ex : mHp) (v : Int32) : mput (hp s ex) 42 (.inr (9, [.int (s.2.2.1 14), .int (s.2.2.1 15), .ref 43, .ref 44, .ref 45, .ref 46, .int (s.2.2.1 16), .int (s.2.2.1 17), .ref 47, .int (s.2.2.1 18), .ref 48, .int (s.2.2.1 19), .ref 49, .ref 50, .ref 51, .ref 52, .long (s.2.2.2 3), .long (s.2.2.2 4)].set 0 (.int v))) = hp (uF 14 v s) ex := rfl
theorem hF15 (s : mS) (ex : mHp) (v : Int32) : mput (hp s ex) 42 (.inr (9, [.int (s.2.2.1 14), .int (s.2.2.1 15), .ref 43, .ref 44, .ref 45, .ref 46, .int (s.2.2.1 16), .int (s.2.2.1 17), .ref 47, .int (s.2.2.1 18), .ref 48, .int (s.2.2.1 19), .ref 49, .ref 50, .ref 51, .ref 52, .long (s.2.2.2 3), .long (s.2.2.2 4)].set 1 (.int v))) = hp (uF 15 v s) ex := rfl
theorem hF16 (s : mS) (ex : mHp) (v : Int32) : mput (hp s ex) 42 (.inr (9, [.int (s.2.2.1 14), .int (s.2.2.1 15), .ref 43, .ref 44, .ref 45, .ref 46, .int (s.2.2.1 16), .int (s.2.2.1 17), .ref 47, .int (s.2.2.1 18), .ref 48, .int (s.2.2.1 19), .ref 49, .ref 50, .ref 51, .ref 52, .long (s.2.2.2 3), .long (s.2.2.2 4)].set 6 (.int v))) = hp (uF 16 v s) ex := rfl
theorem hF17 (s : mS) (ex : mHp) (v : Int32) : mput (hp s ex) 42 (.inr (9, [.int (s.2.2.1 14), .int (s.2.2.1 15), .ref 43, .ref 44, .ref 45, .ref 46, .int (s.2.2.1 16), .int (s.2.2.1 17), .ref 47, .int (s.2.2.1 18), .ref 48, .int (s.2.2.1 19), .ref 49, .ref 50, .ref 51, .ref 52, .long (s.2.2.2 3), .long (s.2.2.2 4)].set 7 (.int v))) = hp (uF 17 v s) ex := rfl
theorem hF18 (s : mS) (ex : mHp) (v : Int32) : mput (hp s ex) 42 (.inr (9, [.int (s.2.2.1 14), .int (s.2.2.1 15), .ref 43, .ref 44, .ref 45, .ref 46, .int (s.2.2.1 16), .int (s.2.2.1 17), .ref 47, .int (s.2.2.1 18), .ref 48, .int (s.2.2.1 19), .ref 49, .ref 50, .ref 51, .ref 52, .long (s.2.2.2 3), .long (s.2.2.2 4)].set 9 (.int v))) = hp (uF 18 v s) ex := rfl
theorem hF19 (s : mS) (ex : mHp) (v : Int32) : mput (hp s ex) 42 (.inr (9, [.int (s.2.2.1 14), .int (s.2.2.1 15), .ref 43, .ref 44, .ref 45, .ref 46, .int (s.2.2.1 16), .int (s.2.2.1 17), .ref 47, .int (s.2.2.1 18), .ref 48, .int (s.2.2.1 19), .ref 49, .ref 50, .ref 51, .ref 52, .long (s.2.2.2 3), .long (s.2.2.2 4)].set 11 (.int v))) = hp (uF 19 v s) ex := rfl
theorem hG3 (s : mS) (ex : mHp) (v : Int64) : mput (hp s ex) 42 (.inr (9, [.int (s.2.2.1 14), .int (s.2.2.1 15), .ref 43, .ref 44, .ref 45, .ref 46, .int (s.2.2.1 16), .int (s.2.2.1 17), .ref 47, .int (s.2.2.1 18), .ref 48, .int (s.2.2.1 19), .ref 49, .ref 50, .ref 51, .ref 52, .long (s.2.2.2 3), .long (s.2.2.2 4)].set 16 (.long v))) = hp (uG 3 v s) ex := rfl
theorem hG4 (s : mS) (ex : mHp) (v : Int64) : mput (hp s ex) 42 (.inr (9, [.int (s.2.2.1 14), .int (s.2.2.1 15), .ref 43, .ref 44, .ref 45, .ref 46, .int (s.2.2.1 16), .int (s.2.2.1 17), .ref 47, .int (s.2.2.1 18), .ref 48, .int (s.2.2.1 19), .ref 49, .ref 50, .ref 51, .ref 52, .long (s.2.2.2 3), .long (s.2.2.2 4)].set 17 (.long v))) = hp (uG 4 v s) ex := rfl
theorem hg43 (s : mS) (ex : mHp) : mget (hp s ex) 43 = some (.inl (.long, 42, .inr (.inl (s.2.1 43)))) := rfl
theorem hA43 (s : mS) (ex : mHp) (T : Nat → Int64) : mput (hp s ex) 43 (.inl (.long, 42, .inr (.inl T))) = hp (uJ 43 T s) ex := rfl
theorem hg44 (s : mS) (ex : mHp) : mget (hp s ex) 44 = some (.inl (.long, 42, .inr (.inl (s.2.1 44)))) := rfl
theorem hA44 (s : mS) (ex : mHp) (T : Nat → Int64) : mput (hp s ex) 44 (.inl (.long, 42, .inr (.inl T))) = hp (uJ 44 T s) ex := rfl
theorem hg45 (s : mS) (ex : mHp) : mget (hp s ex) 45 = some (.inl (.boolean, 1600, .inl (s.1 45))) := rfl
theorem hA45 (s : mS) (ex : mHp) (T : Nat → Int32) : mput (hp s ex) 45 (.inl (.boolean, 1600, .inl T)) = hp (uA 45 T s) ex := rfl
theorem hg46 (s : mS) (ex : mHp) : mget (hp s ex) 46 = some (.inl (.boolean, 1600, .inl (s.1 46))) := rfl
theorem hA46 (s : mS) (ex : mHp) (T : Nat → Int32) : mput (hp s ex) 46 (.inl (.boolean, 1600, .inl T)) = hp (uA 46 T s) ex := rfl
theorem hg47 (s : mS) (ex : mHp) : mget (hp s ex) 47 = some (.inl (.int, 300, .inl (s.1 47))) := rfl
theorem hA47 (s : mS) (ex : mHp) (T : Nat → Int32) : mput (hp s ex) 47 (.inl (.int, 300, .inl T)) = hp (uA 47 T s) ex := rfl
theorem hg48 (s : mS) (ex : mHp) : mget (hp s ex) 48 = some (.inl (.int, 100, .inl (s.1 48))) := rfl
theorem hA48 (s : mS) (ex : mHp) (T : Nat → Int32) : mput (hp s ex) 48 (.inl (.int, 100, .inl T)) = hp (uA 48 T s) ex := rfl
theorem hg49 (s : mS) (ex : mHp) : mget (hp s ex) 49 = some (.inl (.int, 100, .inl (s.1 49))) := rfl
theorem hA49 (s : mS) (ex : mHp) (T : Nat → Int32) : mput (hp s ex) 49 (.inl (.int, 100, .inl T)) = hp (uA 49 T s) ex := rfl
theorem hg50 (s : mS) (ex : mHp) : mget (hp s ex) 50 = some (.inl (.int, 100, .inl (s.1 50))) := rfl
theorem hA50 (s : mS) (ex : mHp) (T : Nat → Int32) : mput (hp s ex) 50 (.inl (.int, 100, .inl T)) = hp (uA 50 T s) ex := rfl
theorem hg51 (s : mS) (ex : mHp) : mget (hp s ex) 51 = some (.inl (.int, 100, .inl (s.1 51))) := rfl
theorem hA51 (s : mS) (ex : mHp) (T : Nat → Int32) : mput (hp s ex) 51 (.inl (.int, 100, .inl T)) = hp (uA 51 T s) ex := rfl
theorem hg52 (s : mS) (ex : mHp) : mget (hp s ex) 52 = some (.inl (.int, 100, .inl (s.1 52))) := rfl
theorem hA52 (s : mS) (ex : mHp) (T : Nat → Int32) : mput (hp s ex) 52 (.inl (.int, 100, .inl T)) = hp (uA 52 T s) ex := rfl
theorem hg53 (s : mS) (ex : mHp) : mget (hp s ex) 53 = some (.inl (.long, 1, .inr (.inl (s.2.1 53)))) := rfl
theorem hA53 (s : mS) (ex : mHp) (T : Nat → Int64) : mput (hp s ex) 53 (.inl (.long, 1, .inr (.inl T))) = hp (uJ 53 T s) ex := rfl
