/-! M2: the tables of the mesh -/
/-- nothing but these tables and fields has changed -/
def sm (LA LJ LF LG : List Nat) (s t : mS) : Prop := (∀ j, j ∉ LA → t.1 j = s.1 j) ∧ (∀ j, j ∉ LJ → t.2.1 j = s.2.1 j) ∧ (∀ j, j ∉ LF → t.2.2.1 j = s.2.2.1 j) ∧ (∀ j, j ∉ LG → t.2.2.2 j = s.2.2.2 j)
theorem sm.refl {LA LJ LF LG : List Nat} (s : mS) : sm LA LJ LF LG s s := ⟨fun _ _ => rfl, fun _ _ => rfl, fun _ _ => rfl, fun _ _ => rfl⟩
theorem sm.trans {LA LJ LF LG : List Nat} {s t u : mS} (h1 : sm LA LJ LF LG s t) (h2 : sm LA LJ LF LG t u) : sm LA LJ LF LG s u := ⟨fun j hj => (h2.1 j hj).trans (h1.1 j hj), fun j hj => (h2.2.1 j hj).trans (h1.2.1 j hj), fun j hj => (h2.2.2.1 j hj).trans (h1.2.2.1 j hj), fun j hj => (h2.2.2.2 j hj).trans (h1.2.2.2 j hj)⟩
theorem sm.mono {LA LJ LF LG KA KJ KF KG : List Nat} {s t : mS} (h : sm LA LJ LF LG s t) (h1 : ∀ j, j ∈ LA → j ∈ KA) (h2 : ∀ j, j ∈ LJ → j ∈ KJ) (h3 : ∀ j, j ∈ LF → j ∈ KF) (h4 : ∀ j, j ∈ LG → j ∈ KG) : sm KA KJ KF KG s t :=
  ⟨fun j hj => h.1 j fun k => hj (h1 j k), fun j hj => h.2.1 j fun k => hj (h2 j k), fun j hj => h.2.2.1 j fun k => hj (h3 j k), fun j hj => h.2.2.2 j fun k => hj (h4 j k)⟩
theorem sm_A {LA LJ LF LG : List Nat} {k : Nat} (hk : k ∈ LA) (T : Nat → Int32) (s : mS) : sm LA LJ LF LG s (uA k T s) := ⟨fun j hj => by
  show (if j = k then T else s.1 j) = _
  rw [if_neg (fun e => hj (by rw [e]; exact hk))], fun _ _ => rfl, fun _ _ => rfl, fun _ _ => rfl⟩
theorem sm_J {LA LJ LF LG : List Nat} {k : Nat} (hk : k ∈ LJ) (T : Nat → Int64) (s : mS) : sm LA LJ LF LG s (uJ k T s) := ⟨fun _ _ => rfl, fun j hj => by
  show (if j = k then T else s.2.1 j) = _
  rw [if_neg (fun e => hj (by rw [e]; exact hk))], fun _ _ => rfl, fun _ _ => rfl⟩
theorem sm_F {LA LJ LF LG : List Nat} {k : Nat} (hk : k ∈ LF) (v : Int32) (s : mS) : sm LA LJ LF LG s (uF k v s) := ⟨fun _ _ => rfl, fun _ _ => rfl, fun j hj => by
  show (if j = k then v else s.2.2.1 j) = _
  rw [if_neg (fun e => hj (by rw [e]; exact hk))], fun _ _ => rfl⟩
theorem uA_at (k : Nat) (T : Nat → Int32) (s : mS) : (uA k T s).1 k = T := if_pos rfl
theorem uJ_at (k : Nat) (T : Nat → Int64) (s : mS) : (uJ k T s).2.1 k = T := if_pos rfl
theorem uF_at (k : Nat) (v : Int32) (s : mS) : (uF k v s).2.2.1 k = v := if_pos rfl
/-- all that the mesh and its grower write -/
def mz (s t : mS) : Prop := sm [24, 25, 26, 27, 30, 31] [28] [2, 3, 4] [0, 1, 2] s t
theorem mz.X {s t : mS} (h : mz s t) : Xc t = Xc s := funext fun j => by unfold Xc; rw [h.1 18 (by decide)]
theorem mz.Y {s t : mS} (h : mz s t) : Yc t = Yc s := funext fun j => by unfold Yc; rw [h.1 19 (by decide)]
theorem mz.P {s t : mS} (h : mz s t) (hP : P42 s) : P42 t := fun j hj => by rw [h.X, h.Y]; exact hP j hj
theorem mz.n {s t : mS} (h : mz s t) : t.2.2.1 0 = s.2.2.1 0 := h.2.2.1 0 (by decide)
theorem mz.l {s t : mS} (h : mz s t) : t.2.1 22 = s.2.1 22 := h.2.1 22 (by decide)
/-- three cells of the thirds -/
def th3 (T : Nat → Int32) (a b c : Nat) (u v w : Int32) : Nat → Int32 := upd (upd (upd T (40 * a + b) u) (40 * b + c) v) (40 * c + a) w
theorem th3_at {T : Nat → Int32} {a b c : Nat} {u v w : Int32} (ha : a < 40) (hb : b < 40) (hc : c < 40) {x y : Nat} (hx : x < 40) (hy : y < 40) :
    th3 T a b c u v w (40 * x + y) = if x = c ∧ y = a then w else if x = b ∧ y = c then v else if x = a ∧ y = b then u else T (40 * x + y) := by
  unfold th3 upd
  simp only [idx_eq hy ha, idx_eq hy hb, idx_eq hy hc]
theorem f49_eq {a b c : Nat} (ha : a < 40) (hb : b < 40) (hc : c < 40) (s : mS) : f49 (nI a) (nI b) (nI c) s = some (uA 24 (th3 (s.1 24) a b c (nI c) (nI a) (nI b)) s) := by
  unfold f49
  simp only [f99_eq, Option.bind_some, rdI_nI (idx_lt ha hb) (show 1600 < 2 ^ 31 by decide), rdI_nI (idx_lt hb hc) (show 1600 < 2 ^ 31 by decide), rdI_nI (idx_lt hc ha) (show 1600 < 2 ^ 31 by decide), nI_clamp (show 40 * a + b < 2 ^ 31 by omega), nI_clamp (show 40 * b + c < 2 ^ 31 by omega), nI_clamp (show 40 * c + a < 2 ^ 31 by omega), pt, uA_at]
  congr 1
  unfold uA th3
  ext <;> simp
  split <;> rfl
theorem f56_eq {a b c : Nat} (ha : a < 40) (hb : b < 40) (hc : c < 40) (s : mS) : f56 (nI a) (nI b) (nI c) s = some (uA 24 (th3 (s.1 24) a b c (-1) (-1) (-1)) s) := by
  unfold f56
  simp only [f99_eq, Option.bind_some, rdI_nI (idx_lt ha hb) (show 1600 < 2 ^ 31 by decide), rdI_nI (idx_lt hb hc) (show 1600 < 2 ^ 31 by decide), rdI_nI (idx_lt hc ha) (show 1600 < 2 ^ 31 by decide), nI_clamp (show 40 * a + b < 2 ^ 31 by omega), nI_clamp (show 40 * b + c < 2 ^ 31 by omega), nI_clamp (show 40 * c + a < 2 ^ 31 by omega), pt, uA_at]
  congr 1
  unfold uA th3
  ext <;> simp
  split <;> rfl
/-- the stack of suspects, its top first -/
def Stk (A : Nat → Int32) : List Nat → Prop
  | [] => True
  | c :: l => A l.length = nI c ∧ Stk A l
theorem Stk_upd {A : Nat → Int32} {i : Nat} {v : Int32} : ∀ {l : List Nat}, l.length ≤ i → Stk A l → Stk (upd A i v) l := by
  intro l
  induction l with
  | nil => intro _ _; trivial
  | cons c l ih =>
    intro hl h
    rw [List.length_cons] at hl
    refine ⟨?_, ih (by omega) h.2⟩
    unfold upd
    rw [if_neg (by omega)]
    exact h.1
def cd (a b : Nat) : Nat := 40 * min a b + max a b
def vl (c : Nat) : Prop := c < 1600 ∧ c / 40 < c % 40
theorem cd_vl {a b : Nat} (ha : a < 40) (hb : b < 40) (hab : a ≠ b) : vl (cd a b) := by unfold vl cd; omega
theorem cd_comm (a b : Nat) : cd a b = cd b a := by unfold cd; omega
theorem cd_eq {a b x y : Nat} (ha : a < 40) (hb : b < 40) (hx : x < 40) (hy : y < 40) : cd a b = cd x y ↔ (a = x ∧ b = y) ∨ (a = y ∧ b = x) := by unfold cd; omega
theorem vls_len : ((List.range 1600).filter (fun c => decide (c / 40 < c % 40))).length = 780 := by decide +kernel
theorem vl_len {l : List Nat} (hn : l.Nodup) (hv : ∀ c, c ∈ l → vl c) : l.length ≤ 780 := by
  rw [← vls_len]
  exact nd_len _ _ hn fun c hc => List.mem_filter.mpr ⟨List.mem_range.mpr (hv c hc).1, decide_eq_true (hv c hc).2⟩
def SU (s : mS) (l : List Nat) : Prop := s.2.2.1 3 = nI l.length ∧ Stk (s.1 27) l ∧ l.Nodup ∧ (∀ c, c ∈ l → vl c) ∧ ∀ x y, x < 40 → y < 40 → (bL (s.2.1 28 x) y = true ↔ x < y ∧ 40 * x + y ∈ l)
theorem SU.len {s : mS} {l : List Nat} (h : SU s l) : l.length ≤ 780 := vl_len h.2.2.1 h.2.2.2.1
theorem SU.same {s t : mS} {l : List Nat} (h : SU s l) (h1 : t.1 27 = s.1 27) (h2 : t.2.1 28 = s.2.1 28) (h3 : t.2.2.1 3 = s.2.2.1 3) : SU t l := by
  unfold SU at *
  rw [h1, h2, h3]
  exact h
theorem f169_nI {a b : Nat} (ha : a < 2 ^ 31) (hb : b < 2 ^ 31) (s : mS) : f169 (nI a) (nI b) s = some (nI (min a b)) := by
  obtain ⟨m, h1, h2⟩ := f169_eq (nI a) (nI b) s
  rw [h1]
  congr 1
  apply Int32.toInt_inj.mp
  rw [h2, nI_toInt ha, nI_toInt hb, nI_toInt (by omega)]
  omega
theorem f170_nI {a b : Nat} (ha : a < 2 ^ 31) (hb : b < 2 ^ 31) (s : mS) : f170 (nI a) (nI b) s = some (nI (max a b)) := by
  obtain ⟨m, h1, h2⟩ := f170_eq (nI a) (nI b) s
  rw [h1]
  congr 1
  apply Int32.toInt_inj.mp
  rw [h2, nI_toInt ha, nI_toInt hb, nI_toInt (by omega)]
  omega
/-- a frame of what suspect writes -/
def ms (s t : mS) : Prop := sm [27] [28] [3] [] s t
theorem ms.z {s t : mS} (h : ms s t) : mz s t := h.mono (by decide) (by decide) (by decide) (by decide)
theorem f55_ev {s : mS} {l : List Nat} (hS : SU s l) {a b : Nat} (ha : a < 40) (hb : b < 40) (hab : a ≠ b) : ∃ t l', f55 (nI a) (nI b) s = some t ∧ SU t l' ∧ ms s t ∧ (∀ c, c ∈ l' ↔ c ∈ l ∨ c = cd a b) ∧ l'.length ≤ l.length + 1 := by
  have hlen := hS.len
  have hmn : min a b < 40 := by omega
  have hmx : max a b < 40 := by omega
  have ecd : 40 * min a b + max a b = cd a b := rfl
  have base : f55 (nI a) (nI b) s = if ¬ bL (s.2.1 28 (min a b)) (max a b) = false then some s else some (uF 3 (s.2.2.1 3 + 1) (uA 27 (upd (s.1 27) l.length (nI (cd a b))) (uJ 28 (vp_updL (s.2.1 28) (min a b) ((s.2.1 28 (min a b)) ||| ((1 : Int64) <<< ((nI (max a b)).toInt64 &&& 63)))) s))) := by
    unfold f55
    simp only [f169_nI (show a < 2 ^ 31 by omega) (show b < 2 ^ 31 by omega), f170_nI (show a < 2 ^ 31 by omega) (show b < 2 ^ 31 by omega), Option.bind_some, rdI_nI hmn (show 40 < 2 ^ 31 by decide), nI_clamp (show min a b < 2 ^ 31 by omega), bL_has _ (show max a b < 64 by omega), pt, f99_eq]
    have e3 : (uJ 28 (vp_updL (s.2.1 28) (min a b) ((s.2.1 28 (min a b)) ||| ((1 : Int64) <<< ((nI (max a b)).toInt64 &&& 63)))) s).2.2.1 3 = nI l.length := hS.1
    rw [e3, rdI_nI (show l.length < 800 by omega) (by decide), nI_clamp (by omega)]
    rfl
  have hb2 := hS.2.2.2.2 (min a b) (max a b) hmn hmx
  by_cases h : bL (s.2.1 28 (min a b)) (max a b) = true
  · rw [h, if_pos (by decide)] at base
    have hin : cd a b ∈ l := (hb2.mp h).2
    refine ⟨s, l, base, hS, sm.refl s, fun c => ⟨Or.inl, fun q => ?_⟩, by omega⟩
    rcases q with q | q
    · exact q
    · rw [q]; exact hin
  · have h' : bL (s.2.1 28 (min a b)) (max a b) = false := by
      cases q : bL (s.2.1 28 (min a b)) (max a b) with
      | false => rfl
      | true => exact absurd q h
    rw [h', if_neg (by decide)] at base
    have hnin : cd a b ∉ l := fun q => h (hb2.mpr ⟨by omega, q⟩)
    refine ⟨_, cd a b :: l, base, ⟨?_, ⟨?_, ?_⟩, ?_, ?_, ?_⟩, ?_, ?_, ?_⟩
    · rw [uF_at, hS.1, List.length_cons, nI_1]
    · show upd (s.1 27) l.length (nI (cd a b)) l.length = _
      unfold upd
      rw [if_pos rfl]
    · show Stk (upd (s.1 27) l.length (nI (cd a b))) l
      exact Stk_upd (Nat.le_refl _) hS.2.1
    · exact List.nodup_cons.mpr ⟨hnin, hS.2.2.1⟩
    · intro c hc
      rcases List.mem_cons.mp hc with rfl | hc
      · exact cd_vl ha hb hab
      · exact hS.2.2.2.1 c hc
    · intro x y hx hy
      have e28 : (uF 3 (s.2.2.1 3 + 1) (uA 27 (upd (s.1 27) l.length (nI (cd a b))) (uJ 28 (vp_updL (s.2.1 28) (min a b) ((s.2.1 28 (min a b)) ||| ((1 : Int64) <<< ((nI (max a b)).toInt64 &&& 63)))) s))).2.1 28 = vp_updL (s.2.1 28) (min a b) ((s.2.1 28 (min a b)) ||| ((1 : Int64) <<< ((nI (max a b)).toInt64 &&& 63))) := uJ_at 28 _ s
      rw [e28]
      unfold vp_updL
      have hxy := hS.2.2.2.2 x y hx hy
      by_cases e : x = min a b
      · rw [if_pos e, bL_or _ (by omega), ← e, Bool.or_eq_true, hxy, decide_eq_true_iff, List.mem_cons, ← ecd]
        by_cases hq : 40 * x + y ∈ l
        · simp only [hq, and_true, or_true]; omega
        · simp only [hq, and_false, or_false, false_or]; omega
      · rw [if_neg e, hxy, List.mem_cons, ← ecd]
        by_cases hq : 40 * x + y ∈ l
        · simp only [hq, and_true, or_true]
        · simp only [hq, and_false, or_false]
          exact ⟨fun h => h.elim, fun h => by omega⟩
    · exact ((sm_J (by decide) _ s).trans (sm_A (by decide) _ _)).trans (sm_F (by decide) _ _)
    · intro c
      rw [List.mem_cons]
      exact ⟨fun q => q.symm, fun q => q.symm⟩
    · simp
