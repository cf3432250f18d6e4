/-! M1: the arithmetic is exact: areas and circles as integers -/
theorem rdI_nI {α : Type} {n N : Nat} {k : Option α} (h : n < N) (hN : N < 2 ^ 31) : rdI N (nI n) k = k := by
  unfold rdI
  have h1 : vp_in (nI n) N := vp_in_nI h hN
  rw [if_neg h1]
theorem bm32 {z : Int} (h1 : -2147483648 ≤ z) (h2 : z ≤ 2147483647) : z.bmod (2 ^ 32) = z := by
  rw [Int.bmod_def]
  split <;> omega
theorem bm64 {z : Int} (h1 : -9223372036854775808 ≤ z) (h2 : z ≤ 9223372036854775807) : z.bmod (2 ^ 64) = z := by
  rw [Int.bmod_def]
  split <;> omega
theorem i32s {x y : Int32} (h1 : -2147483648 ≤ x.toInt - y.toInt) (h2 : x.toInt - y.toInt ≤ 2147483647) : (x - y).toInt = x.toInt - y.toInt := by
  rw [Int32.toInt_sub]; exact bm32 h1 h2
theorem i64s {x y : Int64} (h1 : -9223372036854775808 ≤ x.toInt - y.toInt) (h2 : x.toInt - y.toInt ≤ 9223372036854775807) : (x - y).toInt = x.toInt - y.toInt := by
  rw [Int64.toInt_sub]; exact bm64 h1 h2
theorem i64a {x y : Int64} (h1 : -9223372036854775808 ≤ x.toInt + y.toInt) (h2 : x.toInt + y.toInt ≤ 9223372036854775807) : (x + y).toInt = x.toInt + y.toInt := by
  rw [Int64.toInt_add]; exact bm64 h1 h2
theorem i64m {x y : Int64} (h1 : -9223372036854775808 ≤ x.toInt * y.toInt) (h2 : x.toInt * y.toInt ≤ 9223372036854775807) : (x * y).toInt = x.toInt * y.toInt := by
  rw [Int64.toInt_mul]; exact bm64 h1 h2
theorem i64_of32 (x : Int32) : x.toInt64.toInt = x.toInt := Int32.toInt_toInt64 x
theorem mul_bd {a b : Int} {A B : Nat} (ha : a.natAbs ≤ A) (hb : b.natAbs ≤ B) : (a * b).natAbs ≤ A * B := by
  rw [Int.natAbs_mul]; exact Nat.mul_le_mul ha hb
/-- a long that is the integer z, which is no greater than B -/
def Ex (x : Int64) (z : Int) (B : Nat) : Prop := x.toInt = z ∧ z.natAbs ≤ B
theorem Ex.mul {x y : Int64} {a b : Int} {A B C : Nat} (h1 : Ex x a A) (h2 : Ex y b B) (hC : A * B = C) (hB : C ≤ 9223372036854775807) : Ex (x * y) (a * b) C := by
  have m := mul_bd h1.2 h2.2
  rw [hC] at m
  refine ⟨?_, m⟩
  rw [← h1.1, ← h2.1] at m ⊢
  exact i64m (by omega) (by omega)
theorem Ex.add {x y : Int64} {a b : Int} {A B C : Nat} (h1 : Ex x a A) (h2 : Ex y b B) (hC : A + B = C) (hB : C ≤ 9223372036854775807) : Ex (x + y) (a + b) C := by
  have m1 := h1.2
  have m2 := h2.2
  refine ⟨?_, by omega⟩
  rw [← h1.1, ← h2.1] at *
  exact i64a (by omega) (by omega)
theorem Ex.sub {x y : Int64} {a b : Int} {A B C : Nat} (h1 : Ex x a A) (h2 : Ex y b B) (hC : A + B = C) (hB : C ≤ 9223372036854775807) : Ex (x - y) (a - b) C := by
  have m1 := h1.2
  have m2 := h2.2
  refine ⟨?_, by omega⟩
  rw [← h1.1, ← h2.1] at *
  exact i64s (by omega) (by omega)
def Xc (s : mS) (j : Nat) : Int := (s.1 18 j).toInt
def Yc (s : mS) (j : Nat) : Int := (s.1 19 j).toInt
/-- every place lies within the bounds -/
def P42 (s : mS) : Prop := ∀ j : Nat, j < 42 → (Xc s j).natAbs ≤ 536870911 ∧ (Yc s j).natAbs ≤ 536870911
def ar (X Y : Nat → Int) (a b c : Nat) : Int := (X b - X a) * (Y c - Y a) - (Y b - Y a) * (X c - X a)
def sq (X Y : Nat → Int) (a b : Nat) : Int := (X b - X a) * (X b - X a) + (Y b - Y a) * (Y b - Y a)
/-- > 0: d lies inside the circle through a, b, c, which go round to the left -/
def inc (X Y : Nat → Int) (a b c d : Nat) : Int := sq X Y d a * ar X Y d b c + sq X Y d b * ar X Y d c a + sq X Y d c * ar X Y d a b
def sgn (z : Int) : Int32 := if 0 < z then 1 else if z < 0 then -1 else 0
theorem dX {s : mS} (hP : P42 s) {a b : Nat} (ha : a < 42) (hb : b < 42) : Ex (Int32.toInt64 (s.1 18 b - s.1 18 a)) (Xc s b - Xc s a) 1073741822 := by
  have h1 := (hP a ha).1
  have h2 := (hP b hb).1
  unfold Xc at h1 h2 ⊢
  refine ⟨?_, by omega⟩
  rw [i64_of32, i32s (by omega) (by omega)]
theorem dY {s : mS} (hP : P42 s) {a b : Nat} (ha : a < 42) (hb : b < 42) : Ex (Int32.toInt64 (s.1 19 b - s.1 19 a)) (Yc s b - Yc s a) 1073741822 := by
  have h1 := (hP a ha).2
  have h2 := (hP b hb).2
  unfold Yc at h1 h2 ⊢
  refine ⟨?_, by omega⟩
  rw [i64_of32, i32s (by omega) (by omega)]
theorem f71_eq {s : mS} (hP : P42 s) {a b c : Nat} (ha : a < 42) (hb : b < 42) (hc : c < 42) : ∃ v, f71 (nI a) (nI b) (nI c) s = some v ∧ Ex v (ar (Xc s) (Yc s) a b c) 2305843000623759368 := by
  unfold f71
  simp only [rdI_nI ha (by decide), rdI_nI hb (by decide), rdI_nI hc (by decide), nI_clamp (show a < 2 ^ 31 by omega), nI_clamp (show b < 2 ^ 31 by omega), nI_clamp (show c < 2 ^ 31 by omega)]
  exact ⟨_, rfl, ((dX hP ha hb).mul (dY hP ha hc) rfl (by decide)).sub ((dY hP ha hb).mul (dX hP ha hc) rfl (by decide)) rfl (by decide)⟩
theorem f98_eq (v : Int64) (s : mS) : f98 v s = some (sgn v.toInt) := by
  unfold f98 sgn
  have e0 : (0 : Int64).toInt = 0 := by decide
  by_cases h1 : v ≤ 0
  · rw [if_pos h1]
    have g1 : v.toInt ≤ 0 := by have := Int64.le_iff_toInt_le.mp h1; omega
    by_cases h2 : (0 : Int64) ≤ v
    · rw [if_pos h2]
      have g2 : 0 ≤ v.toInt := by have := Int64.le_iff_toInt_le.mp h2; omega
      rw [if_neg (by omega), if_neg (by omega)]
    · rw [if_neg h2]
      have g2 : ¬ 0 ≤ v.toInt := fun h => h2 (Int64.le_iff_toInt_le.mpr (by omega))
      rw [if_neg (by omega), if_pos (by omega)]
  · rw [if_neg h1]
    have g1 : ¬ v.toInt ≤ 0 := fun h => h1 (Int64.le_iff_toInt_le.mpr (by omega))
    rw [if_pos (by omega)]
theorem f73_eq {s : mS} (hP : P42 s) {a b c : Nat} (ha : a < 42) (hb : b < 42) (hc : c < 42) : f73 (nI a) (nI b) (nI c) s = some (sgn (ar (Xc s) (Yc s) a b c)) := by
  obtain ⟨v, h1, h2⟩ := f71_eq hP ha hb hc
  unfold f73
  rw [h1]
  show (f98 v s).bind _ = _
  rw [f98_eq, h2.1]
  rfl
theorem f76_eq {s : mS} (hP : P42 s) {a b : Nat} (ha : a < 42) (hb : b < 42) : ∃ v, f76 (nI a) (nI b) s = some v ∧ Ex v (sq (Xc s) (Yc s) a b) 2305843000623759368 := by
  unfold f76
  simp only [rdI_nI ha (by decide), rdI_nI hb (by decide), nI_clamp (show a < 2 ^ 31 by omega), nI_clamp (show b < 2 ^ 31 by omega)]
  exact ⟨_, rfl, ((dX hP ha hb).mul (dX hP ha hb) rfl (by decide)).add ((dY hP ha hb).mul (dY hP ha hb) rfl (by decide)) rfl (by decide)⟩
