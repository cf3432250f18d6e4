/-! M1: the reference's circle test; what lies on a segment, in both -/
theorem uN_zero {x : Int64} : (uN x : Int) = 0 ↔ x = 0 := by
  have h := uN_mod x
  have h1 := uN_int x
  have h2 := uN_lt x
  have e0 : (0 : Int64).toInt = 0 := by decide
  constructor
  · intro hz
    have h3 : uN x = 0 := by omega
    rw [h3] at h1
    exact Int64.toInt_inj.mp (by rw [h1]; decide)
  · intro hz
    rw [hz] at h ⊢
    rw [h, e0]
    rfl
theorem sameV.P {s t : mS} (h : sameV s t) : Xm t = Xm s ∧ Ym t = Ym s := by
  unfold Xm Ym
  rw [h.2.1]
  exact ⟨rfl, rfl⟩
theorem f135_eq {s : mS} (hP : PM s) {a b c d : Nat} (ha : a < 42) (hb : b < 42) (hc : c < 42) (hd : d < 42) : ∃ t, f135 (nI a) (nI b) (nI c) (nI d) s = some (sgn (inc (Xm s) (Ym s) a b c d), t) ∧ sameV s t := by
  have ea1 := ((dXm hP hd ha).mul (dXm hP hd ha) rfl (by decide)).add ((dYm hP hd ha).mul (dYm hP hd ha) rfl (by decide)) rfl (by decide)
  have eb1 := ((dXm hP hd hb).mul (dYm hP hd hc) rfl (by decide)).sub ((dYm hP hd hb).mul (dXm hP hd hc) rfl (by decide)) rfl (by decide)
  have ea2 := ((dXm hP hd hb).mul (dXm hP hd hb) rfl (by decide)).add ((dYm hP hd hb).mul (dYm hP hd hb) rfl (by decide)) rfl (by decide)
  have eb2 := ((dXm hP hd hc).mul (dYm hP hd ha) rfl (by decide)).sub ((dYm hP hd hc).mul (dXm hP hd ha) rfl (by decide)) rfl (by decide)
  have ea3 := ((dXm hP hd hc).mul (dXm hP hd hc) rfl (by decide)).add ((dYm hP hd hc).mul (dYm hP hd hc) rfl (by decide)) rfl (by decide)
  have eb3 := ((dXm hP hd ha).mul (dYm hP hd hb) rfl (by decide)).sub ((dYm hP hd ha).mul (dXm hP hd hb) rfl (by decide)) rfl (by decide)
  have m0 : sameV s (uG 4 0 (uG 3 0 s)) := ⟨rfl, rfl, rfl, fun j hj => by
    show (if j = 4 then _ else if j = 3 then _ else s.2.2.2 j) = _
    rw [if_neg (by omega), if_neg (by omega)]⟩
  obtain ⟨t1, e1, w1, v1, m1⟩ := f136_eq (s := uG 4 0 (uG 3 0 s)) ea1 eb1 (B := 0) (by decide) (by show (0 : Int64).toInt.natAbs ≤ _; decide)
  obtain ⟨t2, e2, w2, v2, m2⟩ := f136_eq (s := t1) ea2 eb2 (by decide) w1
  obtain ⟨t3, e3, w3, v3, m3⟩ := f136_eq (s := t2) ea3 eb3 (by decide) w2
  have v0 : Vv (uG 4 0 (uG 3 0 s)) = 0 := by
    show (0 : Int64).toInt * 18446744073709551616 + (uN 0 : Int) = 0
    decide
  have vv : Vv t3 = inc (Xm s) (Ym s) a b c d := by
    rw [v3, v2, v1, v0]
    unfold inc sq ar
    rw [Int.zero_add]
  refine ⟨t3, ?_, ((m0.trans m1).trans m2).trans m3⟩
  unfold f135
  simp only [rdI_nI ha (by decide), rdI_nI hb (by decide), rdI_nI hc (by decide), rdI_nI hd (by decide), nI_clamp (show a < 2 ^ 31 by omega), nI_clamp (show b < 2 ^ 31 by omega), nI_clamp (show c < 2 ^ 31 by omega), nI_clamp (show d < 2 ^ 31 by omega), pt, e1, e2, e3, Option.bind_some]
  rw [← vv]
  unfold Vv sgn
  have u := uN_lt (t3.2.2.2 4)
  have uz := uN_zero (x := t3.2.2.2 4)
  have e0 : (0 : Int64).toInt = 0 := by decide
  by_cases h1 : (0 : Int64) ≤ t3.2.2.2 3
  · rw [if_pos h1]
    have g1 : 0 ≤ (t3.2.2.2 3).toInt := by have := Int64.le_iff_toInt_le.mp h1; omega
    by_cases h2 : t3.2.2.2 3 = 0
    · rw [if_neg (by simpa using h2), h2, e0]
      by_cases h3 : t3.2.2.2 4 = 0
      · rw [if_neg (by simpa using h3)]
        have := uz.mpr h3
        rw [if_neg (by omega), if_neg (by omega)]
      · rw [if_pos h3]
        have : (uN (t3.2.2.2 4) : Int) ≠ 0 := fun h => h3 (uz.mp h)
        rw [if_pos (by omega)]
    · rw [if_pos h2]
      have g2 : (t3.2.2.2 3).toInt ≠ 0 := fun h => h2 (Int64.toInt_inj.mp (h.trans e0.symm))
      rw [if_pos (by omega)]
  · rw [if_neg h1]
    have g1 : ¬ 0 ≤ (t3.2.2.2 3).toInt := fun h => h1 (Int64.le_iff_toInt_le.mpr (by omega))
    rw [if_neg (by omega), if_pos (by omega)]
def bI (b : Bool) : Int32 := if b = true then 1 else 0
def betw (u v w : Int) : Bool := decide (min u v ≤ w) && decide (w ≤ max u v)
/-- p lies on the segment from a to b -/
def onB (X Y : Nat → Int) (a b p : Nat) : Bool := decide (ar X Y a b p = 0) && (betw (X a) (X b) (X p) && betw (Y a) (Y b) (Y p))
theorem f169_eq (x y : Int32) (s : mS) : ∃ m, f169 x y s = some m ∧ m.toInt = min x.toInt y.toInt := by
  unfold f169
  by_cases h : y < x
  · rw [if_pos h]
    have := Int32.lt_iff_toInt_lt.mp h
    exact ⟨_, rfl, by omega⟩
  · rw [if_neg h]
    have : ¬ y.toInt < x.toInt := fun q => h (Int32.lt_iff_toInt_lt.mpr q)
    exact ⟨_, rfl, by omega⟩
theorem f170_eq (x y : Int32) (s : mS) : ∃ m, f170 x y s = some m ∧ m.toInt = max x.toInt y.toInt := by
  unfold f170
  by_cases h : x < y
  · rw [if_pos h]
    have := Int32.lt_iff_toInt_lt.mp h
    exact ⟨_, rfl, by omega⟩
  · rw [if_neg h]
    have : ¬ x.toInt < y.toInt := fun q => h (Int32.lt_iff_toInt_lt.mpr q)
    exact ⟨_, rfl, by omega⟩
theorem f70_eq {s : mS} (hP : P42 s) {a b p : Nat} (ha : a < 42) (hb : b < 42) (hp : p < 42) : f70 (nI a) (nI b) (nI p) s = some (bI (onB (Xc s) (Yc s) a b p)) := by
  obtain ⟨v, h1, h2⟩ := f71_eq hP ha hb hp
  obtain ⟨m1, q1, z1⟩ := f169_eq (s.1 18 a) (s.1 18 b) s
  obtain ⟨m2, q2, z2⟩ := f170_eq (s.1 18 a) (s.1 18 b) s
  obtain ⟨m3, q3, z3⟩ := f169_eq (s.1 19 a) (s.1 19 b) s
  obtain ⟨m4, q4, z4⟩ := f170_eq (s.1 19 a) (s.1 19 b) s
  unfold f70
  simp only [h1, Option.bind_some, rdI_nI ha (by decide), rdI_nI hb (by decide), rdI_nI hp (by decide), nI_clamp (show a < 2 ^ 31 by omega), nI_clamp (show b < 2 ^ 31 by omega), nI_clamp (show p < 2 ^ 31 by omega), q1, q2, q3, q4]
  have e0 : (0 : Int64).toInt = 0 := by decide
  have k1 : (s.1 18 a).toInt = Xc s a := rfl
  have k2 : (s.1 18 b).toInt = Xc s b := rfl
  have k3 : (s.1 19 a).toInt = Yc s a := rfl
  have k4 : (s.1 19 b).toInt = Yc s b := rfl
  have k5 : (s.1 18 p).toInt = Xc s p := rfl
  have k6 : (s.1 19 p).toInt = Yc s p := rfl
  rw [k1, k2] at z1 z2
  rw [k3, k4] at z3 z4
  unfold onB betw bI
  by_cases hz : v = 0
  · rw [if_neg (by simpa using hz)]
    have ez : ar (Xc s) (Yc s) a b p = 0 := by rw [← h2.1, hz, e0]
    by_cases c1 : s.1 18 p < m1
    · rw [if_pos c1]
      have := Int32.lt_iff_toInt_lt.mp c1
      rw [if_neg (by simp; omega)]
    · rw [if_neg c1]
      have d1 : ¬ (s.1 18 p).toInt < m1.toInt := fun q => c1 (Int32.lt_iff_toInt_lt.mpr q)
      by_cases c2 : m2 < s.1 18 p
      · rw [if_pos c2]
        have := Int32.lt_iff_toInt_lt.mp c2
        rw [if_neg (by simp; omega)]
      · rw [if_neg c2]
        have d2 : ¬ m2.toInt < (s.1 18 p).toInt := fun q => c2 (Int32.lt_iff_toInt_lt.mpr q)
        by_cases c3 : s.1 19 p < m3
        · rw [if_pos c3]
          have := Int32.lt_iff_toInt_lt.mp c3
          rw [if_neg (by simp; omega)]
        · rw [if_neg c3]
          have d3 : ¬ (s.1 19 p).toInt < m3.toInt := fun q => c3 (Int32.lt_iff_toInt_lt.mpr q)
          by_cases c4 : m4 < s.1 19 p
          · rw [if_pos c4]
            have := Int32.lt_iff_toInt_lt.mp c4
            rw [if_neg (by simp; omega)]
          · rw [if_neg c4]
            have d4 : ¬ m4.toInt < (s.1 19 p).toInt := fun q => c4 (Int32.lt_iff_toInt_lt.mpr q)
            rw [if_pos (by simp; omega)]
  · rw [if_pos hz]
    have ez : ar (Xc s) (Yc s) a b p ≠ 0 := fun h => hz (Int64.toInt_inj.mp (by rw [h2.1, h, e0]))
    rw [if_neg (by simp [ez])]
theorem sgn_zero {z : Int} : sgn z = 0 ↔ z = 0 := by
  unfold sgn
  by_cases h1 : 0 < z
  · rw [if_pos h1]; exact ⟨fun h => absurd h (by decide), fun h => by omega⟩
  · rw [if_neg h1]
    by_cases h2 : z < 0
    · rw [if_pos h2]; exact ⟨fun h => absurd h (by decide), fun h => by omega⟩
    · rw [if_neg h2]; exact ⟨fun _ => by omega, fun _ => rfl⟩
theorem j118_202_eq (v1 v2 v3 : Int32) (x y : Bool) (s : mS) : j118_202 v1 v2 v3 (bI x) (bI y) s = some (bI (x && y)) := by
  cases x <;> cases y <;> rfl
theorem j118_107_eq {s : mS} {a b p : Nat} (ha : a < 42) (hb : b < 42) (hp : p < 42) (x : Bool) : j118_107 (nI a) (nI b) (nI p) (bI x) s = some (bI (x && betw (Ym s a) (Ym s b) (Ym s p))) := by
  unfold j118_107
  simp only [rdI_nI ha (by decide), rdI_nI hb (by decide), rdI_nI hp (by decide), nI_clamp (show a < 2 ^ 31 by omega), nI_clamp (show b < 2 ^ 31 by omega), nI_clamp (show p < 2 ^ 31 by omega), show (0 : Int32) = bI false from rfl, show (1 : Int32) = bI true from rfl, j118_202_eq, Int64.le_iff_toInt_le, Int64.lt_iff_toInt_lt]
  have k1 : (s.2.1 44 a).toInt = Ym s a := rfl
  have k2 : (s.2.1 44 b).toInt = Ym s b := rfl
  have k3 : (s.2.1 44 p).toInt = Ym s p := rfl
  rw [k1, k2, k3]
  unfold betw
  split
  · split
    · congr 3; simp; omega
    · split
      · congr 3; simp; omega
      · congr 3; simp; omega
  · split
    · congr 3; simp; omega
    · split
      · congr 3; simp; omega
      · congr 3; simp; omega
theorem f118_eq {s : mS} (hP : PM s) {a b p : Nat} (ha : a < 42) (hb : b < 42) (hp : p < 42) : f118 (nI a) (nI b) (nI p) s = some (bI (onB (Xm s) (Ym s) a b p)) := by
  unfold f118
  rw [f119_eq hP ha hb hp]
  simp only [Option.bind_some, rdI_nI ha (by decide), rdI_nI hb (by decide), rdI_nI hp (by decide), nI_clamp (show a < 2 ^ 31 by omega), nI_clamp (show b < 2 ^ 31 by omega), nI_clamp (show p < 2 ^ 31 by omega), sgn_zero]
  have f0 : ∀ x : Bool, j118_107 (nI a) (nI b) (nI p) (bI x) s = some (bI (x && betw (Ym s a) (Ym s b) (Ym s p))) := fun x => j118_107_eq ha hb hp x
  have f1 := f0 false
  have f2 := f0 true
  rw [show bI false = 0 from rfl] at f1
  rw [show bI true = 1 from rfl] at f2
  rw [f1, f2]
  simp only [Int64.le_iff_toInt_le, Int64.lt_iff_toInt_lt]
  have k1 : (s.2.1 43 a).toInt = Xm s a := rfl
  have k2 : (s.2.1 43 b).toInt = Xm s b := rfl
  have k3 : (s.2.1 43 p).toInt = Xm s p := rfl
  rw [k1, k2, k3]
  unfold onB
  by_cases hz : ar (Xm s) (Ym s) a b p = 0
  · rw [if_pos hz, decide_eq_true hz, Bool.true_and]
    have e1 : betw (Xm s a) (Xm s b) (Xm s p) = decide (min (Xm s a) (Xm s b) ≤ Xm s p ∧ Xm s p ≤ max (Xm s a) (Xm s b)) := by unfold betw; simp
    split
    · split
      · rw [e1, decide_eq_false (by omega)]; rfl
      · split
        · rw [e1, decide_eq_false (by omega)]; rfl
        · rw [e1, decide_eq_true (by omega)]; rfl
    · split
      · rw [e1, decide_eq_false (by omega)]; rfl
      · split
        · rw [e1, decide_eq_false (by omega)]; rfl
        · rw [e1, decide_eq_true (by omega)]; rfl
  · rw [if_neg hz, decide_eq_false hz]
    rfl
