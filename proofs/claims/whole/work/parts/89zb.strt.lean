/-! the reference's straightening takes nothing away but a last turn at the goal -/
theorem nI_m (i : Nat) (h : i + 1 < 2 ^ 31) : nI (i + 1) - 1 = nI i := nI_s1 h
theorem f154_prv {s : mS} {ts : List Nat} (h19 : s.2.2.1 19 = nI ts.length) (h49 : ∀ i x, ts[i]? = some x → s.1 49 i = nI x) (hl : ts.length ≤ 77) {i a : Nat} (hi : i < ts.length) (ha : (40 :: ts)[i]? = some a) : f154 (nI i - 1) s = some (nI a) := by
  unfold f154
  cases i with
  | zero =>
    have e : 40 = a := by simpa using ha
    rw [← e, if_neg (show ¬ (0 : Int32) ≤ nI 0 - 1 by decide)]
    rfl
  | succ i =>
    have ha : ts[i]? = some a := ha
    rw [nI_m i (by omega), if_pos (show (0 : Int32) ≤ nI i from (nI_leI (a := 0) (by omega) (by omega)).mpr (Nat.zero_le _)), h19, if_pos ((nI_ltI (by omega) (by omega)).mpr (by omega)), rdI_nI (show i < 100 by omega) (by decide), nI_clamp (by omega), h49 i a ha]
theorem f154_nxt {s : mS} {ts : List Nat} (h19 : s.2.2.1 19 = nI ts.length) (h49 : ∀ i x, ts[i]? = some x → s.1 49 i = nI x) (hl : ts.length ≤ 77) {i b : Nat} (hi : i < ts.length) (hb : (ts ++ [41])[i + 1]? = some b) : f154 (nI i + 1) s = some (nI b) := by
  unfold f154
  rw [nI_1, if_pos (show (0 : Int32) ≤ nI (i + 1) from (nI_leI (a := 0) (by omega) (by omega)).mpr (Nat.zero_le _)), h19]
  by_cases c : i + 1 < ts.length
  · rw [List.getElem?_append_left c] at hb
    rw [if_pos ((nI_ltI (by omega) (by omega)).mpr c), rdI_nI (show i + 1 < 100 by omega) (by decide), nI_clamp (by omega), h49 _ b hb]
  · rw [if_neg (fun q => c ((nI_ltI (by omega) (by omega)).mp q))]
    rw [List.getElem?_append_right (by omega), show i + 1 - ts.length = 0 by omega] at hb
    have e : 41 = b := by simpa using hb
    rw [← e]
    rfl
theorem i64_0 {x : Int64} {z : Int} {B : Nat} (h : Ex x z B) : x = 0 ↔ z = 0 := by
  constructor
  · intro e
    have := h.1
    rw [e] at this
    have e0 : (0 : Int64).toInt = 0 := by decide
    omega
  · intro e
    refine Int64.toInt_inj.mp ?_
    rw [h.1, e]
    decide
/-- one place of the way -/
theorem f153_eq {s : mS} (hP : PM s) {i a c b : Nat} (hi : i < 100) (e1 : f154 (nI i - 1) s = some (nI a)) (e2 : s.1 49 i = nI c) (e3 : f154 (nI i + 1) s = some (nI b)) (ha : a < 42) (hc : c < 42) (hb : b < 42) : (NS (Xm s) (Ym s) a c b → f153 (nI i) s = some 1) ∧ (pe (Xm s) (Ym s) c b → f153 (nI i) s = some 0) := by
  have x1 := dXm hP ha hc
  have y1 := dYm hP ha hc
  have x2 := dXm hP hc hb
  have y2 := dYm hP hc hb
  have dotE := (x1.mul x2 (C := 1152921500311879684) (by decide) (by decide)).add (y1.mul y2 (C := 1152921500311879684) (by decide) (by decide)) (C := 2305843000623759368) (by decide) (by decide)
  have base : f153 (nI i) s = (if ¬ s.2.1 43 c - s.2.1 43 a = 0 then (if ¬ s.2.1 43 b - s.2.1 43 c = 0 then j153_121 (nI i) (nI a) (nI c) (nI b) (s.2.1 43 c - s.2.1 43 a) (s.2.1 44 c - s.2.1 44 a) (s.2.1 43 b - s.2.1 43 c) (s.2.1 44 b - s.2.1 44 c) 0 s else (if ¬ s.2.1 44 b - s.2.1 44 c = 0 then j153_121 (nI i) (nI a) (nI c) (nI b) (s.2.1 43 c - s.2.1 43 a) (s.2.1 44 c - s.2.1 44 a) (s.2.1 43 b - s.2.1 43 c) (s.2.1 44 b - s.2.1 44 c) 0 s else j153_121 (nI i) (nI a) (nI c) (nI b) (s.2.1 43 c - s.2.1 43 a) (s.2.1 44 c - s.2.1 44 a) (s.2.1 43 b - s.2.1 43 c) (s.2.1 44 b - s.2.1 44 c) 1 s)) else (if s.2.1 44 c - s.2.1 44 a = 0 then j153_121 (nI i) (nI a) (nI c) (nI b) (s.2.1 43 c - s.2.1 43 a) (s.2.1 44 c - s.2.1 44 a) (s.2.1 43 b - s.2.1 43 c) (s.2.1 44 b - s.2.1 44 c) 1 s else (if ¬ s.2.1 43 b - s.2.1 43 c = 0 then j153_121 (nI i) (nI a) (nI c) (nI b) (s.2.1 43 c - s.2.1 43 a) (s.2.1 44 c - s.2.1 44 a) (s.2.1 43 b - s.2.1 43 c) (s.2.1 44 b - s.2.1 44 c) 0 s else (if ¬ s.2.1 44 b - s.2.1 44 c = 0 then j153_121 (nI i) (nI a) (nI c) (nI b) (s.2.1 43 c - s.2.1 43 a) (s.2.1 44 c - s.2.1 44 a) (s.2.1 43 b - s.2.1 43 c) (s.2.1 44 b - s.2.1 44 c) 0 s else j153_121 (nI i) (nI a) (nI c) (nI b) (s.2.1 43 c - s.2.1 43 a) (s.2.1 44 c - s.2.1 44 a) (s.2.1 43 b - s.2.1 43 c) (s.2.1 44 b - s.2.1 44 c) 1 s)))) := by
    unfold f153
    rw [e1, e3]
    simp only [Option.bind_some]
    rw [rdI_nI hi (by decide), nI_clamp (by omega), e2]
    simp only [rdI_nI ha (show 42 < 2 ^ 31 by decide), rdI_nI hb (show 42 < 2 ^ 31 by decide), rdI_nI hc (show 42 < 2 ^ 31 by decide), nI_clamp (show a < 2 ^ 31 by omega), nI_clamp (show b < 2 ^ 31 by omega), nI_clamp (show c < 2 ^ 31 by omega)]
  have j0 : NS (Xm s) (Ym s) a c b → j153_121 (nI i) (nI a) (nI c) (nI b) (s.2.1 43 c - s.2.1 43 a) (s.2.1 44 c - s.2.1 44 a) (s.2.1 43 b - s.2.1 43 c) (s.2.1 44 b - s.2.1 44 c) 0 s = some 1 := by
    intro ⟨_, _, h3⟩
    unfold j153_121
    rw [if_neg (fun q => q rfl), f119_eq hP ha hc hb]
    simp only [Option.bind_some]
    by_cases z : ar (Xm s) (Ym s) a c b = 0
    · rw [if_neg (fun q => q (sgn_zero.mpr z)), if_neg (fun q => h3 ⟨z, ?_⟩)]
      have := Int64.le_iff_toInt_le.mp q
      rw [dotE.1] at this
      have e0 : (0 : Int64).toInt = 0 := by decide
      rw [e0] at this
      exact this
    · rw [if_pos (fun q => z (sgn_zero.mp q))]
  have j1 : j153_121 (nI i) (nI a) (nI c) (nI b) (s.2.1 43 c - s.2.1 43 a) (s.2.1 44 c - s.2.1 44 a) (s.2.1 43 b - s.2.1 43 c) (s.2.1 44 b - s.2.1 44 c) 1 s = some 0 := by
    unfold j153_121
    rw [if_pos (by decide)]
  constructor
  · intro hN
    have hj := j0 hN
    obtain ⟨n1, n2, _⟩ := hN
    have q1 : ¬ (s.2.1 43 c - s.2.1 43 a = 0 ∧ s.2.1 44 c - s.2.1 44 a = 0) := fun ⟨k1, k2⟩ => n1 ⟨by have := (i64_0 x1).mp k1; omega, by have := (i64_0 y1).mp k2; omega⟩
    have q2 : ¬ (s.2.1 43 b - s.2.1 43 c = 0 ∧ s.2.1 44 b - s.2.1 44 c = 0) := fun ⟨k1, k2⟩ => n2 ⟨by have := (i64_0 x2).mp k1; omega, by have := (i64_0 y2).mp k2; omega⟩
    rw [base, hj]
    by_cases c1 : s.2.1 43 c - s.2.1 43 a = 0
    · rw [if_neg (fun k => k c1), if_neg (fun k => q1 ⟨c1, k⟩)]
      by_cases c2 : s.2.1 43 b - s.2.1 43 c = 0
      · rw [if_neg (fun k => k c2), if_pos (fun k => q2 ⟨c2, k⟩)]
      · rw [if_pos c2]
    · rw [if_pos c1]
      by_cases c2 : s.2.1 43 b - s.2.1 43 c = 0
      · rw [if_neg (fun k => k c2), if_pos (fun k => q2 ⟨c2, k⟩)]
      · rw [if_pos c2]
  · intro ⟨k1, k2⟩
    have q1 : s.2.1 43 b - s.2.1 43 c = 0 := (i64_0 x2).mpr (by omega)
    have q2 : s.2.1 44 b - s.2.1 44 c = 0 := (i64_0 y2).mpr (by omega)
    rw [base, j1]
    by_cases c1 : s.2.1 43 c - s.2.1 43 a = 0
    · rw [if_neg (fun k => k c1)]
      by_cases c2 : s.2.1 44 c - s.2.1 44 a = 0
      · rw [if_pos c2]
      · rw [if_neg c2, if_neg (fun k => k q1), if_neg (fun k => k q2)]
    · rw [if_pos c1, if_neg (fun k => k q1), if_neg (fun k => k q2)]
