/-! the chains beside the doors -/
theorem see.lt {X Y : Nat → Int} {v L R lam rho : Nat} (h : see X Y v L R lam rho) (q : 0 < (ar X Y v rho lam)) : 0 < (ar X Y v R L) := by
  obtain ⟨f, hf, h0, h1, h2, h3, h4, h5, h6, h7⟩ := h
  exact tr_lt1 hf h0 h2 h3 h1 (tr_lt2 hf h0 h2 h4 h3 h5 q) h7
/-- v on the left chain after u: the way from u goes on between rho and lam, lam truly to the left -/
def chL (X Y : Nat → Int) (u v L R lam rho : Nat) : Prop := see X Y v L R lam rho ∧ 0 < (ar X Y u v lam) ∧ (ar X Y u v rho) ≤ 0
def chR (X Y : Nat → Int) (u v L R lam rho : Nat) : Prop := see X Y v L R lam rho ∧ 0 ≤ (ar X Y u v lam) ∧ (ar X Y u v rho) < 0
/-- u lies behind v -/
theorem see.back {X Y : Nat → Int} {u v L R lam rho : Nat} (h : see X Y v L R lam rho) (h1 : 0 ≤ (ar X Y u v lam)) (h2 : (ar X Y u v rho) ≤ 0) (h3 : (ar X Y u v lam) ≠ 0 ∨ (ar X Y u v rho) ≠ 0) : 0 < (ar X Y v R L) ∧ 0 < dg X Y v L R lam ∧ 0 < dg X Y v L R rho ∧ 0 < -dg X Y v L R u := by
  have key : ∀ f, Aff X Y f → f v = 0 → 0 < f lam → 0 < f rho → 0 < (-f u) * (ar X Y v rho lam) := by
    intro f hf h0 q1 q2
    rw [tr_u hf h0 u rho lam]
    have a1 := zpp (Int.le_of_lt q2) h1
    have a2 := zpn (Int.le_of_lt q1) h2
    rcases h3 with k | k
    · have := mpp q2 (show 0 < (ar X Y u v lam) by omega); omega
    · have := mpn q1 (show (ar X Y u v rho) < 0 by omega); omega
  have pos : 0 < (ar X Y v rho lam) := by
    obtain ⟨f, hf, h0, k1, k2, k3, k4, k5, k6, k7⟩ := h
    have k := key f hf h0 k3 k4
    refine Decidable.byContradiction fun z => ?_
    have e : (ar X Y v rho lam) = 0 := by omega
    rw [e, Int.mul_zero] at k
    omega
  have hA := h.lt pos
  obtain ⟨g1, g2⟩ := h.G hA
  have k := key _ (dg_aff X Y v L R) (dg_v X Y v L R) g1 g2
  refine ⟨hA, g1, g2, ?_⟩
  rw [Int.mul_comm] at k
  exact cpos pos k
/-- a left end that lies left of lam: lam stays, and w lies left of the way into v too -/
theorem chL.keep {X Y : Nat → Int} {u v L R lam rho w : Nat} (h : chL X Y u v L R lam rho) (hw : 0 < (ar X Y L R w)) (hl : 0 < (ar X Y v lam w)) : 0 ≤ (ar X Y v rho w) ∧ chL X Y u v w R lam rho ∧ 0 < (ar X Y u v w) := by
  obtain ⟨hs, h1, h2⟩ := h
  obtain ⟨hA, g1, g2, g3⟩ := hs.back (Int.le_of_lt h1) h2 (Or.inl (by omega))
  have gw : 0 < dg X Y v L R w := by rw [dg_w]; omega
  have hs' := hs
  obtain ⟨f, hf, h0, k1, k2, k3, k4, k5, k6, k7⟩ := hs'
  have hn : 0 ≤ (ar X Y v rho w) := tr_le (dg_aff X Y v L R) (dg_v X Y v L R) g2 g1 gw k6 (Int.le_of_lt hl)
  refine ⟨hn, ⟨(hs.stepL hw hn).1 hl, h1, h2⟩, ?_⟩
  have e := tr_u (dg_aff X Y v L R) (dg_v X Y v L R) u lam w
  have a1 := mpp g3 hl
  have a2 := mpp gw h1
  exact cpos g1 (by omega)
/-- lam is passed, but v is not -/
theorem chL.pass {X Y : Nat → Int} {u v L R lam rho w : Nat} (h : chL X Y u v L R lam rho) (hw : 0 < (ar X Y L R w)) (hl : (ar X Y v lam w) ≤ 0) (hu : 0 < (ar X Y u v w)) : 0 ≤ (ar X Y v rho w) ∧ chL X Y u v w R w rho := by
  obtain ⟨hs, h1, h2⟩ := h
  obtain ⟨hA, g1, g2, g3⟩ := hs.back (Int.le_of_lt h1) h2 (Or.inl (by omega))
  have gw : 0 < dg X Y v L R w := by rw [dg_w]; omega
  have hn : 0 ≤ (ar X Y v rho w) := by
    have e := tr_u (dg_aff X Y v L R) (dg_v X Y v L R) u rho w
    have a1 := mpp g2 hu
    have a2 := zpn (Int.le_of_lt gw) h2
    exact cnn g3 (by omega)
  exact ⟨hn, (hs.stepL hw hn).2 hl, hu, h2⟩
/-- a left end, seen from the right chain -/
theorem chR.stepL {X Y : Nat → Int} {u v L R lam rho w : Nat} (h : chR X Y u v L R lam rho) (hw : 0 < (ar X Y L R w)) (hu : 0 ≤ (ar X Y u v w)) : 0 ≤ (ar X Y v rho w) ∧ (0 < (ar X Y v lam w) → chR X Y u v w R lam rho) ∧ ((ar X Y v lam w) ≤ 0 → chR X Y u v w R w rho) := by
  obtain ⟨hs, h1, h2⟩ := h
  obtain ⟨hA, g1, g2, g3⟩ := hs.back h1 (Int.le_of_lt h2) (Or.inr (by omega))
  have gw : 0 < dg X Y v L R w := by rw [dg_w]; omega
  have hn : 0 ≤ (ar X Y v rho w) := by
    have e := tr_u (dg_aff X Y v L R) (dg_v X Y v L R) u rho w
    have a1 := zpp (Int.le_of_lt g2) hu
    have a2 := mpn gw h2
    exact cnn g3 (by omega)
  exact ⟨hn, fun k => ⟨(hs.stepL hw hn).1 k, h1, h2⟩, fun k => ⟨(hs.stepL hw hn).2 k, hu, h2⟩⟩
/-- the tip moves on to v: from there w is the left end that counts -/
theorem chR.turn {X Y : Nat → Int} {u v L R lam rho w : Nat} (h : chR X Y u v L R lam rho) (hw : 0 < (ar X Y L R w)) (hu : (ar X Y u v w) < 0) : (ar X Y v lam w) < 0 ∧ (0 ≤ (ar X Y v rho w) → see X Y v w R w rho) := by
  obtain ⟨hs, h1, h2⟩ := h
  obtain ⟨hA, g1, g2, g3⟩ := hs.back h1 (Int.le_of_lt h2) (Or.inr (by omega))
  have gw : 0 < dg X Y v L R w := by rw [dg_w]; omega
  have hl : (ar X Y v lam w) < 0 := by
    have e := tr_u (dg_aff X Y v L R) (dg_v X Y v L R) u lam w
    have a1 := mpn g1 hu
    have a2 := zpp (Int.le_of_lt gw) h1
    exact cneg g3 (by omega)
  exact ⟨hl, fun hn => (hs.stepL hw hn).2 (Int.le_of_lt hl)⟩
/-- the first door that v does not touch -/
theorem see.start {X Y : Nat → Int} {v L R : Nat} (h : 0 < (ar X Y v R L)) : see X Y v L R L R := by
  refine ⟨dg X Y v L R, dg_aff X Y v L R, dg_v X Y v L R, by rw [dg_L]; exact h, by rw [dg_R]; exact h, by rw [dg_L]; exact h, by rw [dg_R]; exact h, ?_, Int.le_of_lt h, ?_⟩
  · rw [ar_yxx]; exact Int.le_refl _
  · rw [ar_yxx]; exact Int.le_refl _
/-! the mirror -/
def mX (X : Nat → Int) : Nat → Int := fun i => -X i
theorem ar_m (X Y : Nat → Int) (a b c : Nat) : ar (mX X) Y a b c = -(ar X Y a b c) := by unfold ar mX; grind
theorem aff_m {X Y f : Nat → Int} (h : Aff X Y f) : Aff (mX X) Y f := by
  obtain ⟨u, v, w, e⟩ := h
  refine ⟨-u, v, w, fun x => ?_⟩
  rw [e x]
  unfold mX
  grind
theorem see.m {X Y : Nat → Int} {v L R lam rho : Nat} (h : see X Y v L R lam rho) : see (mX X) Y v R L rho lam := by
  obtain ⟨f, hf, h0, h1, h2, h3, h4, h5, h6, h7⟩ := h
  refine ⟨f, aff_m hf, h0, h2, h1, h4, h3, ?_, ?_, ?_⟩
  · rw [ar_m, ar_t X Y v L lam]; omega
  · rw [ar_m, ar_t X Y v lam rho]; omega
  · rw [ar_m, ar_t X Y v rho R]; omega
theorem mXX (X : Nat → Int) : mX (mX X) = X := funext fun i => by unfold mX; omega
theorem see.m' {X Y : Nat → Int} {v L R lam rho : Nat} (h : see (mX X) Y v R L rho lam) : see X Y v L R lam rho := by
  have := h.m
  rw [mXX] at this
  exact this
theorem chL.m {X Y : Nat → Int} {u v L R lam rho : Nat} (h : chL X Y u v L R lam rho) : chR (mX X) Y u v R L rho lam := ⟨h.1.m, by rw [ar_m]; have := h.2.2; omega, by rw [ar_m]; have := h.2.1; omega⟩
theorem chR.m {X Y : Nat → Int} {u v L R lam rho : Nat} (h : chR X Y u v L R lam rho) : chL (mX X) Y u v R L rho lam := ⟨h.1.m, by rw [ar_m]; have := h.2.2; omega, by rw [ar_m]; have := h.2.1; omega⟩
theorem chL.m' {X Y : Nat → Int} {u v L R lam rho : Nat} (h : chR (mX X) Y u v R L rho lam) : chL X Y u v L R lam rho := by
  have := h.m
  rw [mXX] at this
  exact this
theorem chR.m' {X Y : Nat → Int} {u v L R lam rho : Nat} (h : chL (mX X) Y u v R L rho lam) : chR X Y u v L R lam rho := by
  have := h.m
  rw [mXX] at this
  exact this
