/-! what a tip sees through the doors -/
theorem tr3 {X Y f : Nat → Int} (hf : Aff X Y f) {v : Nat} (h0 : f v = 0) (a b c : Nat) : f b * (ar X Y v a c) = f a * (ar X Y v b c) + f c * (ar X Y v a b) := by
  have h := T3 hf h0 a b c
  have e : (ar X Y v c a) = -(ar X Y v a c) := ar_t X Y v c a
  rw [e] at h
  have : f b * -(ar X Y v a c) = -(f b * (ar X Y v a c)) := Int.mul_neg _ _
  rw [this] at h
  omega
theorem tr_le {X Y f : Nat → Int} (hf : Aff X Y f) {v a b c : Nat} (h0 : f v = 0) (ha : 0 < f a) (hb : 0 < f b) (hc : 0 < f c) (h1 : 0 ≤ (ar X Y v a b)) (h2 : 0 ≤ (ar X Y v b c)) : 0 ≤ (ar X Y v a c) := by
  refine cnn hb ?_
  rw [tr3 hf h0 a b c]
  have := zpp (Int.le_of_lt ha) h2
  have := zpp (Int.le_of_lt hc) h1
  omega
theorem tr_lt1 {X Y f : Nat → Int} (hf : Aff X Y f) {v a b c : Nat} (h0 : f v = 0) (ha : 0 < f a) (hb : 0 < f b) (hc : 0 < f c) (h1 : 0 < (ar X Y v a b)) (h2 : 0 ≤ (ar X Y v b c)) : 0 < (ar X Y v a c) := by
  refine cpos hb ?_
  rw [tr3 hf h0 a b c]
  have := zpp (Int.le_of_lt ha) h2
  have := mpp hc h1
  omega
theorem tr_lt2 {X Y f : Nat → Int} (hf : Aff X Y f) {v a b c : Nat} (h0 : f v = 0) (ha : 0 < f a) (hb : 0 < f b) (hc : 0 < f c) (h1 : 0 ≤ (ar X Y v a b)) (h2 : 0 < (ar X Y v b c)) : 0 < (ar X Y v a c) := by
  refine cpos hb ?_
  rw [tr3 hf h0 a b c]
  have := mpp ha h2
  have := zpp (Int.le_of_lt hc) h1
  omega
/-- with the step from u to v going on as a direction -/
theorem tr_u {X Y f : Nat → Int} (hf : Aff X Y f) {v : Nat} (h0 : f v = 0) (u x y : Nat) : (-f u) * (ar X Y v x y) = f x * (ar X Y u v y) - f y * (ar X Y u v x) := by
  have h := T3 hf h0 x y u
  have e1 : (ar X Y v y u) = (ar X Y u v y) := (ar_c X Y u v y).symm
  have e2 : (ar X Y v u x) = -(ar X Y u v x) := ar_s X Y v u x
  rw [e1, e2] at h
  have a1 : f y * -(ar X Y u v x) = -(f y * (ar X Y u v x)) := Int.mul_neg _ _
  have a2 : -f u * (ar X Y v x y) = -(f u * (ar X Y v x y)) := Int.neg_mul _ _
  rw [a1] at h
  rw [a2]
  omega
/-- from v the door (L, R) is seen between rho and lam -/
def see (X Y : Nat → Int) (v L R lam rho : Nat) : Prop := ∃ f, Aff X Y f ∧ f v = 0 ∧ 0 < f L ∧ 0 < f R ∧ 0 < f lam ∧ 0 < f rho ∧ 0 ≤ (ar X Y v R rho) ∧ 0 ≤ (ar X Y v rho lam) ∧ 0 ≤ (ar X Y v lam L)
def dg (X Y : Nat → Int) (v L R x : Nat) : Int := (ar X Y L R x) - (ar X Y L R v)
theorem dg_aff (X Y : Nat → Int) (v L R : Nat) : Aff X Y (dg X Y v L R) := aff_c X Y (aff_ar X Y L R) (ar X Y L R v)
theorem dg_v (X Y : Nat → Int) (v L R : Nat) : dg X Y v L R v = 0 := by unfold dg; omega
theorem dg_L (X Y : Nat → Int) (v L R : Nat) : dg X Y v L R L = (ar X Y v R L) := by unfold dg ar; grind
theorem dg_R (X Y : Nat → Int) (v L R : Nat) : dg X Y v L R R = (ar X Y v R L) := by unfold dg ar; grind
theorem dg_w (X Y : Nat → Int) (v L R w : Nat) : dg X Y v L R w = (ar X Y L R w) + (ar X Y v R L) := by unfold dg ar; grind
theorem see.A {X Y : Nat → Int} {v L R lam rho : Nat} (h : see X Y v L R lam rho) : 0 ≤ (ar X Y v R L) := by
  obtain ⟨f, hf, h0, h1, h2, h3, h4, h5, h6, h7⟩ := h
  exact tr_le hf h0 h2 h3 h1 (tr_le hf h0 h2 h4 h3 h5 h6) h7
/-- the door's own half plane -/
theorem see.G {X Y : Nat → Int} {v L R lam rho : Nat} (h : see X Y v L R lam rho) (hA : 0 < (ar X Y v R L)) : 0 < dg X Y v L R lam ∧ 0 < dg X Y v L R rho := by
  obtain ⟨f, hf, h0, h1, h2, h3, h4, h5, h6, h7⟩ := h
  have go : ∀ x, 0 < f x → 0 ≤ (ar X Y v R x) → 0 ≤ (ar X Y v x L) → 0 < dg X Y v L R x := by
    intro x fx q1 q2
    have e := tr3 (dg_aff X Y v L R) (dg_v X Y v L R) R x L
    have e2 := tr3 hf h0 R x L
    rw [dg_L, dg_R] at e
    have p1 := zpp (Int.le_of_lt hA) q2
    have p2 := zpp (Int.le_of_lt hA) q1
    have p3 := mpp fx hA
    have nz : 0 < (ar X Y v x L) ∨ 0 < (ar X Y v R x) := by
      refine Decidable.byContradiction fun k => ?_
      have z1 : (ar X Y v x L) = 0 := by omega
      have z2 : (ar X Y v R x) = 0 := by omega
      rw [z1, z2, Int.mul_zero, Int.mul_zero] at e2
      omega
    have : 0 < dg X Y v L R x * (ar X Y v R L) := by
      rw [e]
      rcases nz with q | q
      · have := mpp hA q; omega
      · have := mpp hA q; omega
    rw [Int.mul_comm] at this
    exact cpos hA this
  exact ⟨go lam h3 (tr_le hf h0 h2 h4 h3 h5 h6) h7, go rho h4 h5 (tr_le hf h0 h4 h3 h1 h6 h7)⟩
/-- the left end goes on to w, and no turn is made -/
theorem see.stepL {X Y : Nat → Int} {v L R lam rho w : Nat} (h : see X Y v L R lam rho) (hw : 0 < (ar X Y L R w)) (hn : 0 ≤ (ar X Y v rho w)) : (0 < (ar X Y v lam w) → see X Y v w R lam rho) ∧ ((ar X Y v lam w) ≤ 0 → see X Y v w R w rho) := by
  have hA := h.A
  by_cases c : 0 < (ar X Y v R L)
  · obtain ⟨g1, g2⟩ := h.G c
    obtain ⟨f, hf, h0, h1, h2, h3, h4, h5, h6, h7⟩ := h
    have gw : 0 < dg X Y v L R w := by rw [dg_w]; omega
    have gR : 0 < dg X Y v L R R := by rw [dg_R]; exact c
    refine ⟨fun k => ⟨dg X Y v L R, dg_aff X Y v L R, dg_v X Y v L R, gw, gR, g1, g2, h5, h6, Int.le_of_lt k⟩, fun k => ⟨dg X Y v L R, dg_aff X Y v L R, dg_v X Y v L R, gw, gR, gw, g2, h5, hn, ?_⟩⟩
    rw [ar_yxx]
    exact Int.le_refl _
  · -- the door lies on a ray from v
    have hz : (ar X Y v R L) = 0 := by omega
    obtain ⟨f, hf, h0, h1, h2, h3, h4, h5, h6, h7⟩ := h
    have q1 := tr_le hf h0 h2 h4 h3 h5 h6
    have q2 := tr_le hf h0 h4 h3 h1 h6 h7
    have zrho : (ar X Y v R rho) = 0 := by
      refine Decidable.byContradiction fun k => ?_
      have := tr_lt1 hf h0 h2 h4 h1 (show 0 < (ar X Y v R rho) by omega) q2
      omega
    have zlam : (ar X Y v R lam) = 0 := by
      refine Decidable.byContradiction fun k => ?_
      have := tr_lt1 hf h0 h2 h3 h1 (show 0 < (ar X Y v R lam) by omega) h7
      omega
    -- w is off the ray
    have eR : f R * (ar X Y v rho w) = f rho * (ar X Y v R w) := by
      have e := tr3 hf h0 rho R w
      have e' : (ar X Y v rho R) = 0 := by have := ar_t X Y v rho R; omega
      rw [e', Int.mul_zero] at e
      omega
    have nw : (ar X Y v R w) ≠ 0 := by
      intro z
      have e := dg_w X Y v L R w
      have e1 := tr3 (dg_aff X Y v L R) (dg_v X Y v L R) L R w
      have e2 : (ar X Y v L R) = 0 := by have := ar_t X Y v L R; omega
      rw [z, e2, Int.mul_zero, Int.mul_zero, dg_R, hz, Int.zero_mul] at e1
      have fe := tr3 hf h0 R w R
      have fe2 := tr3 hf h0 L R w
      rw [z, e2, Int.mul_zero, Int.mul_zero] at fe2
      have zlw : (ar X Y v L w) = 0 := by
        rcases Int.mul_eq_zero.mp (show f R * (ar X Y v L w) = 0 by omega) with q | q
        · omega
        · exact q
      -- L, R, w on one line through v
      have a4 := ar4 X Y L R w v
      have b1 : (ar X Y L R v) = 0 := by have := ar_c X Y v L R; omega
      have b2 : (ar X Y R w v) = 0 := by have := ar_c X Y v R w; omega
      have b3 : (ar X Y w L v) = 0 := by have := ar_c X Y v w L; have := ar_t X Y v w L; omega
      omega
    have pw : 0 < (ar X Y v R w) := by
      have := zpp (Int.le_of_lt h2) hn
      rw [eR] at this
      have := cnn h4 this
      omega
    have gw : 0 < dg X Y v w R w := by rw [dg_L]; exact pw
    have gR : 0 < dg X Y v w R R := by rw [dg_R]; exact pw
    have gx : ∀ x, 0 < f x → (ar X Y v R x) = 0 → 0 < dg X Y v w R x := by
      intro x fx zx
      have cr := CR (dg_aff X Y v w R) v R x x
      have e : f R * dg X Y v w R x = f x * dg X Y v w R R := by
        have t1 := tr3 hf h0 R x w
        have t2 := tr3 (dg_aff X Y v w R) (dg_v X Y v w R) R x w
        rw [zx, Int.mul_zero, Int.add_zero] at t1 t2
        rw [dg_R] at t2 ⊢
        have m1 : f R * (dg X Y v w R x * (ar X Y v R w)) = f R * ((ar X Y v R w) * (ar X Y v x w)) := by rw [t2]
        have m2 : f R * (dg X Y v w R x * (ar X Y v R w)) = (f R * dg X Y v w R x) * (ar X Y v R w) := (Int.mul_assoc _ _ _).symm
        have m3 : f R * ((ar X Y v R w) * (ar X Y v x w)) = (ar X Y v R w) * (f R * (ar X Y v x w)) := by rw [← Int.mul_assoc, Int.mul_comm (f R), Int.mul_assoc]
        rw [m2, m3, ← t1] at m1
        have m4 : (ar X Y v R w) * (f x * (ar X Y v R w)) = (f x * (ar X Y v R w)) * (ar X Y v R w) := Int.mul_comm _ _
        rw [m4] at m1
        exact Int.eq_of_mul_eq_mul_right (by omega) m1
      refine cpos h2 ?_
      rw [e]
      exact mpp fx gR
    refine ⟨fun k => ⟨dg X Y v w R, dg_aff X Y v w R, dg_v X Y v w R, gw, gR, gx lam h3 zlam, gx rho h4 zrho, h5, h6, Int.le_of_lt k⟩, fun k => ⟨dg X Y v w R, dg_aff X Y v w R, dg_v X Y v w R, gw, gR, gw, gx rho h4 zrho, h5, hn, ?_⟩⟩
    rw [ar_yxx]
    exact Int.le_refl _
