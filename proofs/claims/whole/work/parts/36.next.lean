/-! M3: the next neighbour round makes a triangle -/
theorem hlp {u v fp fq lp lq : Int} (hv : 0 < v) (h1 : 0 < u * fq + v * fp) (h2 : 0 < u * lq + v * lp) (h3 : fq < 0) (h4 : 0 ≤ lq) : 0 < fp * lq - fq * lp := by
  refine cpos hv ?_
  have e : v * (fp * lq - fq * lp) = (u * fq + v * fp) * lq - fq * (u * lq + v * lp) := by grind
  have k1 := zpp (Int.le_of_lt h1) h4
  have k2 := mnp h3 h2
  omega
theorem next_core {X Y : Nat → Int} {n : Nat} {E : Nat → Nat → Prop} (hM : Mx X Y n E) {a b c d p q : Nat} (hab : E a b) (hac : E a c) (hA : 0 < (ar X Y a b c)) (f1d : 0 < (ar X Y a b d)) (f2d : 0 < (ar X Y c a d)) (ld : 0 ≤ (ar X Y b c d))
    (hmax : ∀ e, e < n → e ≠ a → e ≠ b → e ≠ c → 0 ≤ (ar X Y a b e) → 0 ≤ (ar X Y b c e) → 0 ≤ (ar X Y c a e) → (ar X Y b c e) ≤ (ar X Y b c d)) (hpq : E p q) (hx : cx X Y a d p q) : False := by
  obtain ⟨m1, m2, m3, m4⟩ := hM
  obtain ⟨x1, x2, x3, x4⟩ := hx
  have e4 := ar4 X Y a b c d
  have c1 : (ar X Y a d p) * (ar X Y a b q) - (ar X Y a d q) * (ar X Y a b p) = (ar X Y p q d) * (ar X Y a b a) - (ar X Y p q a) * (ar X Y a b d) := CR (aff_ar X Y a b) a d p q
  have c2 : (ar X Y a d p) * (ar X Y c a q) - (ar X Y a d q) * (ar X Y c a p) = (ar X Y p q d) * (ar X Y c a a) - (ar X Y p q a) * (ar X Y c a d) := CR (aff_ar X Y c a) a d p q
  have c3 : (ar X Y a d p) * (ar X Y b c q) - (ar X Y a d q) * (ar X Y b c p) = (ar X Y p q d) * (ar X Y b c a) - (ar X Y p q a) * (ar X Y b c d) := CR (aff_ar X Y b c) a d p q
  have c4 : (ar X Y a d p) * ((ar X Y b c q) - (ar X Y b c d)) - (ar X Y a d q) * ((ar X Y b c p) - (ar X Y b c d)) = (ar X Y p q d) * ((ar X Y b c a) - (ar X Y b c d)) - (ar X Y p q a) * ((ar X Y b c d) - (ar X Y b c d)) := CR (aff_c X Y (aff_ar X Y b c) _) a d p q
  rw [ar_xyx X Y a b, Int.mul_zero] at c1
  rw [ar_yxx X Y c a, Int.mul_zero] at c2
  rw [← ar_c X Y a b c] at c3 c4
  rw [Int.sub_self, Int.mul_zero] at c4
  have k1 := mpp x3 f1d
  have k2 := mpp x3 f2d
  have k3 := mnp x4 hA
  have k3' := zpp (Int.le_of_lt x3) ld
  have k4 := mnp x4 (show 0 < (ar X Y a b c) - (ar X Y b c d) by omega)
  have u1 : 0 < -(ar X Y a d p) := by omega
  have j1 : 0 < -(ar X Y a d p) * (ar X Y a b q) + (ar X Y a d q) * (ar X Y a b p) := by rw [Int.neg_mul]; omega
  have j2 : 0 < -(ar X Y a d p) * (ar X Y c a q) + (ar X Y a d q) * (ar X Y c a p) := by rw [Int.neg_mul]; omega
  have j3 : 0 < -(ar X Y a d p) * (ar X Y b c q) + (ar X Y a d q) * (ar X Y b c p) := by rw [Int.neg_mul]; omega
  have j4 : 0 < -(ar X Y a d p) * ((ar X Y b c q) - (ar X Y b c d)) + (ar X Y a d q) * ((ar X Y b c p) - (ar X Y b c d)) := by rw [Int.neg_mul]; omega
  have hp := (m1 p q hpq).1
  have hq := (m1 p q hpq).2.1
  have bb := ar_xyx X Y b c
  have cc := ar_yxx X Y b c
  rcases Int.le_total (ar X Y b c p) (ar X Y b c q) with hl | hl
  · have lq : (ar X Y b c d) < (ar X Y b c q) := Decidable.byContradiction fun k => by
      have := zpn (Int.le_of_lt u1) (show (ar X Y b c q) - (ar X Y b c d) ≤ 0 by omega)
      have := zpn (Int.le_of_lt x2) (show (ar X Y b c p) - (ar X Y b c d) ≤ 0 by omega)
      omega
    have out : (ar X Y a b q) < 0 ∨ (ar X Y c a q) < 0 := Decidable.byContradiction fun k => by
      have := hmax q hq (fun e => by rw [e, ar_xyx] at x2; omega) (fun e => by rw [e] at lq; omega) (fun e => by rw [e] at lq; omega) (by omega) (by omega) (by omega)
      omega
    have f2q : (ar X Y c a q) < 0 := by
      rcases out with h | h
      · have t : (ar X Y c a b) * (ar X Y a d q) + (ar X Y c a d) * (ar X Y a q b) + (ar X Y c a q) * (ar X Y a b d) = 0 := T3 (aff_ar X Y c a) (ar_yxx X Y c a) b d q
        rw [ar_c X Y c a b] at t
        have := mpp hA x2
        have := mpp f2d (show 0 < (ar X Y a q b) by have := ar_t X Y a q b; omega)
        exact cneg f1d (by rw [Int.mul_comm]; omega)
      · exact h
    have f2p : 0 < (ar X Y c a p) := by
      have := mpn u1 f2q
      exact cpos x2 (by omega)
    have t := TT (X := X) (Y := Y) c a b p q
    rw [ar_c X Y c a b] at t
    have h := hlp x2 j2 j3 f2q (by omega)
    have pc : (ar X Y p q c) < 0 := cneg hA (by omega)
    exact m3 p q a c hpq hac ⟨mpn x3 pc, mnp (by have := ar_s X Y a c p; omega) (by have := ar_s X Y a c q; omega)⟩
  · have lp : (ar X Y b c d) < (ar X Y b c p) := Decidable.byContradiction fun k => by
      have := zpn (Int.le_of_lt u1) (show (ar X Y b c q) - (ar X Y b c d) ≤ 0 by omega)
      have := zpn (Int.le_of_lt x2) (show (ar X Y b c p) - (ar X Y b c d) ≤ 0 by omega)
      omega
    have out : (ar X Y a b p) < 0 ∨ (ar X Y c a p) < 0 := Decidable.byContradiction fun k => by
      have := hmax p hp (fun e => by rw [e, ar_xyx] at x1; omega) (fun e => by rw [e] at lp; omega) (fun e => by rw [e] at lp; omega) (by omega) (by omega) (by omega)
      omega
    have f1p : (ar X Y a b p) < 0 := by
      rcases out with h | h
      · exact h
      · have t : (ar X Y a b c) * (ar X Y a d p) + (ar X Y a b d) * (ar X Y a p c) + (ar X Y a b p) * (ar X Y a c d) = 0 := T3 (aff_ar X Y a b) (ar_xyx X Y a b) c d p
        have := mpn hA x1
        have := mpn f1d (show (ar X Y a p c) < 0 by rw [← ar_c X Y c a p]; exact h)
        have e : (ar X Y a c d) = -(ar X Y c a d) := ar_s X Y a c d
        rw [e, Int.mul_neg] at t
        exact cneg f2d (by rw [Int.mul_comm]; omega)
    have f1q : 0 < (ar X Y a b q) := by
      have := mpn x2 f1p
      exact cpos u1 (by omega)
    have t := TT (X := X) (Y := Y) b c a p q
    rw [← ar_c X Y a b c] at t
    have h := hlp (fp := (ar X Y a b q)) (lp := (ar X Y b c q)) u1 (show 0 < (ar X Y a d q) * (ar X Y a b p) + -(ar X Y a d p) * (ar X Y a b q) by omega) (show 0 < (ar X Y a d q) * (ar X Y b c p) + -(ar X Y a d p) * (ar X Y b c q) by omega) f1p (by omega)
    have pb : (ar X Y p q b) < 0 := cneg hA (by rw [Int.mul_comm (ar X Y b c p), Int.mul_comm (ar X Y b c q)] at t; omega)
    exact m3 p q a b hpq hab ⟨mpn x3 pb, mnp f1p f1q⟩
/-- the next neighbour of a round to the left from b -/
theorem nextTri {X Y : Nat → Int} {n : Nat} {E : Nat → Nat → Prop} (hD : Dst X Y n) (hM : Mx X Y n E) {a b c : Nat} (hab : E a b) (hac : E a c) (hA : 0 < (ar X Y a b c)) (hno : ∀ d, E a d → ¬ (0 < (ar X Y a b d) ∧ 0 < (ar X Y a d c))) : Tr X Y n E a b c := by
  have hM' := hM
  obtain ⟨m1, m2, m3, m4⟩ := hM
  obtain ⟨ha, hb, nab, eba⟩ := m1 a b hab
  obtain ⟨_, hc, nac, eca⟩ := m1 a c hac
  have hemp : emp X Y n a b c := by
    intro d0 hd0 n1 n2 n3 hin
    obtain ⟨d, hd, ⟨dn1, dn2, dn3, i1, i2, i3⟩, hmax⟩ := fmin1 (n := n) (fun d => d ≠ a ∧ d ≠ b ∧ d ≠ c ∧ 0 ≤ (ar X Y a b d) ∧ 0 ≤ (ar X Y b c d) ∧ 0 ≤ (ar X Y c a d)) (fun x y => (ar X Y b c y) ≤ (ar X Y b c x))
      (fun x y _ _ => Int.le_total _ _) (fun x y z _ _ _ h1 h2 => Int.le_trans h2 h1) ⟨d0, hd0, n1, n2, n3, hin.1, hin.2.1, hin.2.2⟩
    have e4 := ar4 X Y a b c d
    have f1d : 0 < (ar X Y a b d) := Decidable.byContradiction fun k => m2 a b hab d hd dn1 dn2 (oS_of (aff_ar X Y c a) (show (ar X Y a b d) = 0 by omega) (by show (ar X Y c a a) ≤ (ar X Y c a d); rw [ar_yxx]; exact i3) (by show (ar X Y c a d) ≤ (ar X Y c a b); rw [ar_c X Y c a b]; omega) (by show (ar X Y c a a) < (ar X Y c a b); rw [ar_yxx, ar_c X Y c a b]; omega))
    have f2d : 0 < (ar X Y c a d) := Decidable.byContradiction fun k => m2 a c hac d hd dn1 dn3 (oS_of (aff_ar X Y a b) (show (ar X Y a c d) = 0 by have := ar_s X Y a c d; omega) (by show (ar X Y a b a) ≤ (ar X Y a b d); rw [ar_xyx]; exact i1) (by show (ar X Y a b d) ≤ (ar X Y a b c); omega) (by show (ar X Y a b a) < (ar X Y a b c); rw [ar_xyx]; omega))
    have hcore : ∀ p q, E p q → ¬ cx X Y a d p q := fun p q hpq hx => next_core hM' hab hac hA f1d f2d i2 (fun e he n1 n2 n3 j1 j2 j3 => hmax e he ⟨n1, n2, n3, j1, j2, j3⟩) hpq hx
    refine hno d (m4 a d ha hd (Ne.symm dn1) ?_ ?_) ⟨f1d, by rw [← ar_c X Y c a d]; exact f2d⟩
    · intro e he ea ed hon
      obtain ⟨w1, w2⟩ := oS_ws hon (hD.nq ha hd (Ne.symm dn1)) (hD.nq ha he (Ne.symm ea)) (hD.nq hd he (Ne.symm ed))
      have hs := sq_pos (hD.nq ha hd (Ne.symm dn1))
      have g1 : sq X Y a d * (ar X Y a b e) = wa X Y a d e * (ar X Y a b a) + wb X Y a d e * (ar X Y a b d) := w_aff (aff_ar X Y a b) hon.1
      have g2 : sq X Y a d * (ar X Y c a e) = wa X Y a d e * (ar X Y c a a) + wb X Y a d e * (ar X Y c a d) := w_aff (aff_ar X Y c a) hon.1
      have g3 : sq X Y a d * ((ar X Y b c e) - (ar X Y b c d)) = wa X Y a d e * ((ar X Y b c a) - (ar X Y b c d)) + wb X Y a d e * ((ar X Y b c d) - (ar X Y b c d)) := w_aff (aff_c X Y (aff_ar X Y b c) _) hon.1
      rw [ar_xyx X Y a b, Int.mul_zero, Int.zero_add] at g1
      rw [ar_yxx X Y c a, Int.mul_zero, Int.zero_add] at g2
      rw [Int.sub_self, Int.mul_zero, Int.add_zero, ← ar_c X Y a b c] at g3
      have h1 : 0 < (ar X Y a b e) := cpos hs (by rw [g1]; exact mpp w2 f1d)
      have h2 : 0 < (ar X Y c a e) := cpos hs (by rw [g2]; exact mpp w2 f2d)
      have h3 : 0 < (ar X Y b c e) - (ar X Y b c d) := cpos hs (by rw [g3]; exact mpp w1 (by omega))
      have := hmax e he ⟨ea, fun q => by rw [q, ar_yxx] at h1; omega, fun q => by rw [q, ar_xyx] at h2; omega, by omega, by omega, by omega⟩
      omega
    · intro p q hpq hx
      rcases cx_of hx with h | h
      · exact hcore p q hpq h
      · exact hcore q p (m1 p q hpq).2.2.2 h
  refine ⟨hab, ?_, eca, hA, hemp⟩
  have nbc : b ≠ c := fun e => by rw [e, ar_yxx] at hA; omega
  have hAb : (ar X Y c a b) = (ar X Y a b c) := ar_c X Y c a b
  have hAc : (ar X Y b c a) = (ar X Y a b c) := (ar_c X Y a b c).symm
  refine m4 b c hb hc nbc ?_ ?_
  · intro e he eb ec hon
    obtain ⟨w1, w2⟩ := oS_w hon
    have hs := sq_pos (hD.nq hb hc nbc)
    have g1 : sq X Y b c * (ar X Y a b e) = wa X Y b c e * (ar X Y a b b) + wb X Y b c e * (ar X Y a b c) := w_aff (aff_ar X Y a b) hon.1
    have g2 : sq X Y b c * (ar X Y c a e) = wa X Y b c e * (ar X Y c a b) + wb X Y b c e * (ar X Y c a c) := w_aff (aff_ar X Y c a) hon.1
    rw [ar_yxx X Y a b, Int.mul_zero, Int.zero_add] at g1
    rw [ar_xyx X Y c a, Int.mul_zero, Int.add_zero, hAb] at g2
    exact hemp e he (fun q => by have := hon.1; rw [q] at this; omega) eb ec ⟨cnn hs (by rw [g1]; exact zpp w2 (by omega)), by rw [hon.1]; omega, cnn hs (by rw [g2]; exact zpp w1 (by omega))⟩
  · have core : ∀ p q, E p q → ¬ cx X Y b c p q := by
      intro p q hpq ⟨x1, x2, x3, x4⟩
      obtain ⟨hp, hq, npq, eqp⟩ := m1 p q hpq
      have nqa : q ≠ a := by
        intro e
        rw [e] at eqp x3 x4
        exact hno p eqp ⟨by rw [← ar_c X Y p a b]; exact x3, by have := ar_s X Y p a c; omega⟩
      have npa : a ≠ p := fun e => by rw [← e] at x1; omega
      have nem := hemp q hq nqa (fun e => by rw [e, ar_xyx] at x2; omega) (fun e => by rw [e, ar_yxx] at x2; omega)
      have c1 : (ar X Y b c p) * (ar X Y a b q) - (ar X Y b c q) * (ar X Y a b p) = (ar X Y p q c) * (ar X Y a b b) - (ar X Y p q b) * (ar X Y a b c) := CR (aff_ar X Y a b) b c p q
      have c2 : (ar X Y b c p) * (ar X Y c a q) - (ar X Y b c q) * (ar X Y c a p) = (ar X Y p q c) * (ar X Y c a b) - (ar X Y p q b) * (ar X Y c a c) := CR (aff_ar X Y c a) b c p q
      rw [ar_yxx X Y a b, Int.mul_zero] at c1
      rw [ar_xyx X Y c a, Int.mul_zero, hAb] at c2
      have k1 := mpp x3 hA
      have k2 := mnp x4 hA
      have u1 : 0 < -(ar X Y b c p) := by omega
      have j1 : 0 < -(ar X Y b c p) * (ar X Y a b q) + (ar X Y b c q) * (ar X Y a b p) := by rw [Int.neg_mul]; omega
      have j2 : 0 < -(ar X Y b c p) * (ar X Y c a q) + (ar X Y b c q) * (ar X Y c a p) := by rw [Int.neg_mul]; omega
      have p1 : (ar X Y a b q) < 0 → 0 < (ar X Y a b p) := fun h => by
        have := mpn u1 h
        exact cpos x2 (by omega)
      have p2 : (ar X Y c a q) < 0 → 0 < (ar X Y c a p) := fun h => by
        have := mpn u1 h
        exact cpos x2 (by omega)
      have t := TT (X := X) (Y := Y) a b c p q
      have out : (ar X Y a b q) < 0 ∨ (ar X Y c a q) < 0 := Decidable.byContradiction fun k => nem ⟨by omega, by omega, by omega⟩
      rcases Int.lt_trichotomy (ar X Y p q a) 0 with hz | hz | hz
      · have f1q : (ar X Y a b q) < 0 := Decidable.byContradiction fun k => by
          have h2 : (ar X Y c a q) < 0 := by omega
          have := hlp (fp := (ar X Y c a p)) (lp := (ar X Y a b p)) x2 j2 j1 h2 (by omega)
          have := mpn hA hz
          rw [Int.mul_comm (ar X Y c a p), Int.mul_comm (ar X Y c a q)] at *
          omega
        exact m3 p q a b hpq hab ⟨mnp hz x3, mpn (p1 f1q) f1q⟩
      · rcases out with h | h
        · exact m2 p q hpq a ha npa (Ne.symm nqa) (oS_of (aff_ar X Y b a) hz (by show (ar X Y b a p) ≤ (ar X Y b a a); rw [ar_yxx]; have := ar_s X Y b a p; have := p1 h; omega) (by show (ar X Y b a a) ≤ (ar X Y b a q); rw [ar_yxx]; have := ar_s X Y b a q; omega) (by show (ar X Y b a p) < (ar X Y b a q); have := ar_s X Y b a p; have := ar_s X Y b a q; have := p1 h; omega))
        · exact m2 p q hpq a ha npa (Ne.symm nqa) (oS_of (aff_ar X Y a c) hz (by show (ar X Y a c p) ≤ (ar X Y a c a); rw [ar_xyx]; have := ar_s X Y a c p; have := p2 h; omega) (by show (ar X Y a c a) ≤ (ar X Y a c q); rw [ar_xyx]; have := ar_s X Y a c q; omega) (by show (ar X Y a c p) < (ar X Y a c q); have := ar_s X Y a c p; have := ar_s X Y a c q; have := p2 h; omega))
      · have f2q : (ar X Y c a q) < 0 := Decidable.byContradiction fun k => by
          have h2 : (ar X Y a b q) < 0 := by omega
          have := hlp (fp := (ar X Y a b p)) (lp := (ar X Y c a p)) x2 j1 j2 h2 (by omega)
          have := mpp hA hz
          omega
        exact m3 p q a c hpq hac ⟨mpn hz x4, mnp (by have := ar_s X Y a c p; have := p2 f2q; omega) (by have := ar_s X Y a c q; omega)⟩
    intro p q hpq hx
    rcases cx_of hx with h | h
    · exact core p q hpq h
    · exact core q p (m1 p q hpq).2.2.2 h
