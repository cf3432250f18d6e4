/-! M3: every point sees another one on each side where there are points -/
/-- v comes before w, round to the left from a, or nearer on one ray -/
def bef (X Y f : Nat → Int) (a v w : Nat) : Prop := 0 < (ar X Y a v w) ∨ ((ar X Y a v w) = 0 ∧ f v ≤ f w)
theorem bef_total {X Y f : Nat → Int} {a : Nat} (v w : Nat) : bef X Y f a v w ∨ bef X Y f a w v := by
  unfold bef
  have := ar_t X Y a v w
  rcases Int.lt_trichotomy (ar X Y a v w) 0 with h | h | h
  · right; left; omega
  · rcases Int.le_total (f v) (f w) with k | k
    · left; right; exact ⟨h, k⟩
    · right; right; exact ⟨by omega, k⟩
  · left; left; exact h
theorem bef_trans {X Y f : Nat → Int} (hf : Aff X Y f) {a : Nat} (h0 : f a = 0) {u v w : Nat} (hu : 0 < f u) (hv : 0 < f v) (hw : 0 < f w) (h1 : bef X Y f a u v) (h2 : bef X Y f a v w) : bef X Y f a u w := by
  have t := T3 hf h0 u v w
  have e := ar_t X Y a w u
  rw [e, Int.mul_neg] at t
  have z1 : 0 ≤ (ar X Y a u v) := by rcases h1 with h | h <;> omega
  have z2 : 0 ≤ (ar X Y a v w) := by rcases h2 with h | h <;> omega
  have g1 := zpp (Int.le_of_lt hw) z1
  have g2 := zpp (Int.le_of_lt hu) z2
  rcases h1 with h1 | ⟨h1, k1⟩
  · left
    have := mpp hw h1
    exact cpos hv (by omega)
  · rcases h2 with h2 | ⟨h2, k2⟩
    · left
      have := mpp hu h2
      exact cpos hv (by omega)
    · right
      rw [h1, h2, Int.mul_zero, Int.mul_zero] at t
      exact ⟨czz hv (by omega), by omega⟩
theorem vis_core {X Y f : Nat → Int} (hf : Aff X Y f) {n a d p q v r s : Nat} {E : Nat → Nat → Prop} (hM : Mx X Y n E) (h0 : f a = 0) (fd : 0 < f d)
    (hmin : ∀ x, x < n → 0 < f x → bef X Y f a d x) (hpq : E p q) (hx : cx X Y a d p q)
    (hnear : ∀ p' q', E p' q' → cx X Y a d p' q' → (ar X Y p q a) * -(ar X Y p' q' d) ≤ (ar X Y p' q' a) * -(ar X Y p q d))
    (fv : 0 < f v) (dv : 0 < (ar X Y a d v)) (pv : 0 ≤ (ar X Y p q v)) (qv : 0 ≤ (ar X Y q a v))
    (vmin : ∀ x, x < n → 0 < f x → 0 < (ar X Y a d x) → 0 ≤ (ar X Y p q x) → 0 ≤ (ar X Y q a x) → bef X Y f a v x) (hrs : E r s) (hy : cx X Y a v r s) : False := by
  obtain ⟨m1, m2, m3, m4⟩ := hM
  obtain ⟨x1, x2, x3, x4⟩ := hx
  obtain ⟨y1, y2, y3, y4⟩ := hy
  have hr := (m1 r s hrs).1
  have vd : (ar X Y a v d) < 0 := by have := ar_t X Y a v d; omega
  have vq : 0 ≤ (ar X Y a v q) := by rw [← ar_c X Y q a v]; exact qv
  -- X' on a v, by h1, h2
  have c1 : (ar X Y a v r) * (ar X Y a d s) - (ar X Y a v s) * (ar X Y a d r) = (ar X Y r s v) * (ar X Y a d a) - (ar X Y r s a) * (ar X Y a d v) := CR (aff_ar X Y a d) a v r s
  have c2 : (ar X Y a v r) * (ar X Y p q s) - (ar X Y a v s) * (ar X Y p q r) = (ar X Y r s v) * (ar X Y p q a) - (ar X Y r s a) * (ar X Y p q v) := CR (aff_ar X Y p q) a v r s
  rw [ar_xyx X Y a d, Int.mul_zero] at c1
  have u1 : 0 < -(ar X Y a v r) := by omega
  have k1 := mpp y3 dv
  have k2 := mnp y4 x3
  have k2' := zpp (Int.le_of_lt y3) pv
  have X1 : 0 < (ar X Y a v s) * (ar X Y a d r) + -(ar X Y a v r) * (ar X Y a d s) := by rw [Int.neg_mul]; omega
  have X2 : 0 < (ar X Y a v s) * (ar X Y p q r) + -(ar X Y a v r) * (ar X Y p q s) := by rw [Int.neg_mul]; omega
  -- where the line r s meets the line p q
  let Q := (ar X Y p q s) * (ar X Y a d r) - (ar X Y p q r) * (ar X Y a d s)
  have hQ : Q = (ar X Y p q s) * (ar X Y a d r) - (ar X Y p q r) * (ar X Y a d s) := rfl
  have c3 : (ar X Y p q r) * (ar X Y a d s) - (ar X Y p q s) * (ar X Y a d r) = (ar X Y r s q) * (ar X Y a d p) - (ar X Y r s p) * (ar X Y a d q) := CR (aff_ar X Y a d) p q r s
  have c4 : (ar X Y p q r) * (ar X Y a v s) - (ar X Y p q s) * (ar X Y a v r) = (ar X Y r s q) * (ar X Y a v p) - (ar X Y r s p) * (ar X Y a v q) := CR (aff_ar X Y a v) p q r s
  have c5 : (ar X Y a d p) * (ar X Y a v q) - (ar X Y a d q) * (ar X Y a v p) = (ar X Y p q d) * (ar X Y a v a) - (ar X Y p q a) * (ar X Y a v d) := CR (aff_ar X Y a v) a d p q
  rw [ar_xyx X Y a v, Int.mul_zero] at c5
  have vp : (ar X Y a v p) < 0 := by
    have := mpn x3 vd
    have := znp (Int.le_of_lt x1) vq
    exact cneg x2 (by omega)
  have sump : (ar X Y p q s) - (ar X Y p q r) = (ar X Y r s p) - (ar X Y r s q) := by unfold ar; grind
  -- A: out through p q
  have optA : (ar X Y p q r) < 0 → 0 ≤ Q → False := by
    intro h2 hq0
    have hs2 : 0 < (ar X Y p q s) := by
      have := mpn y2 h2
      exact cpos u1 (by omega)
    have sq1 : (ar X Y r s q) < 0 := Decidable.byContradiction fun k => by
      have g1 := zpp (show 0 ≤ (ar X Y r s p) by omega) vq
      have g2 := zpn (show 0 ≤ (ar X Y r s q) by omega) (Int.le_of_lt vp)
      rw [Int.mul_comm (ar X Y p q r), Int.mul_comm (ar X Y p q s)] at c4
      rw [Int.neg_mul] at X2
      omega
    have sp1 : 0 < (ar X Y r s p) := Decidable.byContradiction fun k => by
      have g1 := znp (show (ar X Y r s p) ≤ 0 by omega) (Int.le_of_lt x2)
      have g2 := mNN sq1 x1
      omega
    exact m3 r s p q hrs hpq ⟨mpn sp1 sq1, mnp h2 hs2⟩
  have eQ : -(ar X Y a v r) * Q = ((ar X Y a v s) * (ar X Y p q r) + -(ar X Y a v r) * (ar X Y p q s)) * (ar X Y a d r) - (ar X Y p q r) * ((ar X Y a v s) * (ar X Y a d r) + -(ar X Y a v r) * (ar X Y a d s)) := by rw [hQ]; grind
  -- B: out through a d
  have c6 : (ar X Y a d r) * (ar X Y p q s) - (ar X Y a d s) * (ar X Y p q r) = (ar X Y r s d) * (ar X Y p q a) - (ar X Y r s a) * (ar X Y p q d) := CR (aff_ar X Y p q) a d r s
  have optB : (ar X Y a d r) < 0 → Q ≤ 0 → 0 ≤ Q := by
    intro h1 hq0
    have hs1 : 0 < (ar X Y a d s) := by
      have := mpn y2 h1
      exact cpos u1 (by omega)
    have sd : (ar X Y r s d) < 0 := by
      have := mpn y3 x4
      rw [Int.mul_comm (ar X Y a d r), Int.mul_comm (ar X Y a d s)] at c6
      exact cneg x3 (by rw [Int.mul_comm]; omega)
    have := hnear r s hrs ⟨h1, hs1, y3, sd⟩
    rw [Int.mul_neg, Int.mul_neg, Int.mul_comm (ar X Y p q a)] at this
    rw [Int.mul_comm (ar X Y a d r), Int.mul_comm (ar X Y a d s)] at c6
    omega
  by_cases h2 : (ar X Y p q r) < 0
  · by_cases hq0 : 0 ≤ Q
    · exact optA h2 hq0
    · have h1 : (ar X Y a d r) < 0 := Decidable.byContradiction fun k => by
        have g1 := zpp (Int.le_of_lt X2) (show 0 ≤ (ar X Y a d r) by omega)
        have g2 := mnp h2 X1
        have g3 := mpn u1 (show Q < 0 by omega)
        omega
      exact hq0 (optB h1 (by omega))
  · by_cases h1 : (ar X Y a d r) < 0
    · have g1 := mpn X2 h1
      have g2 := zpp (show 0 ≤ (ar X Y p q r) by omega) (Int.le_of_lt X1)
      have hq0 : Q < 0 := cneg u1 (by omega)
      have := optB h1 (by omega)
      omega
    · -- r before v, in the wedge
      have fr : 0 < f r := by
        have t := T3 hf h0 d r v
        have e1 : (ar X Y a v d) = -(ar X Y a d v) := ar_t X Y a v d
        have e2 : (ar X Y a r v) = -(ar X Y a v r) := ar_t X Y a r v
        rw [e1, e2, Int.mul_neg, Int.mul_neg] at t
        have g1 := mpn fd y1
        have g2 := zpp (Int.le_of_lt fv) (show 0 ≤ (ar X Y a d r) by omega)
        exact cpos dv (by rw [Int.mul_comm]; omega)
      by_cases h1' : 0 < (ar X Y a d r)
      · have h3 : 0 ≤ (ar X Y q a r) := Decidable.byContradiction fun k => by
          have t : (ar X Y a d v) * (ar X Y a q r) + (ar X Y a d q) * (ar X Y a r v) + (ar X Y a d r) * (ar X Y a v q) = 0 := T3 (aff_ar X Y a d) (ar_xyx X Y a d) v q r
          have g1 := mpp dv (show 0 < (ar X Y a q r) by have := ar_s X Y a q r; omega)
          have g2 := mpp x2 (show 0 < (ar X Y a r v) by have := ar_t X Y a r v; omega)
          have g3 := zpp (Int.le_of_lt h1') vq
          omega
        rcases vmin r hr fr h1' (by omega) h3 with h | h <;> omega
      · have z : (ar X Y a d r) = 0 := by omega
        rcases hmin r hr fr with h | ⟨_, h⟩
        · omega
        · have c7 : (ar X Y a d r) * ((ar X Y p q d) - (ar X Y p q a)) = f d * 0 - f d * 0 + (ar X Y a d r) * ((ar X Y p q d) - (ar X Y p q a)) := by omega
          have c8 : f d * ((ar X Y p q r) - (ar X Y p q a)) = f r * ((ar X Y p q d) - (ar X Y p q a)) := by
            have w1 := w_aff (aff_ar X Y p q) z
            have w2 := w_aff hf z
            rw [h0, Int.mul_zero, Int.zero_add] at w2
            have ws := w_sum X Y a d r
            have hs : sq X Y a d ≠ 0 := by
              intro hz
              have : X a = X d ∧ Y a = Y d := Decidable.byContradiction fun k => by have := sq_pos k; omega
              have ex : (ar X Y a d v) = 0 := by unfold ar; rw [this.1, this.2]; grind
              omega
            have w1' : sq X Y a d * (ar X Y p q r) = wa X Y a d r * (ar X Y p q a) + wb X Y a d r * (ar X Y p q d) := w1
            have e1 : sq X Y a d * (f d * ((ar X Y p q r) - (ar X Y p q a))) = sq X Y a d * (f r * ((ar X Y p q d) - (ar X Y p q a))) := by
              have : sq X Y a d * (f d * ((ar X Y p q r) - (ar X Y p q a))) = f d * (sq X Y a d * (ar X Y p q r) - sq X Y a d * (ar X Y p q a)) := by grind
              rw [this, w1', ← ws]
              have : (wa X Y a d r + wb X Y a d r) * (f r * ((ar X Y p q d) - (ar X Y p q a))) = ((wa X Y a d r + wb X Y a d r) * f r) * ((ar X Y p q d) - (ar X Y p q a)) := by grind
              rw [this, ws, w2, ← ws]
              grind
            exact Int.eq_of_mul_eq_mul_left hs e1
          have g1 : f r * ((ar X Y p q d) - (ar X Y p q a)) ≤ f d * ((ar X Y p q d) - (ar X Y p q a)) := by
            have := zpn (show 0 ≤ f r - f d by omega) (show (ar X Y p q d) - (ar X Y p q a) ≤ 0 by omega)
            rw [Int.sub_mul] at this
            omega
          have g2 : (ar X Y p q r) - (ar X Y p q a) ≤ (ar X Y p q d) - (ar X Y p q a) := Int.le_of_mul_le_mul_left (by omega) fd
          omega
theorem vis {X Y f : Nat → Int} {n : Nat} {E : Nat → Nat → Prop} (hD : Dst X Y n) (hM : Mx X Y n E) (hf : Aff X Y f) {a : Nat} (ha : a < n) (h0 : f a = 0) (hex : ∃ x, x < n ∧ 0 < f x) : ∃ v, E a v ∧ 0 < f v := by
  have hM' := hM
  obtain ⟨m1, m2, m3, m4⟩ := hM
  obtain ⟨d, hd, fd, hmin⟩ := fmin1 (n := n) (fun x => 0 < f x) (bef X Y f a) (fun x y _ _ => bef_total x y) (fun x y z h1 h2 h3 k1 k2 => bef_trans hf h0 h1 h2 h3 k1 k2) hex
  have nda : a ≠ d := fun e => by rw [e] at h0; omega
  -- what lies on a v comes before v
  have onl : ∀ v e, v < n → e < n → a ≠ v → e ≠ a → e ≠ v → 0 < f v → oS X Y a v e → 0 < f e ∧ ¬ bef X Y f a v e ∧ 0 < sq X Y a v ∧ 0 < wa X Y a v e ∧ 0 < wb X Y a v e := by
    intro v e hv he nav ea ev fv hon
    obtain ⟨w1, w2⟩ := oS_ws hon (hD.nq ha hv nav) (hD.nq ha he (Ne.symm ea)) (hD.nq hv he (Ne.symm ev))
    have hs := sq_pos (hD.nq ha hv nav)
    have g := w_aff hf hon.1
    rw [h0, Int.mul_zero, Int.zero_add] at g
    have ws := w_sum X Y a v e
    have fe : 0 < f e := cpos hs (by rw [g]; exact mpp w2 fv)
    refine ⟨fe, fun hb => ?_, hs, w1, w2⟩
    rcases hb with hb | ⟨_, hb⟩
    · have := hon.1; omega
    · have e1 : wa X Y a v e * f v = sq X Y a v * (f v - f e) := by rw [Int.mul_sub, g, ← ws, Int.add_mul]; omega
      have := mpp w1 fv
      have := cpos hs (show 0 < sq X Y a v * (f v - f e) by omega)
      omega
  by_cases hc : ∃ p q, p < n ∧ q < n ∧ (E p q ∧ cx X Y a d p q)
  · obtain ⟨p, q, hp, hq, ⟨hpq, hx⟩, hnear⟩ := fmin2 (n := n) (fun z => E z.1 z.2 ∧ cx X Y a d z.1 z.2) (fun z w => (ar X Y z.1 z.2 a) * -(ar X Y w.1 w.2 d) ≤ (ar X Y w.1 w.2 a) * -(ar X Y z.1 z.2 d))
      (fun z w _ _ => by
        rcases Int.le_total ((ar X Y z.1 z.2 a) * -(ar X Y w.1 w.2 d)) ((ar X Y w.1 w.2 a) * -(ar X Y z.1 z.2 d)) with h | h
        · exact Or.inl h
        · exact Or.inr h)
      (fun x y z h1 h2 h3 k1 k2 => by
        have g1 : 0 < -(ar X Y x.1 x.2 d) := by have := h1.2.2.2.2; omega
        have g2 : 0 < -(ar X Y y.1 y.2 d) := by have := h2.2.2.2.2; omega
        have g3 : 0 < -(ar X Y z.1 z.2 d) := by have := h3.2.2.2.2; omega
        revert k1 k2 g1 g2 g3
        generalize -(ar X Y x.1 x.2 d) = dx
        generalize -(ar X Y y.1 y.2 d) = dy
        generalize -(ar X Y z.1 z.2 d) = dz
        generalize (ar X Y x.1 x.2 a) = ax
        generalize (ar X Y y.1 y.2 a) = ay
        generalize (ar X Y z.1 z.2 a) = az
        intro k1 k2 g1 g2 g3
        have a1 := Int.mul_le_mul_of_nonneg_right k1 (Int.le_of_lt g3)
        have b1 := Int.mul_le_mul_of_nonneg_right k2 (Int.le_of_lt g1)
        have e1 : ax * dy * dz = dy * (ax * dz) := by grind
        have e2 : ay * dx * dz = ay * dz * dx := by grind
        have e3 : az * dy * dx = dy * (az * dx) := by grind
        exact Int.le_of_mul_le_mul_left (show dy * (ax * dz) ≤ dy * (az * dx) by omega) g2) hc
    have hx : cx X Y a d p q := hx
    have hpq : E p q := hpq
    have hx' := hx
    obtain ⟨x1, x2, x3, x4⟩ := hx'
    have fp : f p ≤ 0 := Decidable.byContradiction fun k => by
      rcases hmin p hp (by omega) with h | h <;> omega
    have fq : 0 < f q := by
      have c := CR hf a d p q
      rw [h0, Int.mul_zero] at c
      have g1 := mpp x3 fd
      have g2 := zpn (Int.le_of_lt x2) fp
      refine cpos (show 0 < -(ar X Y a d p) by omega) ?_
      rw [Int.neg_mul]; omega
    obtain ⟨v, hv, ⟨fv, dv, pv, qv⟩, vmin⟩ := fmin1 (n := n) (fun x => 0 < f x ∧ 0 < (ar X Y a d x) ∧ 0 ≤ (ar X Y p q x) ∧ 0 ≤ (ar X Y q a x)) (bef X Y f a) (fun x y _ _ => bef_total x y) (fun x y z h1 h2 h3 k1 k2 => bef_trans hf h0 h1.1 h2.1 h3.1 k1 k2)
      ⟨q, hq, fq, x2, by rw [ar_yxx]; omega, by rw [ar_xyx]; omega⟩
    have nva : a ≠ v := fun e => by rw [← e, h0] at fv; omega
    refine ⟨v, m4 a v ha hv nva ?_ ?_, fv⟩
    · intro e he ea ev hon
      obtain ⟨fe, nb, hs, w1, w2⟩ := onl v e hv he nva ea ev fv hon
      have g1 : sq X Y a v * (ar X Y a d e) = wa X Y a v e * (ar X Y a d a) + wb X Y a v e * (ar X Y a d v) := w_aff (aff_ar X Y a d) hon.1
      have g2 : sq X Y a v * (ar X Y p q e) = wa X Y a v e * (ar X Y p q a) + wb X Y a v e * (ar X Y p q v) := w_aff (aff_ar X Y p q) hon.1
      have g3 : sq X Y a v * (ar X Y q a e) = wa X Y a v e * (ar X Y q a a) + wb X Y a v e * (ar X Y q a v) := w_aff (aff_ar X Y q a) hon.1
      rw [ar_xyx X Y a d, Int.mul_zero, Int.zero_add] at g1
      rw [ar_yxx X Y q a, Int.mul_zero, Int.zero_add] at g3
      refine nb (vmin e he ⟨fe, cpos hs (by rw [g1]; exact mpp w2 dv), cnn hs ?_, cnn hs (by rw [g3]; exact zpp (by omega) qv)⟩)
      rw [g2]
      have := mpp w1 x3
      have := zpp (Int.le_of_lt w2) pv
      omega
    · have core : ∀ r s, E r s → ¬ cx X Y a v r s := fun r s hrs hy => vis_core hf hM' h0 fd hmin hpq hx
        (fun p' q' h h' => hnear p' q' (m1 p' q' h).1 (m1 p' q' h).2.1 ⟨h, h'⟩) fv dv pv qv (fun x hx k1 k2 k3 k4 => vmin x hx ⟨k1, k2, k3, k4⟩) hrs hy
      intro r s hrs hy
      rcases cx_of hy with h | h
      · exact core r s hrs h
      · exact core s r (m1 r s hrs).2.2.2 h
  · refine ⟨d, m4 a d ha hd nda ?_ ?_, fd⟩
    · intro e he ea ev hon
      obtain ⟨fe, nb, _, _, _⟩ := onl d e hd he nda ea ev fd hon
      exact nb (hmin e he fe)
    · intro r s hrs hy
      have hr := m1 r s hrs
      rcases cx_of hy with h | h
      · exact hc ⟨r, s, hr.1, hr.2.1, hrs, h⟩
      · exact hc ⟨s, r, hr.2.1, hr.1, hr.2.2.2, h⟩
/-- an edge with a point to its left has a triangle there -/
theorem apex {X Y : Nat → Int} {n : Nat} {E : Nat → Nat → Prop} (hD : Dst X Y n) (hM : Mx X Y n E) {a b x : Nat} (hab : E a b) (hx : x < n) (h : 0 < (ar X Y a b x)) : ∃ c, Tr X Y n E a b c := by
  have ha := (hM.1 a b hab).1
  obtain ⟨v, hv, fv⟩ := vis hD hM (aff_ar X Y a b) ha (ar_xyx X Y a b) ⟨x, hx, h⟩
  obtain ⟨c, hc, ⟨hac, fc⟩, hmin⟩ := fmin1 (n := n) (fun x => E a x ∧ 0 < (ar X Y a b x)) (bef X Y (fun x => (ar X Y a b x)) a) (fun x y _ _ => bef_total x y) (fun x y z h1 h2 h3 k1 k2 => bef_trans (aff_ar X Y a b) (ar_xyx X Y a b) h1.2 h2.2 h3.2 k1 k2) ⟨v, (hM.1 a v hv).2.1, hv, fv⟩
  refine ⟨c, nextTri hD hM hab hac fc fun d hd ⟨k1, k2⟩ => ?_⟩
  have := ar_t X Y a d c
  rcases hmin d (hM.1 a d hd).2.1 ⟨hd, k1⟩ with h | h <;> omega
