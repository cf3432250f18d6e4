/-! M3: the edges that cross a segment, in their order -/
/-- no edge goes through a triangle -/
theorem no_thru {X Y : Nat → Int} {n x y w c d : Nat} {E : Nat → Nat → Prop} {α β : Int} (hM : Mx X Y n E) (h : Tr X Y n E x y w) (hE : E c d) (ha : 0 < α) (hb : 0 < β)
    (q1 : 0 < α * (ar X Y x y c) + β * (ar X Y x y d)) (q2 : 0 < α * (ar X Y y w c) + β * (ar X Y y w d)) (q3 : 0 < α * (ar X Y w x c) + β * (ar X Y w x d)) : False := by
  obtain ⟨m1, m2, m3, m4⟩ := hM
  obtain ⟨xy, yw, wx, A, em⟩ := h
  obtain ⟨hx, hy, nxy, yx⟩ := m1 x y xy
  obtain ⟨hw, _, nwx, xw⟩ := m1 w x wx
  obtain ⟨hc, hd, ncd, hdc⟩ := m1 c d hE
  have a2 : (ar X Y y w x) = (ar X Y x y w) := (ar_c X Y x y w).symm
  have ix : inT X Y x y w x := ⟨by rw [ar_xyx]; omega, by rw [a2]; omega, by rw [ar_yxx]; omega⟩
  have iy : inT X Y x y w y := ⟨by rw [ar_yxx]; omega, by rw [ar_xyx]; omega, by rw [ar_c X Y w x y]; omega⟩
  have iw : inT X Y x y w w := ⟨by omega, by rw [ar_yxx]; omega, by rw [ar_xyx]; omega⟩
  by_cases hcin : inT X Y x y w c
  · by_cases hdin : inT X Y x y w d
    · have cy : c = x ∨ c = y ∨ c = w := Decidable.byContradiction fun k => em c hc (by omega) (by omega) (by omega) hcin
      have dy : d = x ∨ d = y ∨ d = w := Decidable.byContradiction fun k => em d hd (by omega) (by omega) (by omega) hdin
      have z1 := ar_xyx X Y x y
      have z2 := ar_yxx X Y x y
      have z3 := ar_xyx X Y y w
      have z4 := ar_yxx X Y y w
      have z5 := ar_xyx X Y w x
      have z6 := ar_yxx X Y w x
      rcases cy with e | e | e <;> rcases dy with e' | e' | e' <;> rw [e, e'] at q1 q2 q3 ncd
      · exact ncd rfl
      · rw [z1, z2, Int.mul_zero, Int.mul_zero] at q1; omega
      · rw [z5, z6, Int.mul_zero, Int.mul_zero] at q3; omega
      · rw [z1, z2, Int.mul_zero, Int.mul_zero] at q1; omega
      · exact ncd rfl
      · rw [z3, z4, Int.mul_zero, Int.mul_zero] at q2; omega
      · rw [z5, z6, Int.mul_zero, Int.mul_zero] at q3; omega
      · rw [z3, z4, Int.mul_zero, Int.mul_zero] at q2; omega
      · exact ncd rfl
    · have no : ∀ v, v < n → inT X Y x y w v → v ≠ c → ¬ oS X Y d c v := fun v hv hvi hvc hon => m2 d c hdc v hv (fun e => hdin (by rw [← e]; exact hvi)) hvc hon
      rcases thru (p := d) (q := c) (α := β) (β := α) A (by omega) ha (by omega) (by omega) (by omega) hdin (no x hx ix) (no y hy iy) (no w hw iw) with k | k | k
      · exact m3 x y d c xy hdc (cx_crs k)
      · exact m3 y w d c yw hdc (cx_crs k)
      · exact m3 w x d c wx hdc (cx_crs k)
  · have no : ∀ v, v < n → inT X Y x y w v → v ≠ d → ¬ oS X Y c d v := fun v hv hvi hvc hon => m2 c d hE v hv (fun e => hcin (by rw [← e]; exact hvi)) hvc hon
    rcases thru (p := c) (q := d) (α := α) (β := β) A (by omega) hb q1 q2 q3 hcin (no x hx ix) (no y hy iy) (no w hw iw) with k | k | k
    · exact m3 x y c d xy hE (cx_crs k)
    · exact m3 y w c d yw hE (cx_crs k)
    · exact m3 w x c d wx hE (cx_crs k)
/-- p, q crosses a, b nearer to a than u, v does -/
def pl (X Y : Nat → Int) (a b p q u v : Nat) : Prop := (ar X Y q p a) * -(ar X Y v u b) < (ar X Y v u a) * -(ar X Y q p b)
theorem pl_1 {X Y : Nat → Int} {a b l r w : Nat} (hx : cx X Y a b r l) (hA : 0 < (ar X Y l r w)) : pl X Y a b l r w r := by
  unfold pl
  have e : (ar X Y r l a) * (ar X Y r w b) - (ar X Y r l b) * (ar X Y r w a) = (ar X Y l r w) * -(ar X Y a b r) := by unfold ar; grind
  have := mpp hA (show 0 < -(ar X Y a b r) by have := hx.1; omega)
  rw [Int.mul_neg, Int.mul_neg, Int.mul_comm (ar X Y r w a)]
  omega
theorem pl_2 {X Y : Nat → Int} {a b l r w : Nat} (hx : cx X Y a b r l) (hA : 0 < (ar X Y l r w)) : pl X Y a b l r l w := by
  unfold pl
  have e : (ar X Y r l a) * (ar X Y w l b) - (ar X Y r l b) * (ar X Y w l a) = (ar X Y l r w) * (ar X Y a b l) := by unfold ar; grind
  have := mpp hA (show 0 < (ar X Y a b l) from hx.2.1)
  rw [Int.mul_neg, Int.mul_neg, Int.mul_comm (ar X Y w l a)]
  omega
theorem pl_trans {X Y : Nat → Int} {a b p q u v x y : Nat} (h1 : cx X Y a b q p) (h2 : cx X Y a b v u) (h3 : cx X Y a b y x) (k1 : pl X Y a b p q u v) (k2 : pl X Y a b u v x y) : pl X Y a b p q x y := by
  unfold pl at *
  have g1 : 0 < -(ar X Y q p b) := by have := h1.2.2.2; omega
  have g2 : 0 < -(ar X Y v u b) := by have := h2.2.2.2; omega
  have g3 : 0 < -(ar X Y y x b) := by have := h3.2.2.2; omega
  revert k1 k2 g1 g2 g3
  generalize -(ar X Y q p b) = dx
  generalize -(ar X Y v u b) = dy
  generalize -(ar X Y y x b) = dz
  generalize (ar X Y q p a) = ax
  generalize (ar X Y v u a) = ay
  generalize (ar X Y y x a) = az
  intro k1 k2 g1 g2 g3
  have a1 := mpp (show 0 < ay * dx - ax * dy by omega) g3
  have b1 := mpp (show 0 < az * dy - ay * dz by omega) g1
  have e : (ay * dx - ax * dy) * dz + (az * dy - ay * dz) * dx = dy * (az * dx - ax * dz) := by grind
  have := cpos g2 (show 0 < dy * (az * dx - ax * dz) by omega)
  omega
theorem pl_irr {X Y : Nat → Int} {a b p q : Nat} (h : pl X Y a b p q p q) : False := by unfold pl at h; omega
theorem posX {X Y f : Nat → Int} (hf : Aff X Y f) (a b p q : Nat) : -(ar X Y a b q) * f p + (ar X Y a b p) * f q = -(ar X Y q p b) * f a + (ar X Y q p a) * f b := by
  have c := CR hf a b p q
  have e1 := ar_s X Y p q a
  have e2 := ar_s X Y p q b
  rw [e1, e2] at c
  rw [Int.neg_mul] at *
  rw [Int.neg_mul] at *
  omega
theorem btw {X Y : Nat → Int} {n a b l r w p q : Nat} {E : Nat → Nat → Prop} (hM : Mx X Y n E) (h : Tr X Y n E l r w) (hx : cx X Y a b r l) (hE : E p q) (hy : cx X Y a b q p) (k1 : pl X Y a b l r p q)
    (k2 : (0 < (ar X Y a b w) ∧ pl X Y a b p q w r) ∨ ((ar X Y a b w) < 0 ∧ pl X Y a b p q l w) ∨ w = b) : False := by
  have f1 : -(ar X Y a b q) * (ar X Y l r p) + (ar X Y a b p) * (ar X Y l r q) = -(ar X Y q p b) * (ar X Y l r a) + (ar X Y q p a) * (ar X Y l r b) := posX (aff_ar X Y l r) a b p q
  have f2 : -(ar X Y a b q) * (ar X Y r w p) + (ar X Y a b p) * (ar X Y r w q) = -(ar X Y q p b) * (ar X Y r w a) + (ar X Y q p a) * (ar X Y r w b) := posX (aff_ar X Y r w) a b p q
  have f3 : -(ar X Y a b q) * (ar X Y w l p) + (ar X Y a b p) * (ar X Y w l q) = -(ar X Y q p b) * (ar X Y w l a) + (ar X Y q p a) * (ar X Y w l b) := posX (aff_ar X Y w l) a b p q
  have u : 0 < -(ar X Y a b q) := by have := hy.1; omega
  have v : 0 < (ar X Y a b p) := hy.2.1
  have vp : 0 < -(ar X Y q p b) := by have := hy.2.2.2; omega
  have up : 0 < (ar X Y q p a) := hy.2.2.1
  have sr : 0 < -(ar X Y a b r) := by have := hx.1; omega
  have sl : 0 < (ar X Y a b l) := hx.2.1
  have x1 : 0 < -(ar X Y a b q) * (ar X Y l r p) + (ar X Y a b p) * (ar X Y l r q) := by
    rw [f1]
    unfold pl at k1
    have e1 := ar_s X Y l r a
    have e2 := ar_s X Y l r b
    rw [e1, e2, Int.mul_neg, Int.mul_comm (-(ar X Y q p b))]
    omega
  have bp : (ar X Y l r w) * (ar X Y a b p) = (ar X Y r w p) * (ar X Y a b l) + (ar X Y w l p) * (ar X Y a b r) + (ar X Y l r p) * (ar X Y a b w) := bary (aff_ar X Y a b) l r w p
  have bq : (ar X Y l r w) * (ar X Y a b q) = (ar X Y r w q) * (ar X Y a b l) + (ar X Y w l q) * (ar X Y a b r) + (ar X Y l r q) * (ar X Y a b w) := bary (aff_ar X Y a b) l r w q
  have bal : (-(ar X Y a b q) * (ar X Y r w p) + (ar X Y a b p) * (ar X Y r w q)) * (ar X Y a b l) + (-(ar X Y a b q) * (ar X Y w l p) + (ar X Y a b p) * (ar X Y w l q)) * (ar X Y a b r) + (-(ar X Y a b q) * (ar X Y l r p) + (ar X Y a b p) * (ar X Y l r q)) * (ar X Y a b w) = 0 := by
    have : (-(ar X Y a b q) * (ar X Y r w p) + (ar X Y a b p) * (ar X Y r w q)) * (ar X Y a b l) + (-(ar X Y a b q) * (ar X Y w l p) + (ar X Y a b p) * (ar X Y w l q)) * (ar X Y a b r) + (-(ar X Y a b q) * (ar X Y l r p) + (ar X Y a b p) * (ar X Y l r q)) * (ar X Y a b w) = -(ar X Y a b q) * ((ar X Y r w p) * (ar X Y a b l) + (ar X Y w l p) * (ar X Y a b r) + (ar X Y l r p) * (ar X Y a b w)) + (ar X Y a b p) * ((ar X Y r w q) * (ar X Y a b l) + (ar X Y w l q) * (ar X Y a b r) + (ar X Y l r q) * (ar X Y a b w)) := by grind
    rw [this, ← bp, ← bq]
    grind
  rcases k2 with ⟨sw, k2⟩ | ⟨sw, k2⟩ | e
  · have x2 : 0 < -(ar X Y a b q) * (ar X Y r w p) + (ar X Y a b p) * (ar X Y r w q) := by
      rw [f2]
      unfold pl at k2
      rw [Int.mul_comm (-(ar X Y q p b))]
      rw [Int.mul_neg (ar X Y q p a)] at k2
      omega
    have g1 := mpp x2 sl
    have g2 := mpp x1 sw
    have x3 : 0 < -(ar X Y a b q) * (ar X Y w l p) + (ar X Y a b p) * (ar X Y w l q) := by
      refine cpos sr ?_
      rw [Int.neg_mul, Int.mul_comm (ar X Y a b r)]
      omega
    exact no_thru hM h hE u v x1 x2 x3
  · have x3 : 0 < -(ar X Y a b q) * (ar X Y w l p) + (ar X Y a b p) * (ar X Y w l q) := by
      rw [f3]
      unfold pl at k2
      rw [Int.mul_comm (-(ar X Y q p b))]
      rw [Int.mul_neg (ar X Y q p a)] at k2
      omega
    have g1 := mpn x3 hx.1
    have g2 := mpn x1 sw
    have x2 : 0 < -(ar X Y a b q) * (ar X Y r w p) + (ar X Y a b p) * (ar X Y r w q) := by
      refine cpos sl ?_
      rw [Int.mul_comm (ar X Y a b l)]
      omega
    exact no_thru hM h hE u v x1 x2 x3
  · rw [e] at f2 f3 h
    have x2 : 0 < -(ar X Y a b q) * (ar X Y r b p) + (ar X Y a b p) * (ar X Y r b q) := by
      rw [f2, ar_yxx X Y r b, Int.mul_zero, Int.add_zero]
      exact mpp vp (by have := ar_c X Y r b a; have := ar_o X Y a b r; have := ar_c X Y b a r; omega)
    have x3 : 0 < -(ar X Y a b q) * (ar X Y b l p) + (ar X Y a b p) * (ar X Y b l q) := by
      rw [f3, ar_xyx X Y b l, Int.mul_zero, Int.add_zero]
      exact mpp vp (by rw [← ar_c X Y a b l]; exact sl)
    exact no_thru hM h hE u v x1 x2 x3
/-- nothing crosses before the first -/
theorem btw0 {X Y : Nat → Int} {n a b l r p q : Nat} {E : Nat → Nat → Prop} (hM : Mx X Y n E) (h : Tr X Y n E a r l) (sr : (ar X Y a b r) < 0) (sl : 0 < (ar X Y a b l)) (hE : E p q) (hy : cx X Y a b q p) (k : pl X Y a b p q l r) : False := by
  have f1 : -(ar X Y a b q) * (ar X Y a r p) + (ar X Y a b p) * (ar X Y a r q) = -(ar X Y q p b) * (ar X Y a r a) + (ar X Y q p a) * (ar X Y a r b) := posX (aff_ar X Y a r) a b p q
  have f2 : -(ar X Y a b q) * (ar X Y r l p) + (ar X Y a b p) * (ar X Y r l q) = -(ar X Y q p b) * (ar X Y r l a) + (ar X Y q p a) * (ar X Y r l b) := posX (aff_ar X Y r l) a b p q
  have f3 : -(ar X Y a b q) * (ar X Y l a p) + (ar X Y a b p) * (ar X Y l a q) = -(ar X Y q p b) * (ar X Y l a a) + (ar X Y q p a) * (ar X Y l a b) := posX (aff_ar X Y l a) a b p q
  have u : 0 < -(ar X Y a b q) := by have := hy.1; omega
  have v : 0 < (ar X Y a b p) := hy.2.1
  have up : 0 < (ar X Y q p a) := hy.2.2.1
  refine no_thru hM h hE u v ?_ ?_ ?_
  · rw [f1, ar_xyx X Y a r, Int.mul_zero, Int.zero_add]
    exact mpp up (by have := ar_t X Y a r b; omega)
  · rw [f2]
    unfold pl at k
    rw [Int.mul_comm (-(ar X Y q p b))]
    rw [Int.mul_neg (ar X Y q p a)] at k
    omega
  · rw [f3, ar_yxx X Y l a, Int.mul_zero, Int.zero_add]
    exact mpp up (by rw [ar_c X Y l a b]; exact sl)
/-- two edges that cross a, b at one place are one -/
theorem pl_eq {X Y : Nat → Int} {n a b p q u v : Nat} {E : Nat → Nat → Prop} (hD : Dst X Y n) (hM : Mx X Y n E) (h1 : E p q) (h2 : E u v) (x1 : cx X Y a b q p) (x2 : cx X Y a b v u) (k1 : ¬ pl X Y a b p q u v) (k2 : ¬ pl X Y a b u v p q) : p = u ∧ q = v := by
  obtain ⟨m1, m2, m3, m4⟩ := hM
  unfold pl at k1 k2
  rw [Int.mul_neg, Int.mul_neg] at k1 k2
  have f1 : -(ar X Y a b v) * (ar X Y q p u) + (ar X Y a b u) * (ar X Y q p v) = -(ar X Y v u b) * (ar X Y q p a) + (ar X Y v u a) * (ar X Y q p b) := posX (aff_ar X Y q p) a b u v
  have f2 : -(ar X Y a b q) * (ar X Y v u p) + (ar X Y a b p) * (ar X Y v u q) = -(ar X Y q p b) * (ar X Y v u a) + (ar X Y q p a) * (ar X Y v u b) := posX (aff_ar X Y v u) a b p q
  have e1 : -(ar X Y v u b) * (ar X Y q p a) + (ar X Y v u a) * (ar X Y q p b) = 0 := by rw [Int.neg_mul, Int.mul_comm (ar X Y v u b)]; omega
  have e2 : -(ar X Y q p b) * (ar X Y v u a) + (ar X Y q p a) * (ar X Y v u b) = 0 := by rw [Int.neg_mul, Int.mul_comm (ar X Y q p b)]; omega
  rw [e1] at f1
  rw [e2] at f2
  have s1 : 0 < -(ar X Y a b v) := by have := x2.1; omega
  have s2 : 0 < (ar X Y a b u) := x2.2.1
  have s3 : 0 < -(ar X Y a b q) := by have := x1.1; omega
  have s4 : 0 < (ar X Y a b p) := x1.2.1
  have sg : ∀ {s t x y : Int}, 0 < s → 0 < t → s * x + t * y = 0 → x * y < 0 ∨ (x = 0 ∧ y = 0) := by
    intro s t x y hs ht h
    rcases Int.lt_trichotomy x 0 with hx | hx | hx
    · have := mpn hs hx
      exact Or.inl (mnp hx (cpos ht (by omega)))
    · rw [hx, Int.mul_zero] at h
      exact Or.inr ⟨hx, czz ht (by omega)⟩
    · have := mpp hs hx
      exact Or.inl (mpn hx (cneg ht (by omega)))
  have cr : (ar X Y q p u) - (ar X Y q p v) = (ar X Y v u q) - (ar X Y v u p) := by unfold ar; grind
  have both : ((ar X Y q p u) = 0 ∧ (ar X Y q p v) = 0) ∧ ((ar X Y v u p) = 0 ∧ (ar X Y v u q) = 0) := by
    rcases sg s1 s2 f1 with g1 | g1 <;> rcases sg s3 s4 f2 with g2 | g2
    · exact absurd (show crs X Y q p u v from ⟨g1, by
        have e1 := ar_s X Y u v q
        have e2 := ar_s X Y u v p
        rw [e1, e2, Int.neg_mul_neg, Int.mul_comm]
        exact g2⟩) (m3 q p u v (m1 p q h1).2.2.2 h2)
    · rcases neg_cases g1 with g | g <;> omega
    · rcases neg_cases g2 with g | g <;> omega
    · exact ⟨g1, g2⟩
  obtain ⟨⟨z1, z2⟩, z3, z4⟩ := both
  obtain ⟨hp, hq, npq, hqp⟩ := m1 p q h1
  obtain ⟨hu, hv, nuv, hvu⟩ := m1 u v h2
  have same : ∀ {c d e : Nat}, (ar X Y d c e) = 0 → (ar X Y a b d) < 0 → 0 < (ar X Y a b c) → (ar X Y a b e) = (ar X Y a b c) → X e = X c ∧ Y e = Y c := by
    intro c d e hz h1 h2 h3
    have w1 : sq X Y d c * (ar X Y a b e) = wa X Y d c e * (ar X Y a b d) + wb X Y d c e * (ar X Y a b c) := w_aff (aff_ar X Y a b) hz
    have ws := w_sum X Y d c e
    have hs : 0 < sq X Y d c := sq_pos (fun k => by
      have : (ar X Y a b d) = (ar X Y a b c) := by unfold ar; rw [k.1, k.2]
      omega)
    have wz : wa X Y d c e = 0 := by
      have : wa X Y d c e * ((ar X Y a b c) - (ar X Y a b d)) = 0 := by rw [h3, ← ws] at w1; grind
      rw [Int.mul_comm] at this
      exact czz (by omega) this
    have wx := w_aff (aff_x X Y) hz
    have wy := w_aff (aff_y X Y) hz
    rw [wz, Int.zero_mul, Int.zero_add, show wb X Y d c e = sq X Y d c by omega] at wx wy
    exact ⟨Int.eq_of_mul_eq_mul_left (by omega) wx, Int.eq_of_mul_eq_mul_left (by omega) wy⟩
  have same' : ∀ {c d e : Nat}, (ar X Y d c e) = 0 → (ar X Y a b d) < 0 → 0 < (ar X Y a b c) → (ar X Y a b e) = (ar X Y a b d) → X e = X d ∧ Y e = Y d := by
    intro c d e hz h1 h2 h3
    have w1 : sq X Y d c * (ar X Y a b e) = wa X Y d c e * (ar X Y a b d) + wb X Y d c e * (ar X Y a b c) := w_aff (aff_ar X Y a b) hz
    have ws := w_sum X Y d c e
    have hs : 0 < sq X Y d c := sq_pos (fun k => by
      have : (ar X Y a b d) = (ar X Y a b c) := by unfold ar; rw [k.1, k.2]
      omega)
    have wz : wb X Y d c e = 0 := by
      have : wb X Y d c e * ((ar X Y a b c) - (ar X Y a b d)) = 0 := by rw [h3, ← ws] at w1; grind
      rw [Int.mul_comm] at this
      exact czz (by omega) this
    have wx := w_aff (aff_x X Y) hz
    have wy := w_aff (aff_y X Y) hz
    rw [wz, Int.zero_mul, Int.add_zero, show wa X Y d c e = sq X Y d c by omega] at wx wy
    exact ⟨Int.eq_of_mul_eq_mul_left (by omega) wx, Int.eq_of_mul_eq_mul_left (by omega) wy⟩
  have npv : u ≠ q := fun e => by rw [e] at s2; omega
  have nuq : p ≠ v := fun e => by rw [e] at s4; omega
  constructor
  · refine Decidable.byContradiction fun hne => ?_
    rcases Int.lt_trichotomy (ar X Y a b u) (ar X Y a b p) with h | h | h
    · exact m2 q p hqp u hu npv (Ne.symm hne) (oS_of (aff_ar X Y a b) z1 (by show (ar X Y a b q) ≤ (ar X Y a b u); omega) (by show (ar X Y a b u) ≤ (ar X Y a b p); omega) (by show (ar X Y a b q) < (ar X Y a b p); omega))
    · have := same z1 (by omega) s4 h
      exact hne (hD p u hp hu this.1.symm this.2.symm)
    · exact m2 v u hvu p hp nuq hne (oS_of (aff_ar X Y a b) z3 (by show (ar X Y a b v) ≤ (ar X Y a b p); omega) (by show (ar X Y a b p) ≤ (ar X Y a b u); omega) (by show (ar X Y a b v) < (ar X Y a b u); omega))
  · refine Decidable.byContradiction fun hne => ?_
    rcases Int.lt_trichotomy (ar X Y a b v) (ar X Y a b q) with h | h | h
    · exact m2 v u hvu q hq hne (Ne.symm npv) (oS_of (aff_ar X Y a b) z4 (by show (ar X Y a b v) ≤ (ar X Y a b q); omega) (by show (ar X Y a b q) ≤ (ar X Y a b u); omega) (by show (ar X Y a b v) < (ar X Y a b u); omega))
    · have := same' z2 (by omega) s4 h
      exact hne (hD q v hq hv this.1.symm this.2.symm)
    · exact m2 q p hqp v hv (Ne.symm hne) (Ne.symm nuq) (oS_of (aff_ar X Y a b) z2 (by show (ar X Y a b q) ≤ (ar X Y a b v); omega) (by show (ar X Y a b v) ≤ (ar X Y a b p); omega) (by show (ar X Y a b q) < (ar X Y a b p); omega))
