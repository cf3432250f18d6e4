/-! M3: the triangles of the new point -/
theorem vs_corner {X Y : Nat → Int} {n x y w : Nat} {E : Nat → Nat → Prop} (hD : Dst X Y (n + 1)) (hM : Mx X Y n E) (h : Tr X Y n E x y w) (hin : inT X Y x y w n) : vs X Y n E x := by
  have hM' := hM
  obtain ⟨m1, m2, m3, m4⟩ := hM
  obtain ⟨xy, yw, wx, A, em⟩ := h
  obtain ⟨f1, f2, f3⟩ := hin
  obtain ⟨hx, hy, nxy, yx⟩ := m1 x y xy
  obtain ⟨hw, _, nwx, xw⟩ := m1 w x wx
  have e4 := ar4 X Y x y w n
  by_cases z1 : (ar X Y x y n) = 0
  · exact vs_end hD hM' xy (oS_of (aff_ar X Y w x) z1 (by show (ar X Y w x x) ≤ (ar X Y w x n); rw [ar_yxx]; exact f3) (by show (ar X Y w x n) ≤ (ar X Y w x y); rw [ar_c X Y w x y]; omega) (by show (ar X Y w x x) < (ar X Y w x y); rw [ar_yxx, ar_c X Y w x y]; exact A))
  by_cases z3 : (ar X Y w x n) = 0
  · exact vs_end hD hM' xw (oS_of (aff_ar X Y x y) (show (ar X Y x w n) = 0 by have := ar_s X Y x w n; omega) (by show (ar X Y x y x) ≤ (ar X Y x y n); rw [ar_xyx]; exact f1) (by show (ar X Y x y n) ≤ (ar X Y x y w); omega) (by show (ar X Y x y x) < (ar X Y x y w); rw [ar_xyx]; exact A))
  have g1 : 0 < (ar X Y x y n) := by omega
  have g3 : 0 < (ar X Y w x n) := by omega
  have a2 : (ar X Y y w x) = (ar X Y x y w) := (ar_c X Y x y w).symm
  refine ⟨hx, fun p hp pn px hon => ?_, ?_⟩
  · have qx := hD.nq (show n < n + 1 by omega) (show x < n + 1 by omega) (by omega)
    obtain ⟨w1, w2⟩ := oS_ws hon qx (hD.nq (show n < n + 1 by omega) (show p < n + 1 by omega) (by omega)) (hD.nq (show x < n + 1 by omega) (show p < n + 1 by omega) (Ne.symm px))
    have hs := sq_pos qx
    have t1 : sq X Y n x * (ar X Y x y p) = wa X Y n x p * (ar X Y x y n) + wb X Y n x p * (ar X Y x y x) := w_aff (aff_ar X Y x y) hon.1
    have t2 : sq X Y n x * (ar X Y y w p) = wa X Y n x p * (ar X Y y w n) + wb X Y n x p * (ar X Y y w x) := w_aff (aff_ar X Y y w) hon.1
    have t3 : sq X Y n x * (ar X Y w x p) = wa X Y n x p * (ar X Y w x n) + wb X Y n x p * (ar X Y w x x) := w_aff (aff_ar X Y w x) hon.1
    rw [ar_xyx X Y x y, Int.mul_zero, Int.add_zero] at t1
    rw [ar_yxx X Y w x, Int.mul_zero, Int.add_zero] at t3
    rw [a2] at t2
    have j1 := zpp (Int.le_of_lt w1) f2
    have j2 := mpp w2 A
    have k2 : 0 < (ar X Y y w p) := cpos hs (by omega)
    refine em p hp px (fun e => ?_) (fun e => ?_) ⟨cnn hs (by rw [t1]; exact zpp (by omega) f1), by omega, cnn hs (by rw [t3]; exact zpp (by omega) f3)⟩
    · rw [e, ar_xyx] at k2; omega
    · rw [e, ar_yxx] at k2; omega
  · have core : ∀ c d, E c d → ¬ cx X Y n x c d := by
      intro c d hE ⟨x1, x2, x3, x4⟩
      obtain ⟨hc, hd, ncd, hdc⟩ := m1 c d hE
      have c1 : (ar X Y n x c) * (ar X Y x y d) - (ar X Y n x d) * (ar X Y x y c) = (ar X Y c d x) * (ar X Y x y n) - (ar X Y c d n) * (ar X Y x y x) := CR (aff_ar X Y x y) n x c d
      have c2 : (ar X Y n x c) * (ar X Y y w d) - (ar X Y n x d) * (ar X Y y w c) = (ar X Y c d x) * (ar X Y y w n) - (ar X Y c d n) * (ar X Y y w x) := CR (aff_ar X Y y w) n x c d
      have c3 : (ar X Y n x c) * (ar X Y w x d) - (ar X Y n x d) * (ar X Y w x c) = (ar X Y c d x) * (ar X Y w x n) - (ar X Y c d n) * (ar X Y w x x) := CR (aff_ar X Y w x) n x c d
      rw [ar_xyx X Y x y, Int.mul_zero] at c1
      rw [ar_yxx X Y w x, Int.mul_zero] at c3
      rw [a2] at c2
      have k1 := mnp x4 g1
      have k2 := znp (Int.le_of_lt x4) f2
      have k2' := mpp x3 A
      have k3 := mnp x4 g3
      have u : 0 < -(ar X Y n x c) := by omega
      have q1 : 0 < (ar X Y n x d) * (ar X Y x y c) + -(ar X Y n x c) * (ar X Y x y d) := by rw [Int.neg_mul]; omega
      have q2 : 0 < (ar X Y n x d) * (ar X Y y w c) + -(ar X Y n x c) * (ar X Y y w d) := by rw [Int.neg_mul]; omega
      have q3 : 0 < (ar X Y n x d) * (ar X Y w x c) + -(ar X Y n x c) * (ar X Y w x d) := by rw [Int.neg_mul]; omega
      have ncx : c ≠ x := fun e => by rw [e, ar_yxx] at x1; omega
      have ndx : d ≠ x := fun e => by rw [e, ar_yxx] at x2; omega
      by_cases hcin : inT X Y x y w c
      · by_cases hdin : inT X Y x y w d
        · have cy : c = y ∨ c = w := Decidable.byContradiction fun k => em c hc ncx (by omega) (by omega) hcin
          have dy : d = y ∨ d = w := Decidable.byContradiction fun k => em d hd ndx (by omega) (by omega) hdin
          have fc : (ar X Y y w c) = 0 := by rcases cy with e | e <;> rw [e]; exact ar_xyx X Y y w; exact ar_yxx X Y y w
          have fd : (ar X Y y w d) = 0 := by rcases dy with e | e <;> rw [e]; exact ar_xyx X Y y w; exact ar_yxx X Y y w
          rw [fc, fd, Int.mul_zero, Int.mul_zero] at q2
          omega
        · have no : ∀ v, v < n → inT X Y x y w v → v ≠ c → ¬ oS X Y d c v := fun v hv hvi hvc hon => m2 d c hdc v hv (fun e => hdin (by rw [← e]; exact hvi)) hvc hon
          have ix : inT X Y x y w x := ⟨by rw [ar_xyx]; omega, by rw [a2]; omega, by rw [ar_yxx]; omega⟩
          have iy : inT X Y x y w y := ⟨by rw [ar_yxx]; omega, by rw [ar_xyx]; omega, by rw [ar_c X Y w x y]; omega⟩
          have iw : inT X Y x y w w := ⟨by omega, by rw [ar_yxx]; omega, by rw [ar_xyx]; omega⟩
          rcases thru (p := d) (q := c) (α := -(ar X Y n x c)) (β := (ar X Y n x d)) A (by omega) x2 (by omega) (by omega) (by omega) hdin (no x hx ix) (no y hy iy) (no w hw iw) with k | k | k
          · exact m3 x y d c xy hdc (cx_crs k)
          · exact m3 y w d c yw hdc (cx_crs k)
          · exact m3 w x d c wx hdc (cx_crs k)
      · have no : ∀ v, v < n → inT X Y x y w v → v ≠ d → ¬ oS X Y c d v := fun v hv hvi hvc hon => m2 c d hE v hv (fun e => hcin (by rw [← e]; exact hvi)) hvc hon
        have ix : inT X Y x y w x := ⟨by rw [ar_xyx]; omega, by rw [a2]; omega, by rw [ar_yxx]; omega⟩
        have iy : inT X Y x y w y := ⟨by rw [ar_yxx]; omega, by rw [ar_xyx]; omega, by rw [ar_c X Y w x y]; omega⟩
        have iw : inT X Y x y w w := ⟨by omega, by rw [ar_yxx]; omega, by rw [ar_xyx]; omega⟩
        rcases thru (p := c) (q := d) (α := (ar X Y n x d)) (β := -(ar X Y n x c)) A (by omega) u q1 q2 q3 hcin (no x hx ix) (no y hy iy) (no w hw iw) with k | k | k
        · exact m3 x y c d xy hE (cx_crs k)
        · exact m3 y w c d yw hE (cx_crs k)
        · exact m3 w x c d wx hE (cx_crs k)
    intro c d hE hcr
    rcases cx_of hcr with k | k
    · exact core c d hE k
    · exact core d c (m1 c d hE).2.2.2 k
theorem vs_out {X Y : Nat → Int} {n x y : Nat} {E : Nat → Nat → Prop} (hD : Dst X Y (n + 1)) (hM : Mx X Y n E) (hx : x < n) (h0 : (ar X Y x y x) = 0) (hall : ∀ p, p < n → (ar X Y x y p) ≤ 0) (hn : 0 < (ar X Y x y n)) (hv : ∃ v, (v = x ∨ v = y) ∧ v < n) : ∀ v, (v = x ∨ v = y) → v < n → vs X Y n E v := by
  obtain ⟨m1, m2, m3, m4⟩ := hM
  intro v hvv hvn
  have fv : (ar X Y x y v) = 0 := by rcases hvv with e | e <;> rw [e]; exact h0; exact ar_yxx X Y x y
  refine ⟨hvn, fun p hp pn pv hon => ?_, ?_⟩
  · have q := hD.nq (show n < n + 1 by omega) (show v < n + 1 by omega) (by omega)
    obtain ⟨w1, w2⟩ := oS_ws hon q (hD.nq (show n < n + 1 by omega) (show p < n + 1 by omega) (by omega)) (hD.nq (show v < n + 1 by omega) (show p < n + 1 by omega) (Ne.symm pv))
    have t1 : sq X Y n v * (ar X Y x y p) = wa X Y n v p * (ar X Y x y n) + wb X Y n v p * (ar X Y x y v) := w_aff (aff_ar X Y x y) hon.1
    rw [fv, Int.mul_zero, Int.add_zero] at t1
    have := cpos (sq_pos q) (show 0 < sq X Y n v * (ar X Y x y p) by rw [t1]; exact mpp w1 hn)
    have := hall p hp
    omega
  · have core : ∀ c d, E c d → ¬ cx X Y n v c d := by
      intro c d hE ⟨x1, x2, x3, x4⟩
      have c1 : (ar X Y n v c) * (ar X Y x y d) - (ar X Y n v d) * (ar X Y x y c) = (ar X Y c d v) * (ar X Y x y n) - (ar X Y c d n) * (ar X Y x y v) := CR (aff_ar X Y x y) n v c d
      rw [fv, Int.mul_zero] at c1
      have k1 := mnp x4 hn
      have k2 := znn (Int.le_of_lt x1) (hall d (m1 c d hE).2.1)
      have k3 := zpn (Int.le_of_lt x2) (hall c (m1 c d hE).1)
      omega
    intro c d hE hcr
    rcases cx_of hcr with k | k
    · exact core c d hE k
    · exact core d c (m1 c d hE).2.2.2 k
theorem ins_new {X Y : Nat → Int} {n x y : Nat} {E : Nat → Nat → Prop} (hD : Dst X Y (n + 1)) (hM : Mx X Y n E) (hx : x ≠ n) (hy : y ≠ n) : Tr X Y (n + 1) (insE X Y n E) x y n ↔ E x y ∧ 0 < (ar X Y x y n) ∧ ∀ w, Tr X Y n E x y w → inT X Y x y w n := by
  have hM' := hM
  obtain ⟨m1, m2, m3, m4⟩ := hM
  constructor
  · intro ⟨h1, h2, h3, h4, h5⟩
    have hxy : E x y := by
      rcases h1 with ⟨h, _⟩ | ⟨h, _⟩ | ⟨h, _⟩
      · exact h
      · exact absurd h hx
      · exact absurd h hy
    have vy : vs X Y n E y := by
      rcases h2 with ⟨h, _⟩ | ⟨h, _⟩ | ⟨_, h⟩
      · have := (m1 y n h).2.1; omega
      · exact absurd h hy
      · exact h
    have vx : vs X Y n E x := by
      rcases h3 with ⟨h, _⟩ | ⟨_, h⟩ | ⟨h, _⟩
      · have := (m1 n x h).1; omega
      · exact h
      · exact absurd h hx
    refine ⟨hxy, h4, fun w hw => Classical.byContradiction fun k => ?_⟩
    obtain ⟨_, yw, wx, A, em⟩ := hw
    have h7 := m1 w x wx
    have h8 := m1 y w yw
    rcases apex_x A h4 k (h5 w (by omega) h7.2.2.1 (Ne.symm h8.2.2.1) (by omega)) with h | h
    · exact vx.2.2 y w yw (crs_s h)
    · exact vy.2.2 x w h7.2.2.2 (crs_s h)
  · intro ⟨hxy, hn, hin⟩
    obtain ⟨hxn, hyn, nxy, hyx⟩ := m1 x y hxy
    have non : ¬ oS X Y x y n := fun k => by have := k.1; omega
    by_cases hex : ∃ p, p < n ∧ 0 < (ar X Y x y p)
    · obtain ⟨p0, hp0, fp0⟩ := hex
      obtain ⟨w, hw⟩ := apex (hD.le (by omega)) hM' hxy hp0 fp0
      have hi := hin w hw
      have vx := vs_corner hD hM' hw hi
      have vy := vs_corner hD hM' hw.rot ⟨hi.2.1, hi.2.2, hi.1⟩
      refine ⟨Or.inl ⟨hxy, non⟩, Or.inr (Or.inr ⟨rfl, vy⟩), Or.inr (Or.inl ⟨rfl, vx⟩), hn, ?_⟩
      intro p hp px py pn ⟨k1, k2, k3⟩
      obtain ⟨_, yw, wx, A, em⟩ := hw
      obtain ⟨i1, i2, i3⟩ := hi
      have b2 : (ar X Y x y n) * (ar X Y y w p) = (ar X Y y n p) * (ar X Y y w x) + (ar X Y n x p) * (ar X Y y w y) + (ar X Y x y p) * (ar X Y y w n) := bary (aff_ar X Y y w) x y n p
      have b3 : (ar X Y x y n) * (ar X Y w x p) = (ar X Y y n p) * (ar X Y w x x) + (ar X Y n x p) * (ar X Y w x y) + (ar X Y x y p) * (ar X Y w x n) := bary (aff_ar X Y w x) x y n p
      rw [ar_xyx X Y y w, Int.mul_zero, ← ar_c X Y x y w] at b2
      rw [ar_yxx X Y w x, Int.mul_zero, ar_c X Y w x y] at b3
      have j1 := zpp k2 (Int.le_of_lt A)
      have j2 := zpp k1 i2
      have j3 := zpp k3 (Int.le_of_lt A)
      have j4 := zpp k1 i3
      have hpw : p = w := Decidable.byContradiction fun k => em p (by omega) px py k ⟨k1, cnn hn (by omega), cnn hn (by omega)⟩
      rw [hpw] at k2 k3
      have z2 : (ar X Y y w n) = 0 := by have := ar_t X Y y w n; omega
      have z3 : (ar X Y w x n) = 0 := by have := ar_c X Y n x w; have := ar_s X Y x w n; omega
      have e4 := ar4 X Y x y w n
      have bx := bary (aff_x X Y) x y w n
      have by' := bary (aff_y X Y) x y w n
      rw [z2, z3, Int.zero_mul, Int.zero_mul, Int.zero_add, Int.zero_add, show (ar X Y x y n) = (ar X Y x y w) by omega] at bx by'
      have hwn := (m1 y w yw).2.1
      have := hD n w (by omega) (by omega) (Int.eq_of_mul_eq_mul_left (by omega) bx) (Int.eq_of_mul_eq_mul_left (by omega) by')
      omega
    · have hall : ∀ p, p < n → (ar X Y x y p) ≤ 0 := fun p hp => Decidable.byContradiction fun k => hex ⟨p, hp, by omega⟩
      have v := vs_out hD hM' hxn (ar_xyx X Y x y) hall hn ⟨x, Or.inl rfl, hxn⟩
      refine ⟨Or.inl ⟨hxy, non⟩, Or.inr (Or.inr ⟨rfl, v y (Or.inr rfl) hyn⟩), Or.inr (Or.inl ⟨rfl, v x (Or.inl rfl) hxn⟩), hn, ?_⟩
      intro p hp px py pn ⟨k1, k2, k3⟩
      have hp' : p < n := by omega
      have z : (ar X Y x y p) = 0 := by have := hall p hp'; omega
      have e4 := ar4 X Y x y n p
      refine m2 x y hxy p hp' px py (oS_of (aff_ar X Y n x) z ?_ ?_ ?_)
      · show (ar X Y n x x) ≤ (ar X Y n x p); rw [ar_yxx]; exact k3
      · show (ar X Y n x p) ≤ (ar X Y n x y); rw [ar_c X Y n x y]; omega
      · show (ar X Y n x x) < (ar X Y n x y); rw [ar_yxx, ar_c X Y n x y]; exact hn
