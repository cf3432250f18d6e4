/-! M3: the plane in signs of areas -/
theorem mpp {a b : Int} (h : 0 < a) (g : 0 < b) : 0 < a * b := Int.mul_pos h g
theorem mpn {a b : Int} (h : 0 < a) (g : b < 0) : a * b < 0 := Int.mul_neg_of_pos_of_neg h g
theorem mnp {a b : Int} (h : a < 0) (g : 0 < b) : a * b < 0 := Int.mul_neg_of_neg_of_pos h g
theorem mNN {a b : Int} (h : a < 0) (g : b < 0) : 0 < a * b := Int.mul_pos_of_neg_of_neg h g
theorem zpp {a b : Int} (h : 0 ≤ a) (g : 0 ≤ b) : 0 ≤ a * b := Int.mul_nonneg h g
theorem zpn {a b : Int} (h : 0 ≤ a) (g : b ≤ 0) : a * b ≤ 0 := Int.mul_nonpos_of_nonneg_of_nonpos h g
theorem znp {a b : Int} (h : a ≤ 0) (g : 0 ≤ b) : a * b ≤ 0 := Int.mul_nonpos_of_nonpos_of_nonneg h g
theorem znn {a b : Int} (h : a ≤ 0) (g : b ≤ 0) : 0 ≤ a * b := Int.mul_nonneg_of_nonpos_of_nonpos h g
theorem cpos {a b : Int} (h : 0 < a) (g : 0 < a * b) : 0 < b := Decidable.byContradiction fun k => by
  have := zpn (Int.le_of_lt h) (show b ≤ 0 by omega)
  omega
theorem cneg {a b : Int} (h : 0 < a) (g : a * b < 0) : b < 0 := Decidable.byContradiction fun k => by
  have := zpp (Int.le_of_lt h) (show 0 ≤ b by omega)
  omega
theorem cnn {a b : Int} (h : 0 < a) (g : 0 ≤ a * b) : 0 ≤ b := Decidable.byContradiction fun k => by
  have := mpn h (show b < 0 by omega)
  omega
theorem cnp {a b : Int} (h : 0 < a) (g : a * b ≤ 0) : b ≤ 0 := Decidable.byContradiction fun k => by
  have := mpp h (show 0 < b by omega)
  omega
theorem czz {a b : Int} (h : 0 < a) (g : a * b = 0) : b = 0 := by
  have h1 := cnn h (show 0 ≤ a * b by omega)
  have h2 := cnp h (show a * b ≤ 0 by omega)
  omega
theorem ar_c (X Y : Nat → Int) (a b c : Nat) : (ar X Y a b c) = (ar X Y b c a) := by unfold ar; grind
theorem ar_s (X Y : Nat → Int) (a b c : Nat) : (ar X Y a b c) = -(ar X Y b a c) := by unfold ar; grind
theorem ar_t (X Y : Nat → Int) (a b c : Nat) : (ar X Y a b c) = -(ar X Y a c b) := by unfold ar; grind
theorem ar_o (X Y : Nat → Int) (a b c : Nat) : (ar X Y a b c) = -(ar X Y c b a) := by unfold ar; grind
theorem ar_xx (X Y : Nat → Int) (a b : Nat) : (ar X Y a a b) = 0 := by unfold ar; grind
theorem ar_xyx (X Y : Nat → Int) (a b : Nat) : (ar X Y a b a) = 0 := by unfold ar; grind
theorem ar_yxx (X Y : Nat → Int) (a b : Nat) : (ar X Y a b b) = 0 := by unfold ar; grind
theorem ar4 (X Y : Nat → Int) (a b c d : Nat) : (ar X Y a b c) = (ar X Y a b d) + (ar X Y b c d) + (ar X Y c a d) := by unfold ar; grind
/-- an affine function of the plane, at the points -/
def Aff (X Y : Nat → Int) (f : Nat → Int) : Prop := ∃ u v w : Int, ∀ x, f x = u * X x + v * Y x + w
theorem aff_ar (X Y : Nat → Int) (a b : Nat) : Aff X Y (fun x => (ar X Y a b x)) := ⟨-(Y b - Y a), X b - X a, (Y b - Y a) * X a - (X b - X a) * Y a, fun x => by unfold ar; grind⟩
theorem aff_c (X Y : Nat → Int) {f : Nat → Int} (hf : Aff X Y f) (c : Int) : Aff X Y (fun x => f x - c) := by
  obtain ⟨u, v, w, h⟩ := hf
  exact ⟨u, v, w - c, fun x => by show f x - c = _; rw [h]; omega⟩
/-- where two lines cross -/
theorem CR {X Y f : Nat → Int} (hf : Aff X Y f) (a d p q : Nat) : (ar X Y a d p) * f q - (ar X Y a d q) * f p = (ar X Y p q d) * f a - (ar X Y p q a) * f d := by
  obtain ⟨u, v, w, h⟩ := hf
  rw [h, h, h, h]; unfold ar; grind
theorem bary {X Y f : Nat → Int} (hf : Aff X Y f) (p q r x : Nat) : (ar X Y p q r) * f x = (ar X Y q r x) * f p + (ar X Y r p x) * f q + (ar X Y p q x) * f r := by
  obtain ⟨u, v, w, h⟩ := hf
  rw [h, h, h, h]; unfold ar; grind
theorem T3 {X Y f : Nat → Int} (hf : Aff X Y f) {a : Nat} (h0 : f a = 0) (u v w : Nat) : f u * (ar X Y a v w) + f v * (ar X Y a w u) + f w * (ar X Y a u v) = 0 := by
  have h := bary hf u v w a
  rw [h0] at h
  have e1 := ar_c X Y a v w
  have e2 := ar_c X Y a w u
  have e3 := ar_c X Y a u v
  rw [e1, e2, e3]
  grind
/-- two affine functions, zero at a: how they stand on p and q -/
theorem TT {X Y : Nat → Int} (a b c p q : Nat) : (ar X Y a b p) * (ar X Y c a q) - (ar X Y a b q) * (ar X Y c a p) = -((ar X Y a b c) * (ar X Y p q a)) := by unfold ar; grind
def dt (X Y : Nat → Int) (p a b : Nat) : Int := (X a - X p) * (X b - X p) + (Y a - Y p) * (Y b - Y p)
/-- p lies on the segment from a to b -/
def oS (X Y : Nat → Int) (a b p : Nat) : Prop := (ar X Y a b p) = 0 ∧ dt X Y p a b ≤ 0
def nq (X Y : Nat → Int) (a b : Nat) : Prop := ¬ (X a = X b ∧ Y a = Y b)
theorem sqn (a : Int) : 0 ≤ a * a := by
  rcases Int.le_total 0 a with h | h
  · exact zpp h h
  · exact znn h h
theorem sqp {a : Int} (h : a ≠ 0) : 0 < a * a := by
  rcases Int.lt_or_gt_of_ne h with h | h
  · exact mNN h h
  · exact mpp h h
theorem sq_pos {X Y : Nat → Int} {a b : Nat} (h : nq X Y a b) : 0 < sq X Y a b := by
  unfold sq
  unfold nq at h
  have h1 := sqn (X b - X a)
  have h2 := sqn (Y b - Y a)
  by_cases hx : X b - X a = 0
  · have := sqp (show Y b - Y a ≠ 0 from fun hy => h ⟨by omega, by omega⟩)
    omega
  · have := sqp hx
    omega
/-- the weights of p on the line through a and b -/
def wa (X Y : Nat → Int) (a b p : Nat) : Int := (X b - X p) * (X b - X a) + (Y b - Y p) * (Y b - Y a)
def wb (X Y : Nat → Int) (a b p : Nat) : Int := (X p - X a) * (X b - X a) + (Y p - Y a) * (Y b - Y a)
theorem w_sum (X Y : Nat → Int) (a b p : Nat) : wa X Y a b p + wb X Y a b p = sq X Y a b := by unfold wa wb sq; grind
theorem w_aff {X Y f : Nat → Int} (hf : Aff X Y f) {a b p : Nat} (h : (ar X Y a b p) = 0) : sq X Y a b * f p = wa X Y a b p * f a + wb X Y a b p * f b := by
  obtain ⟨u, v, w, e⟩ := hf
  have : sq X Y a b * f p - (wa X Y a b p * f a + wb X Y a b p * f b) = (ar X Y a b p) * (v * (X b - X a) - u * (Y b - Y a)) := by
    rw [e, e, e]; unfold sq wa wb ar; grind
  rw [h, Int.zero_mul] at this
  omega
theorem w_dt (X Y : Nat → Int) (a b p : Nat) : sq X Y a b * dt X Y p a b = (ar X Y a b p) * (ar X Y a b p) - wa X Y a b p * wb X Y a b p := by unfold sq dt ar wa wb; grind
theorem oS_w {X Y : Nat → Int} {a b p : Nat} (h : oS X Y a b p) : 0 ≤ wa X Y a b p ∧ 0 ≤ wb X Y a b p := by
  have e1 : wb X Y a b p = sq X Y a p - dt X Y p a b := by unfold wb sq dt; grind
  have e2 : wa X Y a b p = sq X Y p b - dt X Y p a b := by unfold wa sq dt; grind
  have s1 : 0 ≤ sq X Y a p := by unfold sq; have := sqn (X p - X a); have := sqn (Y p - Y a); omega
  have s2 : 0 ≤ sq X Y p b := by unfold sq; have := sqn (X b - X p); have := sqn (Y b - Y p); omega
  have := h.2
  omega
theorem aff_x (X Y : Nat → Int) : Aff X Y X := ⟨1, 0, 0, fun x => by omega⟩
theorem aff_y (X Y : Nat → Int) : Aff X Y Y := ⟨0, 1, 0, fun x => by omega⟩
/-- a point on a segment, at neither end: weights above zero -/
theorem oS_ws {X Y : Nat → Int} {a b p : Nat} (h : oS X Y a b p) (hab : nq X Y a b) (ha : nq X Y a p) (hb : nq X Y b p) : 0 < wa X Y a b p ∧ 0 < wb X Y a b p := by
  have hs := sq_pos hab
  have hw := oS_w h
  have e := w_sum X Y a b p
  have ex := w_aff (aff_x X Y) h.1
  have ey := w_aff (aff_y X Y) h.1
  constructor
  · refine Decidable.byContradiction fun k => hb ?_
    have z : wa X Y a b p = 0 := by omega
    rw [z] at e ex ey
    rw [Int.zero_mul, Int.zero_add] at ex ey
    rw [Int.zero_add] at e
    rw [e] at ex ey
    exact ⟨(Int.eq_of_mul_eq_mul_left (by omega) ex).symm, (Int.eq_of_mul_eq_mul_left (by omega) ey).symm⟩
  · refine Decidable.byContradiction fun k => ha ?_
    have z : wb X Y a b p = 0 := by omega
    rw [z] at e ex ey
    rw [Int.zero_mul, Int.add_zero] at ex ey
    rw [Int.add_zero] at e
    rw [e] at ex ey
    exact ⟨(Int.eq_of_mul_eq_mul_left (by omega) ex).symm, (Int.eq_of_mul_eq_mul_left (by omega) ey).symm⟩
theorem oS_of {X Y f : Nat → Int} (hf : Aff X Y f) {a b p : Nat} (h : (ar X Y a b p) = 0) (h1 : f a ≤ f p) (h2 : f p ≤ f b) (h3 : f a < f b) : oS X Y a b p := by
  have hs : 0 < sq X Y a b := sq_pos (fun q => by
    obtain ⟨u, v, w, e⟩ := hf
    rw [e, e b, q.1, q.2] at h3
    omega)
  have e := w_aff hf h
  have ws := w_sum X Y a b p
  have g1 : sq X Y a b * (f p - f a) = wb X Y a b p * (f b - f a) := by rw [← ws] at e ⊢; grind
  have g2 : sq X Y a b * (f b - f p) = wa X Y a b p * (f b - f a) := by rw [← ws] at e ⊢; grind
  have k1 : 0 ≤ wb X Y a b p := cnn (show 0 < f b - f a by omega) (by
    have := zpp (Int.le_of_lt hs) (show 0 ≤ f p - f a by omega)
    rw [Int.mul_comm]; omega)
  have k2 : 0 ≤ wa X Y a b p := cnn (show 0 < f b - f a by omega) (by
    have := zpp (Int.le_of_lt hs) (show 0 ≤ f b - f p by omega)
    rw [Int.mul_comm]; omega)
  refine ⟨h, cnp hs ?_⟩
  rw [w_dt, h]
  have := zpp k2 k1
  omega
def crs (X Y : Nat → Int) (a b c d : Nat) : Prop := (ar X Y a b c) * (ar X Y a b d) < 0 ∧ (ar X Y c d a) * (ar X Y c d b) < 0
theorem crs_sym {X Y : Nat → Int} {a b c d : Nat} (h : crs X Y a b c d) : crs X Y c d a b := ⟨h.2, h.1⟩
theorem crs_s {X Y : Nat → Int} {a b c d : Nat} (h : crs X Y a b c d) : crs X Y b a c d := by
  unfold crs at h ⊢
  rw [ar_s X Y b a c, ar_s X Y b a d, Int.neg_mul_neg, Int.mul_comm (ar X Y c d b)]
  exact h
theorem crs_t {X Y : Nat → Int} {a b c d : Nat} (h : crs X Y a b c d) : crs X Y a b d c := crs_sym (crs_s (crs_sym h))
theorem neg_cases {x y : Int} (h : x * y < 0) : (0 < x ∧ y < 0) ∨ (x < 0 ∧ 0 < y) := by
  rcases Int.lt_trichotomy x 0 with h1 | h1 | h1
  · exact Or.inr ⟨h1, Decidable.byContradiction fun k => by have := znn (Int.le_of_lt h1) (show y ≤ 0 by omega); omega⟩
  · rw [h1, Int.zero_mul] at h; omega
  · exact Or.inl ⟨h1, Decidable.byContradiction fun k => by have := zpp (Int.le_of_lt h1) (show 0 ≤ y by omega); omega⟩
/-- crossing, with its signs: p right of a to b, q left -/
def cx (X Y : Nat → Int) (a b p q : Nat) : Prop := (ar X Y a b p) < 0 ∧ 0 < (ar X Y a b q) ∧ 0 < (ar X Y p q a) ∧ (ar X Y p q b) < 0
theorem cx_crs {X Y : Nat → Int} {a b p q : Nat} (h : cx X Y a b p q) : crs X Y a b p q := ⟨mnp h.1 h.2.1, mpn h.2.2.1 h.2.2.2⟩
theorem cx_of {X Y : Nat → Int} {a b p q : Nat} (h : crs X Y a b p q) : cx X Y a b p q ∨ cx X Y a b q p := by
  have e := ar4 X Y a b q p
  have e1 := ar_c X Y p q a
  have e2 := ar_c X Y p q b
  have e3 := ar_c X Y p b q
  have e4 := ar_o X Y p q b
  have e5 := ar_o X Y p q a
  have e6 := ar_c X Y b q p
  have e7 := ar_c X Y q p b
  have e8 := ar_c X Y q p a
  have e9 := ar_s X Y q p a
  have e10 := ar_s X Y q p b
  have e11 := ar_c X Y q a p
  have e12 := ar_c X Y a p q
  unfold cx
  rcases neg_cases h.1 with ⟨h1, h2⟩ | ⟨h1, h2⟩
  · right
    rcases neg_cases h.2 with ⟨h3, h4⟩ | ⟨h3, h4⟩ <;> omega
  · left
    rcases neg_cases h.2 with ⟨h3, h4⟩ | ⟨h3, h4⟩ <;> omega
theorem cx_sym {X Y : Nat → Int} {a b p q : Nat} (h : cx X Y a b p q) : cx X Y p q b a := ⟨h.2.2.2, h.2.2.1, by have := ar_s X Y b a p; have := h.1; omega, by have := ar_s X Y b a q; have := h.2.1; omega⟩
theorem cx_rev {X Y : Nat → Int} {a b p q : Nat} (h : cx X Y a b p q) : cx X Y b a q p := cx_sym (cx_sym h) |> fun k => by
  unfold cx at h ⊢
  have := ar_s X Y b a p
  have := ar_s X Y b a q
  have := ar_s X Y q p a
  have := ar_s X Y q p b
  omega
/-- a segment that has p and q on two sides of a, b, a and b weakly on two sides of p, q, and goes through neither -/
theorem side_cx {X Y : Nat → Int} {a b p q : Nat} (h1 : (ar X Y a b p) < 0) (h2 : 0 < (ar X Y a b q)) (h3 : 0 ≤ (ar X Y p q a)) (h4 : (ar X Y p q b) ≤ 0) (ha : ¬ oS X Y p q a) (hb : ¬ oS X Y p q b) : cx X Y a b p q := by
  refine ⟨h1, h2, ?_, ?_⟩
  · refine Decidable.byContradiction fun k => ha (oS_of (aff_ar X Y a b) (show _ = 0 by omega) ?_ ?_ ?_)
    · show (ar X Y a b p) ≤ (ar X Y a b a); rw [ar_xyx]; omega
    · show (ar X Y a b a) ≤ (ar X Y a b q); rw [ar_xyx]; omega
    · show (ar X Y a b p) < (ar X Y a b q); omega
  · refine Decidable.byContradiction fun k => hb (oS_of (aff_ar X Y a b) (show _ = 0 by omega) ?_ ?_ ?_)
    · show (ar X Y a b p) ≤ (ar X Y a b b); rw [ar_yxx]; omega
    · show (ar X Y a b b) ≤ (ar X Y a b q); rw [ar_yxx]; omega
    · show (ar X Y a b p) < (ar X Y a b q); omega
