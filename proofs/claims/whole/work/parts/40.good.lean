/-! M3: GOOD is a matter of heights -/
theorem inc_GH (X Y : Nat → Int) (a b c d : Nat) : inc X Y a b c d = GH X Y (fun i => X i * X i + Y i * Y i) a b c d := by unfold inc GH sq ar; grind
theorem inc_bary (X Y : Nat → Int) (a b c d : Nat) : (ar X Y a b c) * inc X Y a b c d = (ar X Y b c d) * (ar X Y c a d) * sq X Y a b + (ar X Y c a d) * (ar X Y a b d) * sq X Y b c + (ar X Y a b d) * (ar X Y b c d) * sq X Y c a := by
  have key : ∀ ax ay bx by' cx' cy : Int, (let ar' : Int → Int → Int → Int → Int := fun p q r s => p * s - q * r
      (ar' ax ay bx by' + ar' bx by' cx' cy + ar' cx' cy ax ay) * ((ax * ax + ay * ay) * ar' bx by' cx' cy + (bx * bx + by' * by') * ar' cx' cy ax ay + (cx' * cx' + cy * cy) * ar' ax ay bx by') = ar' bx by' cx' cy * ar' cx' cy ax ay * ((bx - ax) * (bx - ax) + (by' - ay) * (by' - ay)) + ar' cx' cy ax ay * ar' ax ay bx by' * ((cx' - bx) * (cx' - bx) + (cy - by') * (cy - by')) + ar' ax ay bx by' * ar' bx by' cx' cy * ((ax - cx') * (ax - cx') + (ay - cy) * (ay - cy))) := by
    intro ax ay bx by' cx' cy
    grind
  have k := key (X a - X d) (Y a - Y d) (X b - X d) (Y b - Y d) (X c - X d) (Y c - Y d)
  have e1 : (ar X Y a b d) = (X a - X d) * (Y b - Y d) - (Y a - Y d) * (X b - X d) := by unfold ar; grind
  have e2 : (ar X Y b c d) = (X b - X d) * (Y c - Y d) - (Y b - Y d) * (X c - X d) := by unfold ar; grind
  have e3 : (ar X Y c a d) = (X c - X d) * (Y a - Y d) - (Y c - Y d) * (X a - X d) := by unfold ar; grind
  have e4 := ar4 X Y a b c d
  have s1 : sq X Y a b = (X b - X d - (X a - X d)) * (X b - X d - (X a - X d)) + (Y b - Y d - (Y a - Y d)) * (Y b - Y d - (Y a - Y d)) := by unfold sq; grind
  have s2 : sq X Y b c = (X c - X d - (X b - X d)) * (X c - X d - (X b - X d)) + (Y c - Y d - (Y b - Y d)) * (Y c - Y d - (Y b - Y d)) := by unfold sq; grind
  have s3 : sq X Y c a = (X a - X d - (X c - X d)) * (X a - X d - (X c - X d)) + (Y a - Y d - (Y c - Y d)) * (Y a - Y d - (Y c - Y d)) := by unfold sq; grind
  have i1 : inc X Y a b c d = ((X a - X d) * (X a - X d) + (Y a - Y d) * (Y a - Y d)) * ((X b - X d) * (Y c - Y d) - (Y b - Y d) * (X c - X d)) + ((X b - X d) * (X b - X d) + (Y b - Y d) * (Y b - Y d)) * ((X c - X d) * (Y a - Y d) - (Y c - Y d) * (X a - X d)) + ((X c - X d) * (X c - X d) + (Y c - Y d) * (Y c - Y d)) * ((X a - X d) * (Y b - Y d) - (Y a - Y d) * (X b - X d)) := rfl
  rw [e4, e1, e2, e3, s1, s2, s3, i1]
  exact k
theorem cvx_core {A I p r S1 S2 S3 : Int} (hA : 0 < A) (hp : 0 ≤ p) (hr : 0 < r) (h1 : 0 ≤ S1) (h2 : 0 < S2) (h3 : 0 ≤ (p + r) * (p * S1 + r * S2) - p * r * S3) (hI : A * I = -p * (A + p + r) * S1 + (A + p + r) * -r * S2 + p * r * S3) : I < 0 := by
  have e : A * I = -(A * (p * S1 + r * S2)) - ((p + r) * (p * S1 + r * S2) - p * r * S3) := by rw [hI]; grind
  have k1 := zpp hp h1
  have k2 := mpp hr h2
  have k3 := mpp hA (show 0 < p * S1 + r * S2 by omega)
  exact cneg hA (by omega)
theorem sq_nn (X Y : Nat → Int) (a b : Nat) : 0 ≤ sq X Y a b := by
  unfold sq
  have h1 := sqn (X b - X a)
  have h2 := sqn (Y b - Y a)
  omega
theorem cvx_sos (X Y : Nat → Int) (a b c : Nat) (p r : Int) : 0 ≤ (p + r) * (p * sq X Y a b + r * sq X Y b c) - p * r * sq X Y c a := by
  have e : (p + r) * (p * sq X Y a b + r * sq X Y b c) - p * r * sq X Y c a = (p * (X a - X b) + r * (X c - X b)) * (p * (X a - X b) + r * (X c - X b)) + (p * (Y a - Y b) + r * (Y c - Y b)) * (p * (Y a - Y b) + r * (Y c - Y b)) := by unfold sq; grind
  rw [e]
  have h1 := sqn (p * (X a - X b) + r * (X c - X b))
  have h2 := sqn (p * (Y a - Y b) + r * (Y c - Y b))
  omega
theorem sq_sym (X Y : Nat → Int) (a b : Nat) : sq X Y a b = sq X Y b a := by unfold sq; grind
theorem nq_of_ar {X Y : Nat → Int} {a b c : Nat} (h : 0 < (ar X Y a b c)) : nq X Y b c ∧ nq X Y c a := by
  constructor
  · intro k
    have : (ar X Y a b c) = 0 := by unfold ar; rw [k.1, k.2]; grind
    omega
  · intro k
    have : (ar X Y a b c) = 0 := by unfold ar; rw [k.1, k.2]; grind
    omega
/-- where the circle test does not say outside, the two triangles make a strictly convex quadrangle -/
theorem cvx {X Y : Nat → Int} {a b c d : Nat} (hA : 0 < (ar X Y a b c)) (hB : 0 < (ar X Y b a d)) (hI : 0 ≤ inc X Y a b c d) : 0 < (ar X Y d b c) ∧ 0 < (ar X Y a d c) := by
  have hb := inc_bary X Y a b c d
  have e4 := ar4 X Y a b c d
  have g := ar_s X Y b a d
  have q := nq_of_ar hA
  constructor
  · rw [ar_c X Y d b c]
    refine Decidable.byContradiction fun k => ?_
    have := cvx_core (A := (ar X Y a b c)) (I := inc X Y a b c d) (p := -(ar X Y b c d)) (r := -(ar X Y a b d)) hA (by omega) (by omega) (sq_nn X Y a b) (sq_pos q.1) (cvx_sos X Y a b c _ _) (by
      rw [hb, show (ar X Y a b c) + -(ar X Y b c d) + -(ar X Y a b d) = (ar X Y c a d) by omega]; grind)
    omega
  · rw [← ar_c X Y c a d]
    refine Decidable.byContradiction fun k => ?_
    have := cvx_core (A := (ar X Y a b c)) (I := inc X Y a b c d) (p := -(ar X Y c a d)) (r := -(ar X Y a b d)) (S3 := sq X Y c b) hA (by omega) (by omega) (sq_nn X Y b a) (sq_pos (a := a) (b := c) (fun k => q.2 ⟨k.1.symm, k.2.symm⟩)) (cvx_sos X Y b a c _ _) (by
      rw [hb, show (ar X Y a b c) + -(ar X Y c a d) + -(ar X Y a b d) = (ar X Y b c d) by omega, sq_sym X Y b a, sq_sym X Y c b, sq_sym X Y a c]; grind)
    omega
/-- every coordinate is within the bounds -/
def Bd (X Y : Nat → Int) (n : Nat) : Prop := ∀ i, i < n → (X i).natAbs ≤ 536870911 ∧ (Y i).natAbs ≤ 536870911
theorem ar_bd {X Y : Nat → Int} {n a b c : Nat} (h : Bd X Y n) (ha : a < n) (hb : b < n) (hc : c < n) : -2305843009213693952 ≤ (ar X Y a b c) ∧ (ar X Y a b c) ≤ 2305843009213693952 := by
  obtain ⟨a1, a2⟩ := h a ha
  obtain ⟨b1, b2⟩ := h b hb
  obtain ⟨c1, c2⟩ := h c hc
  have k1 := mul_bd (a := X b - X a) (b := Y c - Y a) (A := 1073741822) (B := 1073741822) (by omega) (by omega)
  have k2 := mul_bd (a := Y b - Y a) (b := X c - X a) (A := 1073741822) (B := 1073741822) (by omega) (by omega)
  unfold ar
  omega
def wW : Int := ((18446744073709551616 ^ 40 : Nat) : Int)
def wg (i : Nat) : Int := ((18446744073709551616 ^ (40 - i) : Nat) : Int)
theorem wg_pos (i : Nat) : 0 < wg i := by
  unfold wg
  have := Nat.pow_pos (n := 40 - i) (show 0 < 18446744073709551616 by decide)
  omega
theorem wg_le (i : Nat) : wg i ≤ wW := by
  unfold wg wW
  have := Nat.pow_le_pow_right (show 18446744073709551616 > 0 by decide) (show 40 - i ≤ 40 by omega)
  exact Int.ofNat_le.mpr this
theorem wg_lt {i j : Nat} (h : i < j) (hj : j ≤ 40) : 18446744073709551616 * wg j ≤ wg i := by
  unfold wg
  have := Nat.pow_le_pow_right (show 18446744073709551616 > 0 by decide) (show 40 - j + 1 ≤ 40 - i by omega)
  rw [Nat.pow_succ] at this
  generalize 18446744073709551616 ^ (40 - j) = z at this ⊢
  generalize 18446744073709551616 ^ (40 - i) = u at this ⊢
  omega
/-- the heights -/
def Ht (X Y : Nat → Int) (i : Nat) : Int := 340282366920938463463374607431768211456 * wW * (X i * X i + Y i * Y i) - wg i
theorem Ht_GH (X Y : Nat → Int) (a b c d : Nat) : GH X Y (Ht X Y) a b c d = 340282366920938463463374607431768211456 * wW * inc X Y a b c d - GH X Y wg a b c d := by
  rw [inc_GH]
  unfold GH Ht
  generalize 340282366920938463463374607431768211456 * wW = M
  grind
theorem wmul {w z W : Int} (h1 : -W ≤ w) (h2 : w ≤ W) (h3 : -2305843009213693952 ≤ z) (h4 : z ≤ 2305843009213693952) : -(2305843009213693952 * W) ≤ w * z ∧ w * z ≤ 2305843009213693952 * W := by
  have a := zpp (show 0 ≤ W - w by omega) (show 0 ≤ 2305843009213693952 + z by omega)
  have b := zpp (show 0 ≤ W + w by omega) (show 0 ≤ 2305843009213693952 - z by omega)
  have c := zpp (show 0 ≤ W - w by omega) (show 0 ≤ 2305843009213693952 - z by omega)
  have d := zpp (show 0 ≤ W + w by omega) (show 0 ≤ 2305843009213693952 + z by omega)
  have ea : (W - w) * (2305843009213693952 + z) = 2305843009213693952 * W + W * z - 2305843009213693952 * w - w * z := by grind
  have eb : (W + w) * (2305843009213693952 - z) = 2305843009213693952 * W - W * z + 2305843009213693952 * w - w * z := by grind
  have ec : (W - w) * (2305843009213693952 - z) = 2305843009213693952 * W - W * z - 2305843009213693952 * w + w * z := by grind
  have ed : (W + w) * (2305843009213693952 + z) = 2305843009213693952 * W + W * z + 2305843009213693952 * w + w * z := by grind
  omega
theorem wg_GH {X Y : Nat → Int} {n a b c d : Nat} (h : Bd X Y n) (ha : a < n) (hb : b < n) (hc : c < n) (hd : d < n) : -(6917529027641081856 * wW) ≤ GH X Y wg a b c d ∧ GH X Y wg a b c d ≤ 6917529027641081856 * wW := by
  unfold GH
  have w := wg_pos
  have l := wg_le
  have wa' := w a; have wb' := w b; have wc' := w c; have wd' := w d
  have la := l a; have lb := l b; have lc := l c; have ld := l d
  have k1 := ar_bd h hd hb hc
  have k2 := ar_bd h hd hc ha
  have k3 := ar_bd h hd ha hb
  have m1 := wmul (w := wg a - wg d) (W := wW) (by omega) (by omega) k1.1 k1.2
  have m2 := wmul (w := wg b - wg d) (W := wW) (by omega) (by omega) k2.1 k2.2
  have m3 := wmul (w := wg c - wg d) (W := wW) (by omega) (by omega) k3.1 k3.2
  omega
theorem wg_tie {x y u v p q r s : Int} (hx : 18446744073709551616 * u ≤ x) (hy : 18446744073709551616 * v ≤ x) (x0 : 0 < x) (y0 : 0 < y) (u0 : 0 < u) (v0 : 0 < v) (p1 : 0 < p) (q1 : 0 < q) (r1 : r ≤ 2305843009213693952) (s1 : s ≤ 2305843009213693952) : u * r + v * s < x * p + y * q := by
  have k1 := mpp y0 q1
  have k2 := zpp (Int.le_of_lt x0) (show 0 ≤ p - 1 by omega)
  have k3 := zpp (Int.le_of_lt u0) (show 0 ≤ 2305843009213693952 - r by omega)
  have k4 := zpp (Int.le_of_lt v0) (show 0 ≤ 2305843009213693952 - s by omega)
  rw [Int.mul_sub] at k2 k3 k4
  omega
def gd (X Y : Nat → Int) (a b c d : Nat) : Prop := inc X Y a b c d < 0 ∨ (inc X Y a b c d = 0 ∧ min a b < min c d)
theorem gd_iff {X Y : Nat → Int} {n a b c d : Nat} (h : Bd X Y n) (hn : n ≤ 40) (ha : a < n) (hb : b < n) (hc : c < n) (hd : d < n) (hA : 0 < (ar X Y a b c)) (hB : 0 < (ar X Y b a d)) :
    (gd X Y a b c d → GH X Y (Ht X Y) a b c d < 0) ∧ (¬ gd X Y a b c d → 0 < GH X Y (Ht X Y) a b c d ∧ 0 < (ar X Y d b c) ∧ 0 < (ar X Y a d c)) := by
  have hw := wg_GH h ha hb hc hd
  have e := Ht_GH X Y a b c d
  have w0 : 0 < wW := Int.lt_of_lt_of_le (wg_pos 0) (wg_le 0)
  have nac : a ≠ c := fun q => by rw [q, ar_xyx] at hA; omega
  have nbc : b ≠ c := fun q => by rw [q, ar_yxx] at hA; omega
  have nad : a ≠ d := fun q => by rw [q, ar_yxx] at hB; omega
  have nbd : b ≠ d := fun q => by rw [q, ar_xyx] at hB; omega
  have tie : inc X Y a b c d = 0 → (min a b < min c d → GH X Y (Ht X Y) a b c d < 0) ∧ (¬ min a b < min c d → 0 < GH X Y (Ht X Y) a b c d) := by
    intro z
    obtain ⟨c1, c2⟩ := cvx hA hB (show 0 ≤ inc X Y a b c d by omega)
    rw [z, Int.mul_zero] at e
    have eg : GH X Y wg a b c d = wg a * (ar X Y d b c) + wg b * (ar X Y a d c) - (wg c * (ar X Y b a d) + wg d * (ar X Y a b c)) := by
      unfold GH
      have e4 := ar4 X Y a b c d
      have e5 := ar_c X Y d b c
      have e6 := ar_c X Y c a d
      have e7 := ar_c X Y d c a
      have e8 := ar_c X Y d a b
      have e9 := ar_s X Y b a d
      rw [e7, e8, e9, e5, ← e6, e4]
      grind
    have wa' := wg_pos a; have wb' := wg_pos b; have wc' := wg_pos c; have wd' := wg_pos d
    have k1 := ar_bd h hd hb hc
    have k2 := ar_bd h ha hd hc
    have k3 := ar_bd h hb ha hd
    have k4 := ar_bd h ha hb hc
    constructor
    · intro hm
      by_cases q : a ≤ b
      · have := wg_tie (wg_lt (show a < c by omega) (by omega)) (wg_lt (show a < d by omega) (by omega)) wa' wb' wc' wd' c1 c2 k3.2 k4.2
        omega
      · have := wg_tie (wg_lt (show b < c by omega) (by omega)) (wg_lt (show b < d by omega) (by omega)) wb' wa' wc' wd' c2 c1 k3.2 k4.2
        omega
    · intro hm
      by_cases q : c ≤ d
      · have := wg_tie (wg_lt (show c < a by omega) (by omega)) (wg_lt (show c < b by omega) (by omega)) wc' wd' wa' wb' hB hA k1.2 k2.2
        omega
      · have := wg_tie (wg_lt (show d < a by omega) (by omega)) (wg_lt (show d < b by omega) (by omega)) wd' wc' wa' wb' hA hB k1.2 k2.2
        omega
  constructor
  · rintro (hi | ⟨hi, hm⟩)
    · have k := zpp (show 0 ≤ 340282366920938463463374607431768211456 * wW by omega) (show 0 ≤ -inc X Y a b c d - 1 by omega)
      rw [Int.mul_sub, Int.mul_neg, Int.mul_one] at k
      omega
    · exact (tie hi).1 hm
  · intro hg
    have hi : 0 ≤ inc X Y a b c d := Decidable.byContradiction fun k => hg (Or.inl (by omega))
    refine ⟨?_, cvx hA hB hi⟩
    by_cases z : inc X Y a b c d = 0
    · exact (tie z).2 fun hm => hg (Or.inr ⟨z, hm⟩)
    · have k := zpp (show 0 ≤ 340282366920938463463374607431768211456 * wW by omega) (show 0 ≤ inc X Y a b c d - 1 by omega)
      rw [Int.mul_sub, Int.mul_one] at k
      omega
