/-! M3: who is around a new point -/
theorem inT_rot {X Y : Nat → Int} {a b c p : Nat} (h : inT X Y a b c p) : inT X Y b c a p := ⟨h.2.1, h.2.2, h.1⟩
/-- a point on a line with a segment, on neither segment nor behind one of its ends -/
theorem on_line {X Y : Nat → Int} {n a b x : Nat} {E : Nat → Nat → Prop} (hD : Dst X Y (n + 1)) (hM : Mx X Y n E) (hE : E a b) (hn : oS X Y a b n) (hx : x < n) (xa : x ≠ a) (xb : x ≠ b) (hv : vs X Y n E x) (z : (ar X Y a b x) = 0) : False := by
  obtain ⟨m1, m2, m3, m4⟩ := hM
  obtain ⟨ha, hb, nab, _⟩ := m1 a b hE
  have q1 := hD.nq (show a < n + 1 by omega) (show b < n + 1 by omega) nab
  obtain ⟨w1, w2⟩ := oS_ws hn q1 (hD.nq (show a < n + 1 by omega) (show n < n + 1 by omega) (by omega)) (hD.nq (show b < n + 1 by omega) (show n < n + 1 by omega) (by omega))
  have hs := sq_pos q1
  have ws := w_sum X Y a b n
  have ta : wb X Y a b a = 0 := by unfold wb; grind
  have tb : wb X Y a b b = sq X Y a b := by unfold wb sq; grind
  have ca : (ar X Y a b a) = 0 := ar_xyx X Y a b
  have cb : (ar X Y a b b) = 0 := ar_yxx X Y a b
  by_cases h1 : wb X Y a b x < 0
  · refine hv.2.1 a ha (by omega) (Ne.symm xa) (oS_sym (oS_of (aff_wb X Y a b) (col q1 z hn.1 ca) ?_ ?_ ?_))
    · show wb X Y a b x ≤ wb X Y a b a; omega
    · show wb X Y a b a ≤ wb X Y a b n; omega
    · show wb X Y a b x < wb X Y a b n; omega
  · by_cases h2 : sq X Y a b < wb X Y a b x
    · refine hv.2.1 b hb (by omega) (Ne.symm xb) (oS_of (aff_wb X Y a b) (col q1 hn.1 z cb) ?_ ?_ ?_)
      · show wb X Y a b n ≤ wb X Y a b b; omega
      · show wb X Y a b b ≤ wb X Y a b x; omega
      · show wb X Y a b n < wb X Y a b x; omega
    · refine m2 a b hE x hx xa xb (oS_of (aff_wb X Y a b) z ?_ ?_ ?_)
      · show wb X Y a b a ≤ wb X Y a b x; omega
      · show wb X Y a b x ≤ wb X Y a b b; omega
      · show wb X Y a b a < wb X Y a b b; omega
theorem side_on {X Y : Nat → Int} {a b c p : Nat} (A : 0 < (ar X Y a b c)) (h : inT X Y a b c p) (z : (ar X Y a b p) = 0) : oS X Y a b p := by
  have e4 := ar4 X Y a b c p
  refine oS_of (aff_ar X Y c a) z ?_ ?_ ?_
  · show (ar X Y c a a) ≤ (ar X Y c a p); rw [ar_yxx]; exact h.2.2
  · show (ar X Y c a p) ≤ (ar X Y c a b); rw [ar_c X Y c a b]; have := h.2.1; omega
  · show (ar X Y c a a) < (ar X Y c a b); rw [ar_yxx, ar_c X Y c a b]; exact A
/-- from a point in a triangle one sees its corners, and what lies beyond the edge that it is on -/
theorem nb_in {X Y : Nat → Int} {n a b c x : Nat} {E : Nat → Nat → Prop} (hD : Dst X Y (n + 1)) (hM : Mx X Y n E) (h : Tr X Y n E a b c) (hin : inT X Y a b c n) (hv : vs X Y n E x) (xa : x ≠ a) (xb : x ≠ b) (xc : x ≠ c) :
    ((ar X Y a b n) = 0 ∧ (ar X Y a b x) < 0) ∨ ((ar X Y b c n) = 0 ∧ (ar X Y b c x) < 0) ∨ ((ar X Y c a n) = 0 ∧ (ar X Y c a x) < 0) := by
  refine Decidable.byContradiction fun hno => ?_
  have hx := hv.1
  have ok : ∀ {u v w : Nat}, Tr X Y n E u v w → inT X Y u v w n → x ≠ u → x ≠ v → (ar X Y u v n) = 0 → ¬ (ar X Y u v x) < 0 → 0 < (ar X Y u v x) := by
    intro u v w hT hi xu xv z hl
    refine Decidable.byContradiction fun k => ?_
    exact on_line hD hM hT.1 (side_on hT.2.2.2.1 hi z) hx xu xv hv (by omega)
  have o1 : (ar X Y a b n) = 0 → 0 < (ar X Y a b x) := fun z => ok h hin xa xb z (fun k => hno (Or.inl ⟨z, k⟩))
  have o2 : (ar X Y b c n) = 0 → 0 < (ar X Y b c x) := fun z => ok h.rot (inT_rot hin) xb xc z (fun k => hno (Or.inr (Or.inl ⟨z, k⟩)))
  have o3 : (ar X Y c a n) = 0 → 0 < (ar X Y c a x) := fun z => ok h.rot.rot (inT_rot (inT_rot hin)) xc xa z (fun k => hno (Or.inr (Or.inr ⟨z, k⟩)))
  obtain ⟨ab, bc, ca, A, em⟩ := h
  obtain ⟨i1, i2, i3⟩ := hin
  have out := em x hx xa xb xc
  let B : Int := (((ar X Y a b x)).natAbs : Int) + (((ar X Y b c x)).natAbs : Int) + (((ar X Y c a x)).natAbs : Int) + 1
  have hB : 0 < B := by show 0 < (((ar X Y a b x)).natAbs : Int) + (((ar X Y b c x)).natAbs : Int) + (((ar X Y c a x)).natAbs : Int) + 1; omega
  have pos : ∀ {f g : Int}, 0 ≤ f → (f = 0 → 0 < g) → (g.natAbs : Int) < B → 0 < 1 * g + B * f := by
    intro f g hf h0 hg
    by_cases z : f = 0
    · have := h0 z
      rw [z, Int.mul_zero]; omega
    · have := Int.mul_le_mul_of_nonneg_left (show 1 ≤ f by omega) (Int.le_of_lt hB)
      omega
  have p1 := pos i1 o1 (by show _ < (((ar X Y a b x)).natAbs : Int) + (((ar X Y b c x)).natAbs : Int) + (((ar X Y c a x)).natAbs : Int) + 1; omega)
  have p2 := pos i2 o2 (by show _ < (((ar X Y a b x)).natAbs : Int) + (((ar X Y b c x)).natAbs : Int) + (((ar X Y c a x)).natAbs : Int) + 1; omega)
  have p3 := pos i3 o3 (by show _ < (((ar X Y a b x)).natAbs : Int) + (((ar X Y b c x)).natAbs : Int) + (((ar X Y c a x)).natAbs : Int) + 1; omega)
  have l := hM.1
  have on : ∀ v, v < n → v ≠ x → ¬ oS X Y x n v := fun v hvn hne hon => hv.2.1 v hvn (by omega) hne (oS_sym hon)
  rcases thru (p := x) (q := n) (α := 1) (β := B) A (by omega) hB p1 p2 p3 out (fun _ => on a (l a b ab).1 (Ne.symm xa)) (fun _ => on b (l a b ab).2.1 (Ne.symm xb)) (fun _ => on c (l c a ca).1 (Ne.symm xc)) with k | k | k
  · exact hv.2.2 a b ab (crs_s (crs_sym (cx_crs k)))
  · exact hv.2.2 b c bc (crs_s (crs_sym (cx_crs k)))
  · exact hv.2.2 c a ca (crs_s (crs_sym (cx_crs k)))
theorem ins_vs {X Y : Nat → Int} {n x y : Nat} {E : Nat → Nat → Prop} (hM : Mx X Y n E) (h : Tr X Y (n + 1) (insE X Y n E) x y n) : vs X Y n E x ∧ vs X Y n E y := by
  obtain ⟨m1, m2, m3, m4⟩ := hM
  have ne := h.ne
  constructor
  · rcases h.2.2.1 with ⟨h, _⟩ | ⟨_, h⟩ | ⟨h, _⟩
    · have := (m1 n x h).1; omega
    · exact h
    · exact absurd h.symm ne.2.2
  · rcases h.2.1 with ⟨h, _⟩ | ⟨h, _⟩ | ⟨_, h⟩
    · have := (m1 y n h).2.1; omega
    · exact absurd h ne.2.1
    · exact h
/-- strictly inside: the three sides -/
theorem at_in {X Y : Nat → Int} {n a b c x y : Nat} {E : Nat → Nat → Prop} (hD : Dst X Y (n + 1)) (hM : Mx X Y n E) (h : Tr X Y n E a b c) (i1 : 0 < (ar X Y a b n)) (i2 : 0 < (ar X Y b c n)) (i3 : 0 < (ar X Y c a n)) (hT : Tr X Y (n + 1) (insE X Y n E) x y n) :
    (x = a ∧ y = b) ∨ (x = b ∧ y = c) ∨ (x = c ∧ y = a) := by
  obtain ⟨vx, vy⟩ := ins_vs hM hT
  have hin : inT X Y a b c n := ⟨by omega, by omega, by omega⟩
  have g : ∀ v, vs X Y n E v → v = a ∨ v = b ∨ v = c := fun v hv => Decidable.byContradiction fun k => by
    rcases nb_in hD hM h hin hv (by omega) (by omega) (by omega) with q | q | q <;> omega
  have A := hT.2.2.2.1
  have ne := hT.ne
  have e1 := ar_s X Y b a n
  have e2 := ar_s X Y c b n
  have e3 := ar_s X Y a c n
  rcases g x vx with e | e | e <;> rcases g y vy with e' | e' | e' <;> rw [e, e'] at A ne
  · exact absurd rfl ne.1
  · exact Or.inl ⟨e, e'⟩
  · omega
  · omega
  · exact absurd rfl ne.1
  · exact Or.inr (Or.inl ⟨e, e'⟩)
  · exact Or.inr (Or.inr ⟨e, e'⟩)
  · omega
  · exact absurd rfl ne.1
/-- on the edge a, b -/
theorem at_on {X Y : Nat → Int} {n a b c x y : Nat} {E : Nat → Nat → Prop} (hD : Dst X Y (n + 1)) (hM : Mx X Y n E) (h : Tr X Y n E a b c) (i1 : (ar X Y a b n) = 0) (i2 : 0 < (ar X Y b c n)) (i3 : 0 < (ar X Y c a n)) (hT : Tr X Y (n + 1) (insE X Y n E) x y n) :
    (x = b ∧ y = c) ∨ (x = c ∧ y = a) ∨ ∃ d, Tr X Y n E b a d ∧ ((x = a ∧ y = d) ∨ (x = d ∧ y = b)) := by
  have hD' := hD.le (show n ≤ n + 1 by omega)
  have hM2 := ins_Mx hD hM
  obtain ⟨vx, vy⟩ := ins_vs hM hT
  have hin : inT X Y a b c n := ⟨by omega, by omega, by omega⟩
  have hon := side_on h.2.2.2.1 hin i1
  have ln := h.lt hM
  have n1 : Tr X Y (n + 1) (insE X Y n E) b c n := (ins_new hD hM (by omega) (by omega)).mpr ⟨h.2.1, i2, fun w hw => by rw [Tr.uniq hM hw h.rot]; exact inT_rot hin⟩
  have n2 : Tr X Y (n + 1) (insE X Y n E) c a n := (ins_new hD hM (by omega) (by omega)).mpr ⟨h.2.2.1, i3, fun w hw => by rw [Tr.uniq hM hw h.rot.rot]; exact inT_rot (inT_rot hin)⟩
  have nh := h.ne
  -- what lies beyond the edge
  have dn : ∀ d, Tr X Y n E b a d → 0 < (ar X Y a d n) ∧ 0 < (ar X Y d b n) := by
    intro d hd
    have ld := hd.lt hM
    obtain ⟨w1, w2⟩ := oS_ws hon (hD.nq (show a < n + 1 by omega) (show b < n + 1 by omega) nh.1) (hD.nq (show a < n + 1 by omega) (show n < n + 1 by omega) (by omega)) (hD.nq (show b < n + 1 by omega) (show n < n + 1 by omega) (by omega))
    have hs := sq_pos (hD.nq (show a < n + 1 by omega) (show b < n + 1 by omega) nh.1)
    have t1 : sq X Y a b * (ar X Y a d n) = wa X Y a b n * (ar X Y a d a) + wb X Y a b n * (ar X Y a d b) := w_aff (aff_ar X Y a d) hon.1
    have t2 : sq X Y a b * (ar X Y d b n) = wa X Y a b n * (ar X Y d b a) + wb X Y a b n * (ar X Y d b b) := w_aff (aff_ar X Y d b) hon.1
    rw [ar_xyx X Y a d, Int.mul_zero, Int.zero_add, ← ar_c X Y b a d] at t1
    rw [ar_yxx X Y d b, Int.mul_zero, Int.add_zero, ar_c X Y d b a] at t2
    exact ⟨cpos hs (by rw [t1]; exact mpp w2 hd.2.2.2.1), cpos hs (by rw [t2]; exact mpp w1 hd.2.2.2.1)⟩
  have g : ∀ v, vs X Y n E v → v = a ∨ v = b ∨ v = c ∨ ∃ d, Tr X Y n E b a d ∧ v = d := by
    intro v hv
    refine Classical.byContradiction fun k => ?_
    have ka : v ≠ a := fun e => k (Or.inl e)
    have kb : v ≠ b := fun e => k (Or.inr (Or.inl e))
    have kc : v ≠ c := fun e => k (Or.inr (Or.inr (Or.inl e)))
    have hl : (ar X Y a b v) < 0 := by
      rcases nb_in hD hM h hin hv ka kb kc with q | q | q
      · exact q.2
      · omega
      · omega
    obtain ⟨d, hd⟩ := apex hD' hM (hM.1 a b h.1).2.2.2 hv.1 (show 0 < (ar X Y b a v) by have := ar_s X Y b a v; omega)
    have kd : v ≠ d := fun e => k (Or.inr (Or.inr (Or.inr ⟨d, hd, e⟩)))
    obtain ⟨d1, d2⟩ := dn d hd
    rcases nb_in hD hM hd ⟨by have := ar_s X Y b a n; omega, by omega, by omega⟩ hv kb ka kd with q | q | q
    · have := ar_s X Y b a v; omega
    · omega
    · omega
  have A := hT.2.2.2.1
  have ne := hT.ne
  have hxyE : insE X Y n E x y := hT.1
  have e1 := ar_s X Y b a n
  have e2 := ar_s X Y c b n
  have e3 := ar_s X Y a c n
  rcases g x vx with e | e | e | ⟨d, hd, e⟩ <;> rcases g y vy with e' | e' | e' | ⟨d', hd', e'⟩
  · rw [e, e'] at ne; exact absurd rfl ne.1
  · rw [e, e'] at A; omega
  · rw [e, e'] at A; omega
  · exact Or.inr (Or.inr ⟨d', hd', Or.inl ⟨e, e'⟩⟩)
  · rw [e, e'] at A; omega
  · rw [e, e'] at ne; exact absurd rfl ne.1
  · exact Or.inl ⟨e, e'⟩
  · rw [e, e'] at A; have := (dn d' hd').2; have := ar_s X Y b d' n; omega
  · exact Or.inr (Or.inl ⟨e, e'⟩)
  · rw [e, e'] at A; omega
  · rw [e, e'] at ne; exact absurd rfl ne.1
  · rw [e, e'] at hT
    have := Tr.uniq hM2 hT.rot.rot n2.rot.rot
    exact absurd this hd'.ne.2.1.symm
  · rw [e, e'] at A; have := (dn d hd).1; have := ar_s X Y d a n; omega
  · exact Or.inr (Or.inr ⟨d, hd, Or.inr ⟨e, e'⟩⟩)
  · rw [e, e'] at hT
    have := Tr.uniq hM2 hT.rot n1.rot
    exact absurd this hd.ne.2.2
  · rw [e, e', Tr.uniq hM hd hd'] at ne; exact absurd rfl ne.1
/-- outside of all triangles -/
theorem at_out {X Y : Nat → Int} {n x y : Nat} {E : Nat → Nat → Prop} (hD : Dst X Y (n + 1)) (hM : Mx X Y n E) (hx : x ≠ n) (hy : y ≠ n) (hno : ∀ a b c, Tr X Y n E a b c → ¬ inT X Y a b c n) : Tr X Y (n + 1) (insE X Y n E) x y n ↔ E x y ∧ 0 < (ar X Y x y n) ∧ ¬ hasT X Y n E x y := by
  rw [ins_new hD hM hx hy]
  constructor
  · intro ⟨h1, h2, h3⟩
    exact ⟨h1, h2, fun ⟨w, hw⟩ => hno x y w hw (h3 w hw)⟩
  · intro ⟨h1, h2, h3⟩
    exact ⟨h1, h2, fun w hw => absurd ⟨w, hw⟩ h3⟩
/-- the lift of a point on a segment lies under the segment's -/
theorem Ht_on {X Y : Nat → Int} {n a b p : Nat} (hD : Dst X Y n) (hB : Bd X Y n) (ha : a < n) (hb : b < n) (hp : p < n) (nab : a ≠ b) (nap : a ≠ p) (nbp : b ≠ p) (h : oS X Y a b p) : sq X Y a b * Ht X Y p < wa X Y a b p * Ht X Y a + wb X Y a b p * Ht X Y b := by
  obtain ⟨w1, w2⟩ := oS_ws h (hD.nq ha hb nab) (hD.nq ha hp nap) (hD.nq hb hp nbp)
  have hs := sq_pos (hD.nq ha hb nab)
  have ws := w_sum X Y a b p
  have ex := w_aff (aff_x X Y) h.1
  have ey := w_aff (aff_y X Y) h.1
  -- the paraboloid: N (|p|^2) = wa |a|^2 + wb |b|^2 - wa wb
  have key : sq X Y a b * (sq X Y a b * (X p * X p + Y p * Y p)) = sq X Y a b * (wa X Y a b p * (X a * X a + Y a * Y a) + wb X Y a b p * (X b * X b + Y b * Y b)) - wa X Y a b p * wb X Y a b p * sq X Y a b := by
    have e1 : sq X Y a b * (sq X Y a b * (X p * X p + Y p * Y p)) = (sq X Y a b * X p) * (sq X Y a b * X p) + (sq X Y a b * Y p) * (sq X Y a b * Y p) := by grind
    rw [e1, ex, ey]
    have e2 : sq X Y a b = (X b - X a) * (X b - X a) + (Y b - Y a) * (Y b - Y a) := rfl
    have e3 : wa X Y a b p * wb X Y a b p * sq X Y a b = wa X Y a b p * wb X Y a b p * ((X b - X a) * (X b - X a) + (Y b - Y a) * (Y b - Y a)) := by rw [← e2]
    rw [e3, ← ws]
    grind
  have key2 : sq X Y a b * (X p * X p + Y p * Y p) = wa X Y a b p * (X a * X a + Y a * Y a) + wb X Y a b p * (X b * X b + Y b * Y b) - wa X Y a b p * wb X Y a b p := by
    have : sq X Y a b * (sq X Y a b * (X p * X p + Y p * Y p)) = sq X Y a b * (wa X Y a b p * (X a * X a + Y a * Y a) + wb X Y a b p * (X b * X b + Y b * Y b) - wa X Y a b p * wb X Y a b p) := by rw [key]; grind
    exact Int.eq_of_mul_eq_mul_left (by omega) this
  have p0 := wg_pos p
  have pa := wg_le a
  have pb := wg_le b
  have w0 : 0 < wW := Int.lt_of_lt_of_le (wg_pos 0) (wg_le 0)
  obtain ⟨ba1, ba2⟩ := hB a ha
  obtain ⟨bb1, bb2⟩ := hB b hb
  -- N is no more than 2^62
  have hN : sq X Y a b ≤ 2305843000623759368 := by
    unfold sq
    have k1 := mul_bd (a := X b - X a) (b := X b - X a) (A := 1073741822) (B := 1073741822) (by omega) (by omega)
    have k2 := mul_bd (a := Y b - Y a) (b := Y b - Y a) (A := 1073741822) (B := 1073741822) (by omega) (by omega)
    omega
  have hw1 : sq X Y a b ≤ wa X Y a b p * wb X Y a b p + 1 := by
    have := zpp (show 0 ≤ wa X Y a b p - 1 by omega) (show 0 ≤ wb X Y a b p - 1 by omega)
    have e : (wa X Y a b p - 1) * (wb X Y a b p - 1) = wa X Y a b p * wb X Y a b p - (wa X Y a b p + wb X Y a b p) + 1 := by grind
    omega
  have hpp := mpp w1 w2
  have e4 : sq X Y a b * Ht X Y p = 340282366920938463463374607431768211456 * wW * (wa X Y a b p * (X a * X a + Y a * Y a) + wb X Y a b p * (X b * X b + Y b * Y b)) - 340282366920938463463374607431768211456 * wW * (wa X Y a b p * wb X Y a b p) - sq X Y a b * wg p := by
    unfold Ht
    have : sq X Y a b * (340282366920938463463374607431768211456 * wW * (X p * X p + Y p * Y p) - wg p) = 340282366920938463463374607431768211456 * wW * (sq X Y a b * (X p * X p + Y p * Y p)) - sq X Y a b * wg p := by grind
    rw [this, key2]
    grind
  have e5 : wa X Y a b p * Ht X Y a + wb X Y a b p * Ht X Y b = 340282366920938463463374607431768211456 * wW * (wa X Y a b p * (X a * X a + Y a * Y a) + wb X Y a b p * (X b * X b + Y b * Y b)) - (wa X Y a b p * wg a + wb X Y a b p * wg b) := by
    unfold Ht
    grind
  have e6 : wa X Y a b p * wg a + wb X Y a b p * wg b ≤ sq X Y a b * wW := by
    have k1 := Int.mul_le_mul_of_nonneg_left pa (Int.le_of_lt w1)
    have k2 := Int.mul_le_mul_of_nonneg_left pb (Int.le_of_lt w2)
    rw [← ws, Int.add_mul]
    omega
  have e7 : sq X Y a b * wW < 340282366920938463463374607431768211456 * wW * (wa X Y a b p * wb X Y a b p) := by
    have k1 := Int.mul_le_mul_of_nonneg_right hN (Int.le_of_lt w0)
    have k2 := Int.mul_le_mul_of_nonneg_left (show 1 ≤ wa X Y a b p * wb X Y a b p by omega) (show 0 ≤ 340282366920938463463374607431768211456 * wW by omega)
    omega
  have e8 := mpp hs p0
  omega
/-- half of an edge that bends down bends down -/
theorem bend_on {X Y : Nat → Int} {n a b c d p : Nat} (hD : Dst X Y n) (hB : Bd X Y n) (ha : a < n) (hb : b < n) (hp : p < n) (nab : a ≠ b) (nap : a ≠ p) (nbp : b ≠ p) (h : oS X Y a b p) (hG : GH X Y (Ht X Y) a b c d < 0) (hv : 0 ≤ (ar X Y a d c)) : GH X Y (Ht X Y) a p c d < 0 := by
  have hh := Ht_on hD hB ha hb hp nab nap nbp h
  obtain ⟨w1, w2⟩ := oS_ws h (hD.nq ha hb nab) (hD.nq ha hp nap) (hD.nq hb hp nbp)
  have hs := sq_pos (hD.nq ha hb nab)
  have ex := w_aff (aff_x X Y) h.1
  have ey := w_aff (aff_y X Y) h.1
  have ws := w_sum X Y a b p
  generalize Ht X Y = H at *
  have e : sq X Y a b * GH X Y H a p c d = wb X Y a b p * GH X Y H a b c d + (sq X Y a b * H p - (wa X Y a b p * H a + wb X Y a b p * H b)) * (ar X Y a d c) := by
    have k1 : ∀ f : Nat → Int, Aff X Y f → sq X Y a b * f p = wa X Y a b p * f a + wb X Y a b p * f b := fun f hf => w_aff hf h.1
    have r1 := k1 _ (aff_ar X Y c d)
    have r2 := k1 _ (aff_ar X Y d a)
    have r1 : sq X Y a b * (ar X Y c d p) = wa X Y a b p * (ar X Y c d a) + wb X Y a b p * (ar X Y c d b) := r1
    have r2 : sq X Y a b * (ar X Y d a p) = wa X Y a b p * (ar X Y d a a) + wb X Y a b p * (ar X Y d a b) := r2
    rw [ar_yxx X Y d a, Int.mul_zero, Int.zero_add] at r2
    have g1 : GH X Y H a p c d = (H a - H d) * (ar X Y c d p) + (H p - H d) * (ar X Y a d c) + (H c - H d) * (ar X Y d a p) := by
      unfold GH
      rw [show (ar X Y d p c) = (ar X Y c d p) from (ar_c X Y c d p).symm, show (ar X Y d c a) = (ar X Y a d c) from (ar_c X Y a d c).symm]
    have g2 : GH X Y H a b c d = (H a - H d) * (ar X Y c d b) + (H b - H d) * (ar X Y a d c) + (H c - H d) * (ar X Y d a b) := by
      unfold GH
      rw [show (ar X Y d b c) = (ar X Y c d b) from (ar_c X Y c d b).symm, show (ar X Y d c a) = (ar X Y a d c) from (ar_c X Y a d c).symm]
    have e5 : (ar X Y c d a) = -(ar X Y a d c) := ar_o X Y c d a
    have r3 : sq X Y a b * GH X Y H a p c d = (H a - H d) * (sq X Y a b * (ar X Y c d p)) + (sq X Y a b * H p - sq X Y a b * H d) * (ar X Y a d c) + (H c - H d) * (sq X Y a b * (ar X Y d a p)) := by rw [g1]; grind
    rw [r3, r1, r2, e5, g2, ← ws]
    grind
  have k1 := mpn w2 hG
  have k2 := znp (show sq X Y a b * H p - (wa X Y a b p * H a + wb X Y a b p * H b) ≤ 0 by omega) hv
  exact cneg hs (by omega)
