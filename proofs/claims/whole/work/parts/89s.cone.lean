/-! two triangles at one corner; the fan -/
theorem no_in {X Y : Nat → Int} {n : Nat} {E : Nat → Nat → Prop} (hM : Mx X Y n E) {t a b c : Nat} (h : Tr X Y n E t a b) (hc : E t c) : ¬ (0 < (ar X Y t a c) ∧ 0 < (ar X Y t c b)) := by
  intro ⟨h1, h2⟩
  obtain ⟨ta, ab, bt, hA, he⟩ := h
  have lc := hM.1 t c hc
  have n1 : c ≠ a := fun e => by rw [e, ar_yxx] at h1; omega
  have n2 : c ≠ b := fun e => by rw [e, ar_yxx] at h2; omega
  by_cases q : 0 ≤ (ar X Y a b c)
  · refine he c lc.2.1 (Ne.symm lc.2.2.1) n1 n2 ⟨Int.le_of_lt h1, q, ?_⟩
    have := ar_c X Y b t c
    omega
  · refine hM.2.2.1 t c a b hc ab ⟨mnp ?_ h2, mpn ?_ (by omega)⟩
    · have := ar_t X Y t c a; omega
    · have := ar_c X Y t a b; omega
theorem same_dir {X Y f : Nat → Int} (hf : Aff X Y f) {n : Nat} {E : Nat → Nat → Prop} (hM : Mx X Y n E) {t a c : Nat} (ha : E t a) (hc : E t c) (h0 : f t = 0) (h1 : 0 < f a) (h2 : 0 < f c) (hz : (ar X Y t a c) = 0) : a = c := by
  refine Decidable.byContradiction fun ne => ?_
  have la := hM.1 t a ha
  have lc := hM.1 t c hc
  by_cases q : f c ≤ f a
  · exact hM.2.1 t a ha c lc.2.1 (Ne.symm lc.2.2.1) (Ne.symm ne) (oS_of hf hz (by omega) q (by omega))
  · refine hM.2.1 t c hc a la.2.1 (Ne.symm la.2.2.1) ne (oS_of hf ?_ (by omega) (by omega) (by omega))
    have := ar_t X Y t c a
    omega
/-- one direction in two triangles at t -/
theorem cone {X Y : Nat → Int} {n : Nat} {E : Nat → Nat → Prop} (hM : Mx X Y n E) {t a b c d : Nat} (h1 : Tr X Y n E t a b) (h2 : Tr X Y n E t c d) {α β α' β' : Int} (ha : 0 ≤ α) (hb : 0 < β) (ha' : 0 ≤ α') (hb' : 0 ≤ β') (ex : α * (X a - X t) + β * (X b - X t) = α' * (X d - X t) + β' * (X c - X t)) (ey : α * (Y a - Y t) + β * (Y b - Y t) = α' * (Y d - Y t) + β' * (Y c - Y t)) : a = c ∨ b = c := by
  have hA := h1.2.2.2.1
  have hB := h2.2.2.2.1
  have lin : ∀ p q : Int, α * (p * (Y a - Y t) - q * (X a - X t)) + β * (p * (Y b - Y t) - q * (X b - X t)) = α' * (p * (Y d - Y t) - q * (X d - X t)) + β' * (p * (Y c - Y t) - q * (X c - X t)) := by
    intro p q
    have e1 : α * (p * (Y a - Y t) - q * (X a - X t)) + β * (p * (Y b - Y t) - q * (X b - X t)) = p * (α * (Y a - Y t) + β * (Y b - Y t)) - q * (α * (X a - X t) + β * (X b - X t)) := by grind
    rw [e1, ex, ey]
    grind
  have g : ∀ x, α * (ar X Y t x a) + β * (ar X Y t x b) = α' * (ar X Y t x d) + β' * (ar X Y t x c) := fun x => lin (X x - X t) (Y x - Y t)
  have g1 := g a
  have g3 := g c
  rw [ar_yxx, Int.mul_zero, Int.zero_add] at g1
  rw [ar_yxx, Int.mul_zero, Int.add_zero] at g3
  have e1 := ar_t X Y t c a
  have N1 := no_in hM h1 h2.1
  have N3 := no_in hM h2 h1.1
  have bA := mpp hb hA
  by_cases c1 : 0 < (ar X Y t a c)
  · right
    have q0 : (ar X Y t c b) ≤ 0 := Int.not_lt.mp fun q => N1 ⟨c1, q⟩
    have s1 : α * (ar X Y t c a) ≤ 0 := zpn ha (by omega)
    have s2 := zpn (Int.le_of_lt hb) q0
    have s3 := zpp ha' (Int.le_of_lt hB)
    have z : (ar X Y t c b) = 0 := by
      rcases Int.mul_eq_zero.mp (show β * (ar X Y t c b) = 0 by omega) with w | w
      · omega
      · exact w
    refine same_dir (aff_ar X Y t a) hM ((hM.1 b t h1.2.2.1).2.2.2) h2.1 (ar_xyx X Y t a) hA c1 ?_
    have := ar_t X Y t b c
    omega
  · left
    have s1 := zpn hb' (show (ar X Y t a c) ≤ 0 by omega)
    have r1 : 0 < α' * (ar X Y t a d) := by omega
    have ap : 0 < α' := by
      refine Decidable.byContradiction fun k => ?_
      have : α' = 0 := by omega
      rw [this, Int.zero_mul] at r1
      omega
    have r0 := cpos ap r1
    have z : (ar X Y t a c) = 0 := by
      refine Decidable.byContradiction fun k => N3 ⟨by omega, r0⟩
    have hf : Aff X Y (fun x => (ar X Y d t x)) := aff_ar X Y d t
    refine same_dir hf hM h1.1 h2.1 (ar_yxx X Y d t) ?_ ?_ z
    · show 0 < (ar X Y d t a)
      have := ar_c X Y d t a
      omega
    · show 0 < (ar X Y d t c)
      have := ar_c X Y d t c
      omega
/-- the mirror of a mesh -/
theorem Tr.m {X Y : Nat → Int} {n : Nat} {E : Nat → Nat → Prop} (hs : ∀ x y, E x y → E y x) {a b c : Nat} (h : Tr X Y n E a b c) : Tr (mX X) Y n E a c b := by
  obtain ⟨h1, h2, h3, h4, h5⟩ := h
  refine ⟨hs _ _ h3, hs _ _ h2, hs _ _ h1, ?_, fun p hp n1 n2 n3 ⟨k1, k2, k3⟩ => h5 p hp n1 n3 n2 ⟨?_, ?_, ?_⟩⟩
  · rw [ar_m, ar_t]; omega
  · rw [ar_m] at k3; have := ar_s X Y b a p; omega
  · rw [ar_m] at k2; have := ar_s X Y c b p; omega
  · rw [ar_m] at k1; have := ar_s X Y a c p; omega
theorem Mx.m {X Y : Nat → Int} {n : Nat} {E : Nat → Nat → Prop} (h : Mx X Y n E) : Mx (mX X) Y n E := by
  obtain ⟨h1, h2, h3, h4⟩ := h
  have ec : ∀ a b c d, crs (mX X) Y a b c d ↔ crs X Y a b c d := by
    intro a b c d
    unfold crs
    rw [ar_m, ar_m, ar_m, ar_m, Int.neg_mul_neg, Int.neg_mul_neg]
  refine ⟨h1, fun a b hab p hp n1 n2 k => h2 b a (h1 a b hab).2.2.2 p hp n2 n1 (oS_m.mp k), fun a b c d k1 k2 k => h3 a b c d k1 k2 ((ec a b c d).mp k), fun a b ha hb hab hc hx => (h1 b a (h4 b a hb ha (Ne.symm hab) (fun p hp n1 n2 k => hc p hp n2 n1 (oS_m.mpr k)) (fun c d k1 k => hx c d k1 ((ec a b c d).mpr (crs_s k))))).2.2.2⟩
/-- the fan at t: from the triangle t, a, b the way from u goes on between a and b; it goes on outside of another triangle t, c, d -/
theorem fan {X Y : Nat → Int} {n : Nat} {E : Nat → Nat → Prop} (hM : Mx X Y n E) {u t a b c d : Nat} (h1 : Tr X Y n E t a b) (h2 : Tr X Y n E t c d) (hac : a ≠ c) (hbc : b ≠ c) (ub : 0 ≤ (ar X Y u t b)) (ua : (ar X Y u t a) < 0) : FN X Y u t d c := by
  intro α' β' k ha' hb' hab' hk ⟨e1, e2⟩
  have hA := h1.2.2.2.1
  have f1 : (ar X Y t a b) * (X t - X u) = (ar X Y u t b) * (X a - X t) + (-(ar X Y u t a)) * (X b - X t) := by unfold ar; grind
  have f2 : (ar X Y t a b) * (Y t - Y u) = (ar X Y u t b) * (Y a - Y t) + (-(ar X Y u t a)) * (Y b - Y t) := by unfold ar; grind
  have go : ∀ xa xb xc xd xf : Int, α' * xd + β' * xc = k * xf → (ar X Y t a b) * xf = (ar X Y u t b) * xa + (-(ar X Y u t a)) * xb → (k * (ar X Y u t b)) * xa + (k * (-(ar X Y u t a))) * xb = ((ar X Y t a b) * α') * xd + ((ar X Y t a b) * β') * xc := by
    intro xa xb xc xd xf q1 q2
    have : ((ar X Y t a b) * α') * xd + ((ar X Y t a b) * β') * xc = (ar X Y t a b) * (α' * xd + β' * xc) := by grind
    rw [this, q1]
    have : (ar X Y t a b) * (k * xf) = k * ((ar X Y t a b) * xf) := by grind
    rw [this, q2]
    grind
  rcases cone hM h1 h2 (zpp (Int.le_of_lt hk) ub) (mpp hk (show 0 < -(ar X Y u t a) by omega)) (zpp (Int.le_of_lt hA) ha') (zpp (Int.le_of_lt hA) hb') (go _ _ _ _ _ e1 f1) (go _ _ _ _ _ e2 f2) with q | q
  · exact hac q
  · exact hbc q
/-- its mirror -/
theorem fanM {X Y : Nat → Int} {n : Nat} {E : Nat → Nat → Prop} (hM : Mx X Y n E) {u t a b c d : Nat} (h1 : Tr X Y n E t b a) (h2 : Tr X Y n E t d c) (hac : a ≠ c) (hbc : b ≠ c) (ub : (ar X Y u t b) ≤ 0) (ua : 0 < (ar X Y u t a)) : FN X Y u t c d := by
  have hs : ∀ x y, E x y → E y x := fun x y h => (hM.1 x y h).2.2.2
  have := (fan (u := u) hM.m (h1.m hs) (h2.m hs) hac hbc (by rw [ar_m]; omega) (by rw [ar_m]; omega)).m
  rw [mXX] at this
  exact this
