/-! M3: one triangle on each side; the other diagonal -/
theorem emp_rot {X Y : Nat → Int} {n a b c : Nat} (h : emp X Y n a b c) : emp X Y n b c a := fun p hp h1 h2 h3 ⟨k1, k2, k3⟩ => h p hp h3 h1 h2 ⟨k3, k1, k2⟩
theorem Tr.rot {X Y : Nat → Int} {n a b c : Nat} {E : Nat → Nat → Prop} (h : Tr X Y n E a b c) : Tr X Y n E b c a := ⟨h.2.1, h.2.2.1, h.1, by rw [← ar_c X Y a b c]; exact h.2.2.2.1, emp_rot h.2.2.2.2⟩
theorem apex_x {X Y : Nat → Int} {a b c d : Nat} (h1 : 0 < (ar X Y a b c)) (h2 : 0 < (ar X Y a b d)) (hd : ¬ (0 ≤ (ar X Y a b d) ∧ 0 ≤ (ar X Y b c d) ∧ 0 ≤ (ar X Y c a d))) (hc : ¬ (0 ≤ (ar X Y a b c) ∧ 0 ≤ (ar X Y b d c) ∧ 0 ≤ (ar X Y d a c))) : crs X Y a d b c ∨ crs X Y b d a c := by
  have e1 := ar_t X Y b d c
  have e2 := ar_c X Y d a c
  have e3 := ar_s X Y a c d
  have e4 := ar_c X Y a b c
  have e5 := ar_t X Y a d b
  have e6 := ar_t X Y a d c
  have e7 := ar_t X Y a c b
  have e8 := ar_c X Y b d a
  have e9 := ar_c X Y a b d
  have e10 := ar_c X Y d a b
  by_cases hu : (ar X Y b c d) < 0
  · left
    exact ⟨mnp (by omega) (by omega), mpn (by omega) (by omega)⟩
  · right
    exact ⟨mpn (by omega) (by omega), mnp (by omega) (by omega)⟩
theorem Tr.uniq {X Y : Nat → Int} {n : Nat} {E : Nat → Nat → Prop} (hM : Mx X Y n E) {a b c d : Nat} (h1 : Tr X Y n E a b c) (h2 : Tr X Y n E a b d) : c = d := by
  refine Decidable.byContradiction fun hcd => ?_
  obtain ⟨m1, m2, m3, m4⟩ := hM
  obtain ⟨_, bc, ca, Ac, ec⟩ := h1
  obtain ⟨ab, bd, da, Ad, ed⟩ := h2
  have nb := m1 b c bc
  have nb' := m1 b d bd
  have nc := m1 c a ca
  have nd := m1 d a da
  rcases apex_x Ac Ad (ec d nd.1 nd.2.2.1 (Ne.symm nb'.2.2.1) (Ne.symm hcd)) (ed c nc.1 nc.2.2.1 (Ne.symm nb.2.2.1) hcd) with h | h
  · exact m3 a d b c nd.2.2.2 bc h
  · exact m3 b d a c bd nc.2.2.2 h
theorem emp_flip {X Y : Nat → Int} {n a b c d : Nat} (h1 : emp X Y n a b c) (h2 : emp X Y n b a d) (A : 0 < (ar X Y a b c)) (B : 0 < (ar X Y b a d)) (c1 : 0 < (ar X Y d b c)) (c2 : 0 < (ar X Y a d c)) : emp X Y n a d c := by
  intro p hp na nd nc ⟨k1, k2, k3⟩
  have nb : p ≠ b := fun e => by rw [e] at k2; have := ar_t X Y d b c; omega
  by_cases h : 0 ≤ (ar X Y a b p)
  · refine h1 p hp na nb nc ⟨h, cnn c2 ?_, k3⟩
    have B1 : (ar X Y a d c) * (ar X Y b c p) = (ar X Y d c p) * (ar X Y b c a) + (ar X Y c a p) * (ar X Y b c d) + (ar X Y a d p) * (ar X Y b c c) := bary (aff_ar X Y b c) a d c p
    rw [ar_yxx X Y b c, Int.mul_zero, ← ar_c X Y a b c, ← ar_c X Y d b c] at B1
    have := zpp k2 (Int.le_of_lt A)
    have := zpp k3 (Int.le_of_lt c1)
    omega
  · refine h2 p hp nb na nd ⟨by have := ar_s X Y b a p; omega, k1, cnn c2 ?_⟩
    have B1 : (ar X Y a d c) * (ar X Y d b p) = (ar X Y d c p) * (ar X Y d b a) + (ar X Y c a p) * (ar X Y d b d) + (ar X Y a d p) * (ar X Y d b c) := bary (aff_ar X Y d b) a d c p
    rw [ar_xyx X Y d b, Int.mul_zero, ar_c X Y d b a] at B1
    have := zpp k2 (Int.le_of_lt B)
    have := zpp k1 (Int.le_of_lt c1)
    omega
/-- a, b goes, c, d comes -/
def fl (E : Nat → Nat → Prop) (a b c d x y : Nat) : Prop := (E x y ∧ ¬ (x = a ∧ y = b) ∧ ¬ (x = b ∧ y = a)) ∨ (x = c ∧ y = d) ∨ (x = d ∧ y = c)
/-- what stands before a flip -/
def FL (X Y : Nat → Int) (n : Nat) (E : Nat → Nat → Prop) (a b c d : Nat) : Prop := Tr X Y n E a b c ∧ Tr X Y n E b a d ∧ 0 < (ar X Y d b c) ∧ 0 < (ar X Y a d c)
theorem FL.sym {X Y : Nat → Int} {n a b c d : Nat} {E : Nat → Nat → Prop} (h : FL X Y n E a b c d) : FL X Y n E b a d c := ⟨h.2.1, h.1, by rw [ar_c X Y c a d]; exact h.2.2.2, by rw [← ar_c X Y d b c]; exact h.2.2.1⟩
theorem FL.emp {X Y : Nat → Int} {n a b c d : Nat} {E : Nat → Nat → Prop} (h : FL X Y n E a b c d) : emp X Y n a d c := emp_flip h.1.2.2.2.2 h.2.1.2.2.2.2 h.1.2.2.2.1 h.2.1.2.2.2.1 h.2.2.1 h.2.2.2
theorem FL.ne {X Y : Nat → Int} {n a b c d : Nat} {E : Nat → Nat → Prop} (h : FL X Y n E a b c d) : a ≠ b ∧ a ≠ c ∧ a ≠ d ∧ b ≠ c ∧ b ≠ d ∧ c ≠ d := by
  have h1 := h.1.2.2.2.1
  have h2 := h.2.1.2.2.2.1
  have h3 := h.2.2.1
  refine ⟨?_, ?_, ?_, ?_, ?_, ?_⟩ <;> intro e
  · rw [e, ar_xx] at h1; omega
  · rw [e, ar_xyx] at h1; omega
  · rw [e, ar_yxx] at h2; omega
  · rw [e, ar_yxx] at h1; omega
  · rw [e, ar_xyx] at h2; omega
  · rw [e, ar_xyx] at h3; omega
theorem FL.crs {X Y : Nat → Int} {n a b c d : Nat} {E : Nat → Nat → Prop} (h : FL X Y n E a b c d) : crs X Y a b c d := by
  have h1 := h.1.2.2.2.1
  have h2 := h.2.1.2.2.2.1
  have h3 := h.2.2.1
  have h4 := h.2.2.2
  have e1 := ar_s X Y b a d
  have e2 := ar_c X Y a d c
  have e3 := ar_s X Y d c a
  have e4 := ar_c X Y d b c
  have e5 := ar_c X Y b c d
  have e6 := ar_c X Y c d b
  exact ⟨mpn h1 (by omega), mnp (by omega) (by omega)⟩
theorem fl_sym {E : Nat → Nat → Prop} {a b c d x y : Nat} (hs : ∀ x y, E x y → E y x) (h : fl E a b c d x y) : fl E a b c d y x := by
  rcases h with ⟨h, k1, k2⟩ | ⟨h1, h2⟩ | ⟨h1, h2⟩
  · exact Or.inl ⟨hs x y h, fun k => k2 ⟨k.2, k.1⟩, fun k => k1 ⟨k.2, k.1⟩⟩
  · exact Or.inr (Or.inr ⟨h2, h1⟩)
  · exact Or.inr (Or.inl ⟨h2, h1⟩)
theorem fl_swap {E : Nat → Nat → Prop} {a b c d x y : Nat} (h : fl E a b c d x y) : fl E b a d c x y := by
  rcases h with ⟨h, k1, k2⟩ | h | h
  · exact Or.inl ⟨h, k2, k1⟩
  · exact Or.inr (Or.inr h)
  · exact Or.inr (Or.inl h)
/-- no edge but a, b crosses c, d -/
theorem fl_x {X Y : Nat → Int} {n a b c d x y : Nat} {E : Nat → Nat → Prop} (hM : Mx X Y n E) (h : FL X Y n E a b c d) (hE : E x y) (hx : cx X Y x y c d) : y = a ∧ x = b := by
  obtain ⟨m1, m2, m3, m4⟩ := hM
  obtain ⟨hxn, hyn, hxy, eyx⟩ := m1 x y hE
  obtain ⟨ab, bc, ca, A, e1⟩ := h.1
  obtain ⟨ba, ad, db, B, e2⟩ := h.2.1
  have g1 := NB (p := d) (q := c) (r := a) (by rw [← ar_c X Y a d c]; exact h.2.2.2) hyn (m1 a b ab).1 (emp_rot h.emp) (m2 x y hE) hx
  have g2 := NB (p := c) (q := d) (r := b) (by rw [ar_c X Y c d b, ar_c X Y d b c, ar_c X Y b c d, ar_c X Y c d b]; exact h.2.2.1) hxn (m1 a b ab).2.1 (emp_rot h.sym.emp) (m2 y x eyx) (cx_rev hx)
  constructor
  · rcases g1 with g | ⟨_, g⟩ | ⟨_, g⟩
    · exact g.symm
    · exact absurd (cx_crs g) (m3 x y c a hE ca)
    · exact absurd (cx_crs g) (m3 x y a d hE ad)
  · rcases g2 with g | ⟨_, g⟩ | ⟨_, g⟩
    · exact g.symm
    · exact absurd (cx_crs g) (m3 y x d b eyx db)
    · exact absurd (cx_crs g) (m3 y x b c eyx bc)
theorem fl_Mx {X Y : Nat → Int} {n a b c d : Nat} {E : Nat → Nat → Prop} (hD : Dst X Y n) (hM : Mx X Y n E) (h : FL X Y n E a b c d) : Mx X Y n (fl E a b c d) := by
  have hM' := hM
  obtain ⟨m1, m2, m3, m4⟩ := hM
  have hs : ∀ x y, E x y → E y x := fun x y k => (m1 x y k).2.2.2
  obtain ⟨ab, bc, ca, A, e1⟩ := h.1
  obtain ⟨ba, ad, db, B, e2⟩ := h.2.1
  obtain ⟨nab, nac, nad, nbc, nbd, ncd⟩ := h.ne
  have hc := (m1 c a ca).1
  have hd := (m1 d b db).1
  have clcd : clr X Y n c d := by
    intro p hp pc pd hon
    obtain ⟨w1, w2⟩ := oS_w hon
    have hsq := sq_pos (hD.nq hc hd ncd)
    have g1 : sq X Y c d * (ar X Y a d p) = wa X Y c d p * (ar X Y a d c) + wb X Y c d p * (ar X Y a d d) := w_aff (aff_ar X Y a d) hon.1
    have g2 : sq X Y c d * (ar X Y c a p) = wa X Y c d p * (ar X Y c a c) + wb X Y c d p * (ar X Y c a d) := w_aff (aff_ar X Y c a) hon.1
    rw [ar_yxx X Y a d, Int.mul_zero, Int.add_zero] at g1
    rw [ar_xyx X Y c a, Int.mul_zero, Int.zero_add, ar_c X Y c a d] at g2
    have k := h.2.2.2
    refine h.emp p hp (fun e => ?_) pd pc ⟨cnn hsq (by rw [g1]; exact zpp w1 (by omega)), by have := ar_s X Y d c p; have := hon.1; omega, cnn hsq (by rw [g2]; exact zpp w2 (by omega))⟩
    have q := hon.1
    rw [e] at q
    have q1 := ar_c X Y a d c
    have q2 := ar_s X Y d c a
    omega
  have nx : ∀ x y, E x y → ¬ (x = a ∧ y = b) → ¬ (x = b ∧ y = a) → ¬ crs X Y x y c d := by
    intro x y hE n1 n2 hx
    rcases cx_of hx with k | k
    · have := fl_x hM' h hE k
      exact n2 ⟨this.2, this.1⟩
    · have := fl_x hM' h.sym hE k
      exact n1 ⟨this.2, this.1⟩
  refine ⟨?_, ?_, ?_, ?_⟩
  · intro x y hE
    refine ⟨?_, ?_, ?_, fl_sym hs hE⟩ <;> rcases hE with ⟨k, _⟩ | ⟨k1, k2⟩ | ⟨k1, k2⟩
    · exact (m1 x y k).1
    · rw [k1]; exact hc
    · rw [k1]; exact hd
    · exact (m1 x y k).2.1
    · rw [k2]; exact hd
    · rw [k2]; exact hc
    · exact (m1 x y k).2.2.1
    · rw [k1, k2]; exact ncd
    · rw [k1, k2]; exact Ne.symm ncd
  · intro x y hE
    rcases hE with ⟨k, _⟩ | ⟨k1, k2⟩ | ⟨k1, k2⟩
    · exact m2 x y k
    · rw [k1, k2]; exact clcd
    · rw [k1, k2]
      intro p hp h1 h2 hon
      refine clcd p hp h2 h1 ⟨by have := ar_s X Y c d p; have := hon.1; omega, ?_⟩
      have := hon.2
      unfold dt at this ⊢
      rw [Int.mul_comm (X c - X p), Int.mul_comm (Y c - Y p)]
      exact this
  · intro x y u v h1 h2 hx
    rcases h1 with ⟨k, n1, n2⟩ | ⟨k1, k2⟩ | ⟨k1, k2⟩ <;> rcases h2 with ⟨j, o1, o2⟩ | ⟨j1, j2⟩ | ⟨j1, j2⟩
    · exact m3 x y u v k j hx
    · rw [j1, j2] at hx; exact nx x y k n1 n2 hx
    · rw [j1, j2] at hx; exact nx x y k n1 n2 (crs_t hx)
    · rw [k1, k2] at hx; exact nx u v j o1 o2 (crs_sym hx)
    · have := hx.1; rw [k1, k2, j1, j2, ar_xyx, Int.zero_mul] at this; omega
    · have := hx.1; rw [k1, k2, j1, j2, ar_yxx, Int.zero_mul] at this; omega
    · rw [k1, k2] at hx; exact nx u v j o1 o2 (crs_t (crs_sym hx))
    · have := hx.1; rw [k1, k2, j1, j2, ar_yxx, Int.zero_mul] at this; omega
    · have := hx.1; rw [k1, k2, j1, j2, ar_xyx, Int.zero_mul] at this; omega
  · intro x y hx hy nxy hcl hno
    have E1 : ∀ u v, E u v → u ≠ a ∨ v ≠ b → u ≠ b ∨ v ≠ a → fl E a b c d u v := fun u v k k1 k2 => Or.inl ⟨k, by omega, by omega⟩
    have hcl' : clr X Y n y x := by
      intro p hp h1 h2 hon
      refine hcl p hp h2 h1 ⟨by have := ar_s X Y x y p; have := hon.1; omega, ?_⟩
      have := hon.2
      unfold dt at this ⊢
      rw [Int.mul_comm (X x - X p), Int.mul_comm (Y x - Y p)]
      exact this
    -- what crosses a, b is c, d
    have key : ∀ a b c d : Nat, FL X Y n E a b c d → (∀ u v, fl E a b c d u v → ¬ crs X Y x y u v) → cx X Y x y a b → y = d ∧ x = c := by
      intro a b c d h hno k
      obtain ⟨ab, bc, ca, A, e1⟩ := h.1
      obtain ⟨ba, ad, db, B, e2⟩ := h.2.1
      obtain ⟨nab, nac, nad, nbc, nbd, ncd⟩ := h.ne
      have E1 : ∀ u v, E u v → u ≠ a ∨ v ≠ b → u ≠ b ∨ v ≠ a → fl E a b c d u v := fun u v k k1 k2 => Or.inl ⟨k, by omega, by omega⟩
      have g1 := NB (p := b) (q := a) (r := d) B hy (m1 d b db).1 e2 hcl k
      have g2 := NB (p := a) (q := b) (r := c) A hx (m1 c a ca).1 e1 hcl' (cx_rev k)
      constructor
      · rcases g1 with g | ⟨_, g⟩ | ⟨_, g⟩
        · exact g.symm
        · exact absurd (cx_crs g) (hno a d (E1 a d ad (by omega) (by omega)))
        · exact absurd (cx_crs g) (hno d b (E1 d b db (by omega) (by omega)))
      · rcases g2 with g | ⟨_, g⟩ | ⟨_, g⟩
        · exact g.symm
        · exact absurd (crs_s (cx_crs g)) (hno b c (E1 b c bc (by omega) (by omega)))
        · exact absurd (crs_s (cx_crs g)) (hno c a (E1 c a ca (by omega) (by omega)))
    by_cases hab : crs X Y x y a b
    · rcases cx_of hab with k | k
      · have := key a b c d h hno k
        exact Or.inr (Or.inl ⟨this.2, this.1⟩)
      · have := key b a d c h.sym (fun u v k => hno u v (fl_swap k)) k
        exact Or.inr (Or.inr ⟨this.2, this.1⟩)
    · have hE : E x y := m4 x y hx hy nxy hcl fun u v k hx => by
        by_cases k1 : u = a ∧ v = b
        · rw [k1.1, k1.2] at hx; exact hab hx
        · by_cases k2 : u = b ∧ v = a
          · rw [k2.1, k2.2] at hx; exact hab (crs_t hx)
          · exact hno u v (Or.inl ⟨k, k1, k2⟩) hx
      refine Or.inl ⟨hE, fun k => ?_, fun k => ?_⟩
      · rw [k.1, k.2] at hno; exact hno c d (Or.inr (Or.inl ⟨rfl, rfl⟩)) h.crs
      · rw [k.1, k.2] at hno; exact hno c d (Or.inr (Or.inl ⟨rfl, rfl⟩)) (crs_s h.crs)
theorem fl_in {E : Nat → Nat → Prop} {a b c d x y : Nat} (h : E x y) (h1 : x ≠ a ∨ y ≠ b) (h2 : x ≠ b ∨ y ≠ a) : fl E a b c d x y := Or.inl ⟨h, by omega, by omega⟩
/-- the new triangles -/
theorem fl_T1 {X Y : Nat → Int} {n a b c d : Nat} {E : Nat → Nat → Prop} (h : FL X Y n E a b c d) : Tr X Y n (fl E a b c d) a d c := by
  obtain ⟨nab, nac, nad, nbc, nbd, ncd⟩ := h.ne
  exact ⟨fl_in h.2.1.2.1 (by omega) (by omega), Or.inr (Or.inr ⟨rfl, rfl⟩), fl_in h.1.2.2.1 (by omega) (by omega), h.2.2.2, h.emp⟩
theorem fl_T2 {X Y : Nat → Int} {n a b c d : Nat} {E : Nat → Nat → Prop} (h : FL X Y n E a b c d) : Tr X Y n (fl E a b c d) d b c := by
  obtain ⟨nab, nac, nad, nbc, nbd, ncd⟩ := h.ne
  exact ⟨fl_in h.2.1.2.2.1 (by omega) (by omega), fl_in h.1.2.1 (by omega) (by omega), Or.inr (Or.inl ⟨rfl, rfl⟩), h.2.2.1, emp_rot (emp_rot h.sym.emp)⟩
theorem fl_no {X Y : Nat → Int} {n a b c d z : Nat} {E : Nat → Nat → Prop} (h : FL X Y n E a b c d) : ¬ Tr X Y n (fl E a b c d) a b z ∧ ¬ Tr X Y n (fl E a b c d) b a z := by
  obtain ⟨nab, nac, nad, nbc, nbd, ncd⟩ := h.ne
  constructor
  · intro k
    rcases k.1 with ⟨_, k1, _⟩ | ⟨k1, k2⟩ | ⟨k1, k2⟩
    · exact k1 ⟨rfl, rfl⟩
    · exact nac k1
    · exact nad k1
  · intro k
    rcases k.1 with ⟨_, _, k1⟩ | ⟨k1, k2⟩ | ⟨k1, k2⟩
    · exact k1 ⟨rfl, rfl⟩
    · exact nbc k1
    · exact nbd k1
/-- the other triangles stay -/
theorem fl_stay {X Y : Nat → Int} {n a b c d x y z : Nat} {E : Nat → Nat → Prop} (hD : Dst X Y n) (hM : Mx X Y n E) (h : FL X Y n E a b c d)
    (h1 : ¬ (x = a ∧ y = b)) (h2 : ¬ (x = b ∧ y = a)) (h3 : ¬ (x = a ∧ y = d)) (h4 : ¬ (x = d ∧ y = c)) (h5 : ¬ (x = c ∧ y = a)) (h6 : ¬ (x = d ∧ y = b)) (h7 : ¬ (x = b ∧ y = c)) (h8 : ¬ (x = c ∧ y = d)) :
    Tr X Y n (fl E a b c d) x y z ↔ Tr X Y n E x y z := by
  have hM2 := fl_Mx hD hM h
  obtain ⟨nab, nac, nad, nbc, nbd, ncd⟩ := h.ne
  constructor
  · intro k
    have kr := k.rot
    have kr2 := kr.rot
    have n1 : ¬ (y = c ∧ z = d) := fun e => by
      rw [e.1, e.2] at kr
      have := Tr.uniq hM2 kr (fl_T2 h).rot.rot
      exact h7 ⟨this, e.1⟩
    have n2 : ¬ (y = d ∧ z = c) := fun e => by
      rw [e.1, e.2] at kr
      have := Tr.uniq hM2 kr (fl_T1 h).rot
      exact h3 ⟨this, e.1⟩
    have n3 : ¬ (z = c ∧ x = d) := fun e => by
      rw [e.1, e.2] at kr2
      have := Tr.uniq hM2 kr2 (fl_T2 h).rot.rot
      exact h6 ⟨e.2, this⟩
    have n4 : ¬ (z = d ∧ x = c) := fun e => by
      rw [e.1, e.2] at kr2
      have := Tr.uniq hM2 kr2 (fl_T1 h).rot
      exact h5 ⟨e.2, this⟩
    have g : ∀ u v, fl E a b c d u v → ¬ (u = c ∧ v = d) → ¬ (u = d ∧ v = c) → E u v := by
      intro u v q q1 q2
      rcases q with ⟨q, _⟩ | q | q
      · exact q
      · exact absurd q q1
      · exact absurd q q2
    exact ⟨g x y k.1 h8 h4, g y z k.2.1 n1 n2, g z x k.2.2.1 n3 n4, k.2.2.2⟩
  · intro k
    have kr := k.rot
    have kr2 := kr.rot
    have n1 : ¬ (y = a ∧ z = b) := fun e => by
      rw [e.1, e.2] at kr
      have := Tr.uniq hM kr h.1
      exact h5 ⟨this, e.1⟩
    have n2 : ¬ (y = b ∧ z = a) := fun e => by
      rw [e.1, e.2] at kr
      have := Tr.uniq hM kr h.2.1
      exact h6 ⟨this, e.1⟩
    have n3 : ¬ (z = a ∧ x = b) := fun e => by
      rw [e.1, e.2] at kr2
      have := Tr.uniq hM kr2 h.1
      exact h7 ⟨e.2, this⟩
    have n4 : ¬ (z = b ∧ x = a) := fun e => by
      rw [e.1, e.2] at kr2
      have := Tr.uniq hM kr2 h.2.1
      exact h3 ⟨e.2, this⟩
    exact ⟨Or.inl ⟨k.1, h1, h2⟩, Or.inl ⟨k.2.1, n1, n2⟩, Or.inl ⟨k.2.2.1, n3, n4⟩, k.2.2.2⟩
