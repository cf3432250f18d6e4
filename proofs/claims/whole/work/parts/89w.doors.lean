/-! the doors of a row -/
/-- doors (L p, R p), p < d, between P p and P (p + 1), whose third corner is A p -/
def Dr (X Y : Nat → Int) (n : Nat) (E : Nat → Nat → Prop) (m : Nat) (T : Nat → Nat → Nat) (P L R A : Nat → Nat) (d : Nat) : Prop :=
  (∀ p, p < d → Tr X Y n E (L p) (R p) (A p)) ∧ (∀ p, p < d → at2 m T (R p) (L p) (P p)) ∧
  (∀ p, p < d → at2 m T (L p) (R p) (P (p + 1)) ∧ at2 m T (R p) (A p) (P (p + 1)) ∧ at2 m T (A p) (L p) (P (p + 1))) ∧
  (∀ p, p + 1 < d → (R (p + 1) = R p ∧ L (p + 1) = A p) ∨ (L (p + 1) = L p ∧ R (p + 1) = A p)) ∧
  (∀ p q, p ≤ d → q ≤ d → P p = P q → p = q)
theorem Dr.fanR {X Y : Nat → Int} {n m d : Nat} {E : Nat → Nat → Prop} {T : Nat → Nat → Nat} {P L R A : Nat → Nat} (hM : Mx X Y n E) (hT : TL X Y n E m T) (h : Dr X Y n E m T P L R A d) {u t q p : Nat} (hq : q + 1 ≤ p) (hp : p < d) (hR : ∀ i, q ≤ i → i ≤ p → R i = t) (h1 : 0 ≤ (ar X Y u t (L q))) (h2 : (ar X Y u t (L (q + 1))) < 0) : FN X Y u t (L p) (A p) := by
  obtain ⟨d1, d2, d3, d4, d5⟩ := h
  have eq : R q = t := hR q (Nat.le_refl _) (by omega)
  have eq1 : R (q + 1) = t := hR (q + 1) (by omega) hq
  have ep : R p = t := hR p (by omega) (Nat.le_refl _)
  have ea : L (q + 1) = A q := by
    rcases d4 q (by omega) with k | k
    · exact k.2
    · have := (d1 q (by omega)).ne
      rw [eq1] at k
      rw [eq, ← k.2] at this
      exact absurd rfl this.2.1
  have t1 := (d1 q (by omega)).rot
  rw [eq, ← ea] at t1
  have t2 := (d1 p hp).rot
  rw [ep] at t2
  refine fan hM t1 t2 (fun k => ?_) (fun k => ?_) h1 h2
  · have a1 := (d3 q (by omega)).2.1
    have a2 := (d3 p hp).2.1
    rw [eq, ← ea, k] at a1
    rw [ep] at a2
    have := d5 (q + 1) (p + 1) (by omega) (by omega) (at2_uniq hT a1 a2)
    omega
  · have a1 := d2 q (by omega)
    have a2 := (d3 p hp).2.1
    rw [eq, k] at a1
    rw [ep] at a2
    have := d5 q (p + 1) (by omega) (by omega) (at2_uniq hT a1 a2)
    omega
theorem Dr.fanL {X Y : Nat → Int} {n m d : Nat} {E : Nat → Nat → Prop} {T : Nat → Nat → Nat} {P L R A : Nat → Nat} (hM : Mx X Y n E) (hT : TL X Y n E m T) (h : Dr X Y n E m T P L R A d) {u t q p : Nat} (hq : q + 1 ≤ p) (hp : p < d) (hL : ∀ i, q ≤ i → i ≤ p → L i = t) (h1 : (ar X Y u t (R q)) ≤ 0) (h2 : 0 < (ar X Y u t (R (q + 1)))) : FN X Y u t (A p) (R p) := by
  obtain ⟨d1, d2, d3, d4, d5⟩ := h
  have eq : L q = t := hL q (Nat.le_refl _) (by omega)
  have eq1 : L (q + 1) = t := hL (q + 1) (by omega) hq
  have ep : L p = t := hL p (by omega) (Nat.le_refl _)
  have ea : R (q + 1) = A q := by
    rcases d4 q (by omega) with k | k
    · have := (d1 q (by omega)).ne
      rw [eq1] at k
      rw [eq, ← k.2] at this
      exact absurd rfl this.2.2
    · exact k.2
  have t1 := d1 q (by omega)
  rw [eq, ← ea] at t1
  have t2 := d1 p hp
  rw [ep] at t2
  refine fanM hM t1 t2 (fun k => ?_) (fun k => ?_) h1 h2
  · have a1 := (d3 q (by omega)).2.2
    have a2 := (d3 p hp).2.2
    rw [eq, ← ea, k] at a1
    rw [ep] at a2
    have := d5 (q + 1) (p + 1) (by omega) (by omega) (at2_uniq hT a1 a2)
    omega
  · have a1 := d2 q (by omega)
    have a2 := (d3 p hp).2.2
    rw [eq, k] at a1
    rw [ep] at a2
    have := d5 q (p + 1) (by omega) (by omega) (at2_uniq hT a1 a2)
    omega
/-- the doors of the row; the last one is the goal -/
def dL (T : Nat → Nat → Nat) (P S : Nat → Nat) (d q : Nat) : Nat := if q < d then T (P q) ((S q + 1) % 3) else 41
def dR' (T : Nat → Nat → Nat) (P S : Nat → Nat) (d q : Nat) : Nat := if q < d then T (P q) (S q) else 41
def dA (T : Nat → Nat → Nat) (P S : Nat → Nat) (q : Nat) : Nat := T (P (q + 1)) 0 + T (P (q + 1)) 1 + T (P (q + 1)) 2 - T (P q) (S q) - T (P q) ((S q + 1) % 3)
theorem Row.inj {m g a d : Nat} {T : Nat → Nat → Nat} {lk : Nat → Nat → Prop} {P S : Nat → Nat} (h : Row m T lk g a d P S) : ∀ p q, p ≤ d → q ≤ d → P p = P q → p = q := by
  intro p q hp hq e
  have h1 := (h.2.1 p hp).2
  have h2 := (h.2.1 q hq).2
  rw [e] at h1
  have := Ds_uniq h1 h2
  omega
theorem Row.Dr {X Y : Nat → Int} {n m g a d : Nat} {E lk : Nat → Nat → Prop} {T : Nat → Nat → Nat} {P S : Nat → Nat} (hT : TL X Y n E m T) (h : Row m T lk g a d P S) : Dr X Y n E m T P (dL T P S d) (dR' T P S d) (dA T P S) d := by
  have inj := h.inj
  -- the triangle behind door p
  have key : ∀ p, p < d → ∃ k, k < 3 ∧ P (p + 1) < m ∧ T (P (p + 1)) k = dL T P S d p ∧ T (P (p + 1)) ((k + 1) % 3) = dR' T P S d p ∧ T (P (p + 1)) ((k + 2) % 3) = dA T P S p := by
    intro p hp
    obtain ⟨_, h2, _⟩ := (h.2.2 p hp).2
    obtain ⟨_, hj, k, hk, e1, e2⟩ := h2
    refine ⟨k, hk, hj, ?_, ?_, ?_⟩
    · unfold dL; rw [if_pos hp]; exact e1
    · unfold dR'; rw [if_pos hp]; exact e2
    · unfold dA
      rw [← e1, ← e2]
      rcases three hk with q | q | q <;> subst q
      · show T (P (p + 1)) 2 = T (P (p + 1)) 0 + T (P (p + 1)) 1 + T (P (p + 1)) 2 - T (P (p + 1)) 1 - T (P (p + 1)) 0
        omega
      · show T (P (p + 1)) 0 = T (P (p + 1)) 0 + T (P (p + 1)) 1 + T (P (p + 1)) 2 - T (P (p + 1)) 2 - T (P (p + 1)) 1
        omega
      · show T (P (p + 1)) 1 = T (P (p + 1)) 0 + T (P (p + 1)) 1 + T (P (p + 1)) 2 - T (P (p + 1)) 0 - T (P (p + 1)) 2
        omega
  have side : ∀ p, p < d → at2 m T (dR' T P S d p) (dL T P S d p) (P p) := by
    intro p hp
    refine ⟨(h.2.1 p (by omega)).1, S p, (h.2.2 p hp).2.1, ?_, ?_⟩
    · unfold dR'; rw [if_pos hp]
    · unfold dL; rw [if_pos hp]
  refine ⟨?_, side, ?_, ?_, inj⟩
  · intro p hp
    obtain ⟨k, hk, hj, e1, e2, e3⟩ := key p hp
    have := hT.tr hj hk
    rw [e1, e2, e3] at this
    exact this
  · intro p hp
    obtain ⟨k, hk, hj, e1, e2, e3⟩ := key p hp
    refine ⟨⟨hj, k, hk, e1, e2⟩, ⟨hj, (k + 1) % 3, by omega, e2, ?_⟩, ⟨hj, (k + 2) % 3, by omega, e3, ?_⟩⟩
    · rw [← e3]; congr 1; omega
    · rw [← e1]; congr 1; omega
  · intro p hp
    obtain ⟨k, hk, hj, e1, e2, e3⟩ := key p (by omega)
    have hS := (h.2.2 (p + 1) hp).2
    have eR : dR' T P S d (p + 1) = T (P (p + 1)) (S (p + 1)) := by unfold dR'; rw [if_pos hp]
    have eL : dL T P S d (p + 1) = T (P (p + 1)) ((S (p + 1) + 1) % 3) := by unfold dL; rw [if_pos hp]
    have nk : S (p + 1) ≠ k := fun q => by
      obtain ⟨_, h2, _⟩ := hS
      have a1 := h2.2
      rw [q, e1, e2] at a1
      have := inj (p + 2) p (by omega) (by omega) (at2_uniq hT a1 (side p (by omega)))
      omega
    have hS3 := hS.1
    by_cases c : S (p + 1) = (k + 1) % 3
    · left
      rw [eR, eL, c, e2]
      refine ⟨rfl, ?_⟩
      rw [← e3]; congr 1; omega
    · right
      have c2 : S (p + 1) = (k + 2) % 3 := by omega
      rw [eR, eL, c2, e3]
      refine ⟨?_, rfl⟩
      rw [← e1]; congr 1; omega
