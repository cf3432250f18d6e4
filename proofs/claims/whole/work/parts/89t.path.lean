/-! the way bends at every turn: step by step -/
def PN (X Y : Nat → Int) : List Nat → Prop
  | a :: b :: c :: r => NS X Y a b c ∧ PN X Y (b :: c :: r)
  | _ => True
theorem PN_at {X Y : Nat → Int} : ∀ (l : List Nat) (i a b c : Nat), PN X Y l → l[i]? = some a → l[i + 1]? = some b → l[i + 2]? = some c → NS X Y a b c := by
  intro l
  induction l with
  | nil => intro i a b c _ h; simp at h
  | cons x l ih =>
    intro i a b c hP ha hb hc
    cases l with
    | nil => simp at hb
    | cons y l =>
      cases l with
      | nil => simp at hc
      | cons z l =>
        obtain ⟨p1, p2⟩ := hP
        cases i with
        | zero =>
          have e1 : x = a := by simpa using ha
          have e2 : y = b := by simpa using hb
          have e3 : z = c := by simpa using hc
          rw [← e1, ← e2, ← e3]
          exact p1
        | succ i => exact ih i a b c p2 ha hb hc
theorem PN_app {X Y : Nat → Int} {t : Nat} {es : List Nat} (h2 : PN X Y (t :: es)) : ∀ m, PN X Y (m ++ [t]) → (∀ m' u e r, m = m' ++ [u] → es = e :: r → NS X Y u t e) → PN X Y (m ++ t :: es) := by
  intro m
  induction m with
  | nil => intro _ _; exact h2
  | cons a m ih =>
    intro h1 h3
    have i1 := ih (by cases m with
      | nil => trivial
      | cons b m => cases m with
        | nil => trivial
        | cons c m => exact h1.2) (fun m' u e r k1 k2 => h3 (a :: m') u e r (by rw [k1]; rfl) k2)
    cases m with
    | nil =>
      cases es with
      | nil => exact trivial
      | cons e r => exact ⟨h3 [] a e r rfl rfl, i1⟩
    | cons b m =>
      cases m with
      | nil => exact ⟨h1.1, i1⟩
      | cons c m => exact ⟨h1.1, i1⟩
/-- the tip t after u: where the way goes on it bends -/
def Kp (X Y : Nat → Int) (L R : Nat → Nat) (p u t : Nat) (cl cr : List Nat) : Prop := ¬ pe X Y u t ∧ (∀ lam l' rho r', cl = lam :: l' → cr = rho :: r' → FN X Y u t lam rho ∧ ∃ f, Aff X Y f ∧ f t = 0 ∧ 0 < f lam ∧ 0 < f rho) ∧ (cr = [] → ∃ q, q + 1 ≤ p ∧ (∀ i, q ≤ i → i ≤ p → R i = t) ∧ 0 ≤ (ar X Y u t (L q)) ∧ (ar X Y u t (L (q + 1))) < 0) ∧ (cl = [] → ∃ q, q + 1 ≤ p ∧ (∀ i, q ≤ i → i ≤ p → L i = t) ∧ (ar X Y u t (R q)) ≤ 0 ∧ 0 < (ar X Y u t (R (q + 1))))
theorem Kp.m {X Y : Nat → Int} {L R : Nat → Nat} {p u t : Nat} {cl cr : List Nat} (h : Kp X Y L R p u t cl cr) : Kp (mX X) Y R L p u t cr cl := by
  obtain ⟨h1, h2, h3, h4⟩ := h
  refine ⟨fun k => h1 ⟨?_, k.2⟩, fun lam l' rho r' e1 e2 => ?_, fun e => ?_, fun e => ?_⟩
  · have : -X u = -X t := k.1
    omega
  · obtain ⟨q, f, f1, f2, f3, f4⟩ := h2 rho r' lam l' e2 e1
    exact ⟨q.m, f, aff_m f1, f2, f4, f3⟩
  · obtain ⟨q, q1, q2, q3, q4⟩ := h4 e
    exact ⟨q, q1, q2, by rw [ar_m]; omega, by rw [ar_m]; omega⟩
  · obtain ⟨q, q1, q2, q3, q4⟩ := h3 e
    exact ⟨q, q1, q2, by rw [ar_m]; omega, by rw [ar_m]; omega⟩
theorem Kp.m' {X Y : Nat → Int} {L R : Nat → Nat} {p u t : Nat} {cl cr : List Nat} (h : Kp (mX X) Y R L p u t cr cl) : Kp X Y L R p u t cl cr := by
  have := h.m
  rw [mXX] at this
  exact this
theorem pe_m {X Y : Nat → Int} {a b : Nat} : pe (mX X) Y a b ↔ pe X Y a b := by
  unfold pe mX
  constructor
  · intro ⟨h1, h2⟩; exact ⟨by omega, h2⟩
  · intro ⟨h1, h2⟩; exact ⟨by omega, h2⟩
theorem NS.m {X Y : Nat → Int} {u v w : Nat} (h : NS (mX X) Y u v w) : NS X Y u v w := by
  obtain ⟨h1, h2, h3⟩ := h
  refine ⟨fun k => h1 (pe_m.mpr k), fun k => h2 (pe_m.mpr k), fun k => h3 ⟨by rw [ar_m]; omega, ?_⟩⟩
  unfold mX
  have : (-X v - -X u) * (-X w - -X v) = (X v - X u) * (X w - X v) := by grind
  rw [this]
  exact k.2
theorem PN.m {X Y : Nat → Int} : ∀ l : List Nat, PN (mX X) Y l → PN X Y l := by
  intro l
  induction l with
  | nil => intro h; exact trivial
  | cons a l ih =>
    intro h
    cases l with
    | nil => exact trivial
    | cons b l =>
      cases l with
      | nil => exact trivial
      | cons c l => exact ⟨h.1.m, ih h.2⟩
theorem prl {X Y f g : Nat → Int} (hf : Aff X Y f) (hg : Aff X Y g) {t a x : Nat} (f0 : f t = 0) (g0 : g t = 0) (hz : (ar X Y t a x) = 0) : f a * g x = f x * g a := by
  obtain ⟨u, v, w, e⟩ := hf
  obtain ⟨u', v', w', e'⟩ := hg
  have z : (X a - X t) * (Y x - Y t) - (Y a - Y t) * (X x - X t) = 0 := by rw [← hz]; unfold ar; grind
  have h1 : ∀ y, f y = u * (X y - X t) + v * (Y y - Y t) := fun y => by
    have a1 := e y
    have a2 := e t
    rw [f0] at a2
    rw [a1]
    grind
  have h2 : ∀ y, g y = u' * (X y - X t) + v' * (Y y - Y t) := fun y => by
    have a1 := e' y
    have a2 := e' t
    rw [g0] at a2
    rw [a1]
    grind
  rw [h1 a, h1 x, h2 a, h2 x]
  have : (u * (X a - X t) + v * (Y a - Y t)) * (u' * (X x - X t) + v' * (Y x - Y t)) - (u * (X x - X t) + v * (Y x - Y t)) * (u' * (X a - X t) + v' * (Y a - Y t)) = (u * v' - v * u') * ((X a - X t) * (Y x - Y t) - (Y a - Y t) * (X x - X t)) := by grind
  rw [z, Int.mul_zero] at this
  omega
/-- lam, rho and the new end in one half plane -/
theorem see.cn {X Y : Nat → Int} {v L R lam rho w : Nat} (h : see X Y v L R lam rho) (hw : 0 < (ar X Y L R w)) (hn : 0 ≤ (ar X Y v rho w)) (hl : (ar X Y v lam w) ≤ 0) : ∃ f, Aff X Y f ∧ f v = 0 ∧ 0 < f lam ∧ 0 < f rho ∧ 0 < f w := by
  by_cases c : 0 < (ar X Y v R L)
  · obtain ⟨g1, g2⟩ := h.G c
    exact ⟨dg X Y v L R, dg_aff X Y v L R, dg_v X Y v L R, g1, g2, by rw [dg_w]; omega⟩
  · have hA := h.A
    obtain ⟨g, a1, a2, a3, a4, a5, a6, _⟩ := (h.stepL hw hn).2 hl
    obtain ⟨f, hf, h0, h1, h2, h3, h4, h5, h6, h7⟩ := h
    have zlam : (ar X Y v R lam) = 0 := by
      have := tr_le hf h0 h2 h4 h3 h5 h6
      refine Decidable.byContradiction fun k => ?_
      have := tr_lt1 hf h0 h2 h3 h1 (show 0 < (ar X Y v R lam) by omega) h7
      omega
    refine ⟨g, a1, a2, ?_, a6, a5⟩
    have e := prl hf a1 h0 a2 zlam
    have := mpp h3 a4
    exact cpos h2 (by omega)
