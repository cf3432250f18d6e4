/-! a turn is no straight place -/
/-- the way u, v, w bends at v -/
def NS (X Y : Nat → Int) (u v w : Nat) : Prop := ¬ pe X Y u v ∧ ¬ pe X Y v w ∧ ¬ ((ar X Y u v w) = 0 ∧ 0 ≤ (X v - X u) * (X w - X v) + (Y v - Y u) * (Y w - Y v))
/-- x lies between lam and rho, seen from t -/
def CN (X Y : Nat → Int) (t lam rho x : Nat) : Prop := ∃ α β γ : Int, 0 ≤ α ∧ 0 ≤ β ∧ 0 < α + β ∧ 0 < γ ∧ γ * (X x - X t) = α * (X lam - X t) + β * (X rho - X t) ∧ γ * (Y x - Y t) = α * (Y lam - Y t) + β * (Y rho - Y t)
/-- the way from u to t, going on, does not lie between lam and rho -/
def FN (X Y : Nat → Int) (u t lam rho : Nat) : Prop := ∀ α β c : Int, 0 ≤ α → 0 ≤ β → 0 < α + β → 0 < c → ¬ (α * (X lam - X t) + β * (X rho - X t) = c * (X t - X u) ∧ α * (Y lam - Y t) + β * (Y rho - Y t) = c * (Y t - Y u))
theorem NS.of {X Y : Nat → Int} {u v w : Nat} (h : (ar X Y u v w) ≠ 0) : NS X Y u v w := by
  refine ⟨fun k => h ?_, fun k => h ?_, fun k => h k.1⟩
  · rw [pe_ar k]; unfold ar; grind
  · unfold ar; rw [k.1, k.2]; grind
theorem CN.l (X Y : Nat → Int) (t lam rho : Nat) : CN X Y t lam rho lam := ⟨1, 0, 1, by decide, by decide, by decide, by decide, by omega, by omega⟩
theorem CN.r (X Y : Nat → Int) (t lam rho : Nat) : CN X Y t lam rho rho := ⟨0, 1, 1, by decide, by decide, by decide, by decide, by omega, by omega⟩
theorem lin2 {p q x1 y1 x2 y2 x3 y3 α β γ : Int} (hx : α * x1 + β * x2 = γ * x3) (hy : α * y1 + β * y2 = γ * y3) : α * (p * y1 - q * x1) + β * (p * y2 - q * x2) = γ * (p * y3 - q * x3) := by
  have e : α * (p * y1 - q * x1) + β * (p * y2 - q * x2) = p * (α * y1 + β * y2) - q * (α * x1 + β * x2) := by grind
  rw [e, hx, hy]
  grind
theorem mixs {a b g1 g2 p1 q1 p2 q2 x y l r c f : Int} (h1 : g1 * x = p1 * l + q1 * r) (h2 : g2 * y = p2 * l + q2 * r) (h : a * x + b * y = c * f) : (a * g2 * p1 + b * g1 * p2) * l + (a * g2 * q1 + b * g1 * q2) * r = (c * (g1 * g2)) * f := by
  have e : (a * g2 * p1 + b * g1 * p2) * l + (a * g2 * q1 + b * g1 * q2) * r = a * g2 * (p1 * l + q1 * r) + b * g1 * (p2 * l + q2 * r) := by grind
  rw [e, ← h1, ← h2]
  have e2 : a * g2 * (g1 * x) + b * g1 * (g2 * y) = (a * x + b * y) * (g1 * g2) := by grind
  rw [e2, h]
  grind
theorem FN.into {X Y : Nat → Int} {u t lam rho x y : Nat} (h : FN X Y u t lam rho) (hx : CN X Y t lam rho x) (hy : CN X Y t lam rho y) : FN X Y u t x y := by
  intro a b c ha hb hab hc ⟨k1, k2⟩
  obtain ⟨p1, q1, g1, a1, a2, a3, a4, a5, a6⟩ := hx
  obtain ⟨p2, q2, g2, b1, b2, b3, b4, b5, b6⟩ := hy
  have n1 := zpp ha (Int.le_of_lt b4)
  have n2 := zpp hb (Int.le_of_lt a4)
  have m1 := zpp n1 a1
  have m2 := zpp n1 a2
  have m3 := zpp n2 b1
  have m4 := zpp n2 b2
  refine h (a * g2 * p1 + b * g1 * p2) (a * g2 * q1 + b * g1 * q2) (c * (g1 * g2)) (by omega) (by omega) ?_ (mpp hc (mpp a4 b4)) ⟨mixs a5 b5 k1, mixs a6 b6 k2⟩
  have e : a * g2 * p1 + b * g1 * p2 + (a * g2 * q1 + b * g1 * q2) = a * g2 * (p1 + q1) + b * g1 * (p2 + q2) := by grind
  rw [e]
  have s1 := zpp n1 (Int.le_of_lt a3)
  have s2 := zpp n2 (Int.le_of_lt b3)
  by_cases c0 : 0 < a
  · have := mpp (mpp c0 b4) a3
    omega
  · have := mpp (mpp (show 0 < b by omega) a4) b3
    omega
theorem FN.ns {X Y : Nat → Int} {u t x : Nat} (h : FN X Y u t x x) (h1 : ¬ pe X Y u t) (h2 : ¬ pe X Y t x) : NS X Y u t x := by
  refine ⟨h1, h2, fun ⟨k1, k2⟩ => ?_⟩
  have hA : 0 < (X t - X u) * (X t - X u) + (Y t - Y u) * (Y t - Y u) := sq_pos (a := u) (b := t) h1
  have z : (X t - X u) * (Y x - Y t) - (Y t - Y u) * (X x - X t) = 0 := by rw [← k1]; unfold ar; grind
  generalize ep : X t - X u = p at *
  generalize eq : Y t - Y u = q at *
  have e1 : (p * p + q * q) * (X x - X t) = (p * (X x - X t) + q * (Y x - Y t)) * p := by
    have : (p * p + q * q) * (X x - X t) = (p * (X x - X t) + q * (Y x - Y t)) * p - q * (p * (Y x - Y t) - q * (X x - X t)) := by grind
    rw [z, Int.mul_zero, Int.sub_zero] at this
    exact this
  have e2 : (p * p + q * q) * (Y x - Y t) = (p * (X x - X t) + q * (Y x - Y t)) * q := by
    have : (p * p + q * q) * (Y x - Y t) = (p * (X x - X t) + q * (Y x - Y t)) * q + p * (p * (Y x - Y t) - q * (X x - X t)) := by grind
    rw [z, Int.mul_zero, Int.add_zero] at this
    exact this
  have hD : 0 < p * (X x - X t) + q * (Y x - Y t) := by
    refine Decidable.byContradiction fun k => h2 ?_
    have d0 : p * (X x - X t) + q * (Y x - Y t) = 0 := by omega
    rw [d0, Int.zero_mul] at e1 e2
    rcases Int.mul_eq_zero.mp e1 with w | w
    · omega
    · rcases Int.mul_eq_zero.mp e2 with w2 | w2
      · omega
      · exact ⟨by omega, by omega⟩
  refine h (p * p + q * q) 0 (p * (X x - X t) + q * (Y x - Y t)) (Int.le_of_lt hA) (Int.le_refl _) (by omega) hD ⟨?_, ?_⟩
  · rw [Int.zero_mul, Int.add_zero, ep]
    exact e1
  · rw [Int.zero_mul, Int.add_zero, eq]
    exact e2
theorem ar_ut (X Y : Nat → Int) (u t x : Nat) : (ar X Y u t x) = (X t - X u) * (Y x - Y t) - (Y t - Y u) * (X x - X t) := by unfold ar; grind
/-- both on one side -/
theorem FN.side {X Y : Nat → Int} {u t lam rho : Nat} (h : ((ar X Y u t lam) < 0 ∧ (ar X Y u t rho) < 0) ∨ (0 < (ar X Y u t lam) ∧ 0 < (ar X Y u t rho))) : FN X Y u t lam rho := by
  intro α β c ha hb hab hc ⟨k1, k2⟩
  have e := lin2 (p := X t - X u) (q := Y t - Y u) k1 k2
  rw [← ar_ut, ← ar_ut, show (X t - X u) * (Y t - Y u) - (Y t - Y u) * (X t - X u) = 0 by grind, Int.mul_zero] at e
  rcases h with ⟨h1, h2⟩ | ⟨h1, h2⟩
  · have s1 := zpn ha (Int.le_of_lt h1)
    have s2 := zpn hb (Int.le_of_lt h2)
    by_cases q : 0 < α
    · have := mpn q h1; omega
    · have := mpn (show 0 < β by omega) h2; omega
  · have s1 := zpp ha (Int.le_of_lt h1)
    have s2 := zpp hb (Int.le_of_lt h2)
    by_cases q : 0 < α
    · have := mpp q h1; omega
    · have := mpp (show 0 < β by omega) h2; omega
theorem FN.m {X Y : Nat → Int} {u t lam rho : Nat} (h : FN X Y u t lam rho) : FN (mX X) Y u t rho lam := by
  intro α β c ha hb hab hc ⟨k1, k2⟩
  refine h β α c hb ha (by omega) hc ⟨?_, by rw [Int.add_comm]; exact k2⟩
  unfold mX at k1
  grind
theorem aff_pe {X Y f : Nat → Int} (hf : Aff X Y f) {a b : Nat} (h : pe X Y a b) : f a = f b := by
  obtain ⟨u, v, w, e⟩ := hf
  rw [e, e, h.1, h.2]
/-- a point in the wedge -/
theorem CN.of {X Y f : Nat → Int} (hf : Aff X Y f) {t lam rho x : Nat} (h0 : f t = 0) (hl : 0 < f lam) (hr : 0 < f rho) (hx : 0 < f x) (h1 : 0 ≤ (ar X Y t rho x)) (h2 : 0 ≤ (ar X Y t x lam)) : CN X Y t lam rho x := by
  have hA := tr_le hf h0 hr hx hl h1 h2
  by_cases c : 0 < (ar X Y t rho lam)
  · have e1 : (ar X Y t rho lam) * (X x - X t) = (ar X Y t rho x) * (X lam - X t) + (ar X Y t x lam) * (X rho - X t) := by unfold ar; grind
    have e2 : (ar X Y t rho lam) * (Y x - Y t) = (ar X Y t rho x) * (Y lam - Y t) + (ar X Y t x lam) * (Y rho - Y t) := by unfold ar; grind
    refine ⟨(ar X Y t rho x), (ar X Y t x lam), (ar X Y t rho lam), h1, h2, ?_, c, e1, e2⟩
    refine Decidable.byContradiction fun k => ?_
    have z1 : (ar X Y t rho x) = 0 := by omega
    have z2 : (ar X Y t x lam) = 0 := by omega
    rw [z1, z2, Int.zero_mul, Int.zero_mul] at e1 e2
    rcases Int.mul_eq_zero.mp e1 with w | w
    · omega
    · rcases Int.mul_eq_zero.mp e2 with w2 | w2
      · omega
      · have := aff_pe hf (show pe X Y x t from ⟨by omega, by omega⟩)
        omega
  · have hz : (ar X Y t rho lam) = 0 := by omega
    have e := tr3 hf h0 rho x lam
    rw [hz, Int.mul_zero] at e
    have s1 := zpp (Int.le_of_lt hr) h2
    have s2 := zpp (Int.le_of_lt hl) h1
    have z : (ar X Y t rho x) = 0 := by
      rcases Int.mul_eq_zero.mp (show f lam * (ar X Y t rho x) = 0 by omega) with w | w
      · omega
      · exact w
    obtain ⟨u, v, w, ef⟩ := hf
    have z' : (X rho - X t) * (Y x - Y t) - (Y rho - Y t) * (X x - X t) = 0 := by rw [← z]; unfold ar; grind
    have g : ∀ y, f y = u * (X y - X t) + v * (Y y - Y t) := fun y => by
      have a1 := ef y
      have a2 := ef t
      rw [h0] at a2
      rw [a1]
      grind
    have r1 := g rho
    have r2 := g x
    refine ⟨0, f x, f rho, Int.le_refl _, Int.le_of_lt hx, by omega, hr, ?_, ?_⟩
    · rw [r1, r2]
      have : (u * (X rho - X t) + v * (Y rho - Y t)) * (X x - X t) = 0 * (X lam - X t) + (u * (X x - X t) + v * (Y x - Y t)) * (X rho - X t) - v * ((X rho - X t) * (Y x - Y t) - (Y rho - Y t) * (X x - X t)) := by grind
      rw [z', Int.mul_zero, Int.sub_zero] at this
      exact this
    · rw [r1, r2]
      have : (u * (X rho - X t) + v * (Y rho - Y t)) * (Y x - Y t) = 0 * (Y lam - Y t) + (u * (X x - X t) + v * (Y x - Y t)) * (Y rho - Y t) + u * ((X rho - X t) * (Y x - Y t) - (Y rho - Y t) * (X x - X t)) := by grind
      rw [z', Int.mul_zero, Int.add_zero] at this
      exact this
