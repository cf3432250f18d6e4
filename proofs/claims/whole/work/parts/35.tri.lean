/-! M3: sets of edges that do not cross and take no more; empty triangles -/
def Dst (X Y : Nat → Int) (n : Nat) : Prop := ∀ i j, i < n → j < n → X i = X j → Y i = Y j → i = j
def clr (X Y : Nat → Int) (n a b : Nat) : Prop := ∀ p, p < n → p ≠ a → p ≠ b → ¬ oS X Y a b p
def Mx (X Y : Nat → Int) (n : Nat) (E : Nat → Nat → Prop) : Prop :=
  (∀ a b, E a b → a < n ∧ b < n ∧ a ≠ b ∧ E b a) ∧ (∀ a b, E a b → clr X Y n a b) ∧ (∀ a b c d, E a b → E c d → ¬ crs X Y a b c d) ∧
  (∀ a b, a < n → b < n → a ≠ b → clr X Y n a b → (∀ c d, E c d → ¬ crs X Y a b c d) → E a b)
/-- no point but the corners lies in a, b, c -/
def emp (X Y : Nat → Int) (n a b c : Nat) : Prop := ∀ p, p < n → p ≠ a → p ≠ b → p ≠ c → ¬ (0 ≤ (ar X Y a b p) ∧ 0 ≤ (ar X Y b c p) ∧ 0 ≤ (ar X Y c a p))
def Tr (X Y : Nat → Int) (n : Nat) (E : Nat → Nat → Prop) (a b c : Nat) : Prop := E a b ∧ E b c ∧ E c a ∧ 0 < (ar X Y a b c) ∧ emp X Y n a b c
theorem Dst.nq {X Y : Nat → Int} {n : Nat} (h : Dst X Y n) {a b : Nat} (ha : a < n) (hb : b < n) (hab : a ≠ b) : nq X Y a b := fun k => hab (h a b ha hb k.1 k.2)
theorem fmin {α : Type} (P : α → Prop) (R : α → α → Prop) (ht : ∀ x y, P x → P y → R x y ∨ R y x) (htr : ∀ x y z, P x → P y → P z → R x y → R y z → R x z) : ∀ l : List α, (∃ x, x ∈ l ∧ P x) → ∃ m, m ∈ l ∧ P m ∧ ∀ x, x ∈ l → P x → R m x := by
  intro l
  induction l with
  | nil => intro ⟨x, hx, _⟩; cases hx
  | cons y l ih =>
    intro ⟨x, hx, px⟩
    by_cases hl : ∃ x, x ∈ l ∧ P x
    · obtain ⟨m, hm, pm, km⟩ := ih hl
      by_cases py : P y
      · rcases ht y m py pm with h | h
        · refine ⟨y, List.mem_cons_self, py, fun z hz pz => ?_⟩
          rcases List.mem_cons.mp hz with rfl | hz
          · rcases ht z z pz pz with h | h <;> exact h
          · exact htr y m z py pm pz h (km z hz pz)
        · refine ⟨m, List.mem_cons_of_mem _ hm, pm, fun z hz pz => ?_⟩
          rcases List.mem_cons.mp hz with rfl | hz
          · exact h
          · exact km z hz pz
      · refine ⟨m, List.mem_cons_of_mem _ hm, pm, fun z hz pz => ?_⟩
        rcases List.mem_cons.mp hz with rfl | hz
        · exact absurd pz py
        · exact km z hz pz
    · rcases List.mem_cons.mp hx with rfl | hx
      · refine ⟨x, List.mem_cons_self, px, fun z hz pz => ?_⟩
        rcases List.mem_cons.mp hz with rfl | hz
        · rcases ht z z pz pz with h | h <;> exact h
        · exact absurd ⟨z, hz, pz⟩ hl
      · exact absurd ⟨x, hx, px⟩ hl
theorem fmin1 {n : Nat} (P : Nat → Prop) (R : Nat → Nat → Prop) (ht : ∀ x y, P x → P y → R x y ∨ R y x) (htr : ∀ x y z, P x → P y → P z → R x y → R y z → R x z) (h : ∃ x, x < n ∧ P x) : ∃ m, m < n ∧ P m ∧ ∀ x, x < n → P x → R m x := by
  obtain ⟨x, hx, px⟩ := h
  obtain ⟨m, hm, pm, k⟩ := fmin P R ht htr (List.range n) ⟨x, List.mem_range.mpr hx, px⟩
  exact ⟨m, List.mem_range.mp hm, pm, fun y hy py => k y (List.mem_range.mpr hy) py⟩
theorem fmin2 {n : Nat} (P : Nat × Nat → Prop) (R : Nat × Nat → Nat × Nat → Prop) (ht : ∀ x y, P x → P y → R x y ∨ R y x) (htr : ∀ x y z, P x → P y → P z → R x y → R y z → R x z) (h : ∃ a b, a < n ∧ b < n ∧ P (a, b)) : ∃ a b, a < n ∧ b < n ∧ P (a, b) ∧ ∀ c d, c < n → d < n → P (c, d) → R (a, b) (c, d) := by
  obtain ⟨a, b, ha, hb, px⟩ := h
  have hm : ∀ c d, c < n → d < n → (c, d) ∈ (List.range n).flatMap (fun a => (List.range n).map (fun b => (a, b))) := fun c d hc hd =>
    List.mem_flatMap.mpr ⟨c, List.mem_range.mpr hc, List.mem_map.mpr ⟨d, List.mem_range.mpr hd, rfl⟩⟩
  obtain ⟨m, mm, pm, k⟩ := fmin P R ht htr _ ⟨(a, b), hm a b ha hb, px⟩
  obtain ⟨c, hc, hd⟩ := List.mem_flatMap.mp mm
  obtain ⟨d, hd2, rfl⟩ := List.mem_map.mp hd
  exact ⟨c, d, List.mem_range.mp hc, List.mem_range.mp hd2, pm, fun u v hu hv pu => k _ (hm u v hu hv) pu⟩
/-- a clear segment that comes in by an empty triangle's edge ends at its third corner or goes out by one of the other two -/
theorem NB {X Y : Nat → Int} {n p q r a b : Nat} (hA : 0 < (ar X Y p q r)) (hb : b < n) (hr : r < n) (hE : emp X Y n p q r) (hc : clr X Y n a b) (hx : cx X Y a b q p) :
    r = b ∨ (0 < (ar X Y a b r) ∧ cx X Y a b q r) ∨ ((ar X Y a b r) < 0 ∧ cx X Y a b r p) := by
  by_cases hrb : r = b
  · exact Or.inl hrb
  right
  obtain ⟨x1, x2, x3, x4⟩ := hx
  have y3 := ar_s X Y p q a
  have y4 := ar_s X Y p q b
  have nb := hE b hb (fun h => by rw [← h, ar_yxx] at x2; omega) (fun h => by rw [← h, ar_yxx] at x1; omega) (fun h => hrb h.symm)
  have B : (ar X Y p q r) * (ar X Y a b b) = (ar X Y q r b) * (ar X Y a b p) + (ar X Y r p b) * (ar X Y a b q) + (ar X Y p q b) * (ar X Y a b r) := bary (aff_ar X Y a b) p q r b
  rw [ar_yxx X Y a b, Int.mul_zero] at B
  have c1 : (ar X Y a b p) * (ar X Y q r q) - (ar X Y a b q) * (ar X Y q r p) = (ar X Y p q b) * (ar X Y q r a) - (ar X Y p q a) * (ar X Y q r b) := CR (aff_ar X Y q r) a b p q
  have c2 : (ar X Y a b p) * (ar X Y r p q) - (ar X Y a b q) * (ar X Y r p p) = (ar X Y p q b) * (ar X Y r p a) - (ar X Y p q a) * (ar X Y r p b) := CR (aff_ar X Y r p) a b p q
  rw [ar_xyx X Y q r, Int.mul_zero, ← ar_c X Y p q r] at c1
  rw [ar_yxx X Y r p, Int.mul_zero, ar_c X Y r p q] at c2
  have m1 := mnp x1 hA
  have m2 := mpp x2 hA
  have pa : (ar X Y p q a) < 0 := by omega
  have pb : 0 < (ar X Y p q b) := by omega
  have k1 : (ar X Y q r b) < 0 → 0 < (ar X Y q r a) := fun h => by
    have := mNN pa h
    exact cpos pb (by omega)
  have k2 : (ar X Y r p b) < 0 → 0 < (ar X Y r p a) := fun h => by
    have := mNN pa h
    exact cpos pb (by omega)
  rcases Int.lt_trichotomy (ar X Y a b r) 0 with h | h | h
  · right
    have m3 := mpn pb h
    have h2 : (ar X Y r p b) < 0 := Decidable.byContradiction fun k => by
      have := zpn (show 0 ≤ (ar X Y r p b) by omega) (Int.le_of_lt x1)
      have : 0 < (ar X Y q r b) := cpos x2 (by rw [Int.mul_comm]; omega)
      exact nb ⟨by omega, by omega, by omega⟩
    exact ⟨h, h, x2, k2 h2, h2⟩
  · exfalso
    rw [h, Int.mul_zero] at B
    have both : (ar X Y q r b) < 0 := Decidable.byContradiction fun k => by
      have := zpp (show 0 ≤ (ar X Y q r b) by omega) (Int.le_of_lt x2)
      have : 0 ≤ (ar X Y r p b) := Decidable.byContradiction fun k2 => by
        have := mNN (show (ar X Y r p b) < 0 by omega) x1
        omega
      exact nb ⟨by omega, by omega, by omega⟩
    have qa := k1 both
    refine hc r hr (fun e => by rw [e] at hA; omega) hrb (oS_of (aff_ar X Y r q) h ?_ ?_ ?_)
    · show (ar X Y r q a) ≤ (ar X Y r q r)
      rw [ar_xyx]; have := ar_s X Y r q a; omega
    · show (ar X Y r q r) ≤ (ar X Y r q b)
      rw [ar_xyx]; have := ar_s X Y r q b; omega
    · show (ar X Y r q a) < (ar X Y r q b)
      have := ar_s X Y r q a; have := ar_s X Y r q b; omega
  · left
    have m3 := mpp pb h
    have h2 : (ar X Y q r b) < 0 := Decidable.byContradiction fun k => by
      have := zpp (show 0 ≤ (ar X Y q r b) by omega) (Int.le_of_lt x2)
      have : 0 ≤ (ar X Y r p b) := Decidable.byContradiction fun k2 => by
        have := mNN (show (ar X Y r p b) < 0 by omega) x1
        omega
      exact nb ⟨by omega, by omega, by omega⟩
    exact ⟨h, x1, h, k1 h2, h2⟩
theorem exit3 {x1 x2 x3 p1 p2 p3 : Int} (h1 : 0 < x1) (h2 : 0 < x2) (h3 : 0 < x3) (h : ¬ (0 ≤ p1 ∧ 0 ≤ p2 ∧ 0 ≤ p3)) :
    (p1 < 0 ∧ 0 ≤ x1 * p2 - p1 * x2 ∧ 0 ≤ x1 * p3 - p1 * x3) ∨ (p2 < 0 ∧ 0 ≤ x2 * p3 - p2 * x3 ∧ 0 ≤ x2 * p1 - p2 * x1) ∨ (p3 < 0 ∧ 0 ≤ x3 * p1 - p3 * x1 ∧ 0 ≤ x3 * p2 - p3 * x2) := by
  let R : Int × Int → Int × Int → Prop := fun u v => u.2 * v.1 ≤ v.2 * u.1
  have tr : ∀ u v w : Int × Int, 0 < u.1 → 0 < v.1 → 0 < w.1 → R u v → R v w → R u w := by
    intro u v w hu hv hw a b
    show u.2 * w.1 ≤ w.2 * u.1
    have a1 := Int.mul_le_mul_of_nonneg_right (show u.2 * v.1 ≤ v.2 * u.1 from a) (Int.le_of_lt hw)
    have b1 := Int.mul_le_mul_of_nonneg_right (show v.2 * w.1 ≤ w.2 * v.1 from b) (Int.le_of_lt hu)
    have e1 : u.2 * v.1 * w.1 = v.1 * (u.2 * w.1) := by grind
    have e2 : v.2 * u.1 * w.1 = v.2 * w.1 * u.1 := by grind
    have e3 : w.2 * v.1 * u.1 = v.1 * (w.2 * u.1) := by grind
    exact Int.le_of_mul_le_mul_left (show v.1 * (u.2 * w.1) ≤ v.1 * (w.2 * u.1) by omega) hv
  obtain ⟨m, hm, pm, k⟩ := fmin (fun u : Int × Int => 0 < u.1) R (fun u v _ _ => Int.le_total _ _) tr [(x1, p1), (x2, p2), (x3, p3)] ⟨(x1, p1), List.mem_cons_self, h1⟩
  have k1 := k (x1, p1) (by simp) h1
  have k2 := k (x2, p2) (by simp) h2
  have k3 := k (x3, p3) (by simp) h3
  have neg : m.2 < 0 := Decidable.byContradiction fun hn => h (by
    have g : ∀ {x p : Int}, 0 < x → R m (x, p) → 0 ≤ p := by
      intro x p hx hr
      have := zpp (show 0 ≤ m.2 by omega) (Int.le_of_lt hx)
      have hr' : m.2 * x ≤ p * m.1 := hr
      exact cnn pm (by rw [Int.mul_comm]; omega)
    exact ⟨g h1 k1, g h2 k2, g h3 k3⟩)
  have k1' : m.2 * x1 ≤ p1 * m.1 := k1
  have k2' : m.2 * x2 ≤ p2 * m.1 := k2
  have k3' : m.2 * x3 ≤ p3 * m.1 := k3
  rw [Int.mul_comm p1] at k1'
  rw [Int.mul_comm p2] at k2'
  rw [Int.mul_comm p3] at k3'
  rcases List.mem_cons.mp hm with rfl | hm
  · exact Or.inl ⟨neg, by simp only at *; omega, by simp only at *; omega⟩
  rcases List.mem_cons.mp hm with rfl | hm
  · exact Or.inr (Or.inl ⟨neg, by simp only at *; omega, by simp only at *; omega⟩)
  rcases List.mem_cons.mp hm with rfl | hm
  · exact Or.inr (Or.inr ⟨neg, by simp only at *; omega, by simp only at *; omega⟩)
  · cases hm
theorem thru1 {X Y : Nat → Int} {a b c p q : Nat} {α β : Int} (hA : 0 < (ar X Y a b c)) (hα : 0 ≤ α) (hβ : 0 < β) (h1 : 0 < α * (ar X Y a b p) + β * (ar X Y a b q)) (n1 : (ar X Y a b p) < 0)
    (g2 : 0 ≤ (α * (ar X Y a b p) + β * (ar X Y a b q)) * (ar X Y b c p) - (ar X Y a b p) * (α * (ar X Y b c p) + β * (ar X Y b c q))) (g3 : 0 ≤ (α * (ar X Y a b p) + β * (ar X Y a b q)) * (ar X Y c a p) - (ar X Y a b p) * (α * (ar X Y c a p) + β * (ar X Y c a q)))
    (ha : a ≠ q → ¬ oS X Y p q a) (hb : b ≠ q → ¬ oS X Y p q b) : cx X Y a b p q := by
  have t1 := TT (X := X) (Y := Y) a b c p q
  have t2 := TT (X := X) (Y := Y) b c a p q
  rw [← ar_c X Y a b c] at t2
  have q1 : 0 < (ar X Y a b q) := by
    have := zpn hα (Int.le_of_lt n1)
    exact cpos hβ (by omega)
  have e3 : (α * (ar X Y a b p) + β * (ar X Y a b q)) * (ar X Y c a p) - (ar X Y a b p) * (α * (ar X Y c a p) + β * (ar X Y c a q)) = β * ((ar X Y a b c) * (ar X Y p q a)) := by
    rw [show (ar X Y a b c) * (ar X Y p q a) = (ar X Y a b q) * (ar X Y c a p) - (ar X Y a b p) * (ar X Y c a q) by omega]; grind
  have e2 : (α * (ar X Y a b p) + β * (ar X Y a b q)) * (ar X Y b c p) - (ar X Y a b p) * (α * (ar X Y b c p) + β * (ar X Y b c q)) = β * ((ar X Y a b c) * -(ar X Y p q b)) := by
    rw [Int.mul_neg, show -((ar X Y a b c) * (ar X Y p q b)) = (ar X Y b c p) * (ar X Y a b q) - (ar X Y b c q) * (ar X Y a b p) by omega]; grind
  rw [e3] at g3
  rw [e2] at g2
  have z1 := cnn hA (cnn hβ g3)
  have z2 := cnn hA (cnn hβ g2)
  refine side_cx n1 q1 z1 (by omega) (ha fun e => ?_) (hb fun e => ?_)
  · rw [← e, ar_xyx] at q1; omega
  · rw [← e, ar_yxx] at q1; omega
/-- from inside a triangle to a point outside of it: through one of its sides -/
theorem thru {X Y : Nat → Int} {a b c p q : Nat} {α β : Int} (hA : 0 < (ar X Y a b c)) (hα : 0 ≤ α) (hβ : 0 < β) (h1 : 0 < α * (ar X Y a b p) + β * (ar X Y a b q)) (h2 : 0 < α * (ar X Y b c p) + β * (ar X Y b c q)) (h3 : 0 < α * (ar X Y c a p) + β * (ar X Y c a q))
    (hp : ¬ (0 ≤ (ar X Y a b p) ∧ 0 ≤ (ar X Y b c p) ∧ 0 ≤ (ar X Y c a p))) (ha : a ≠ q → ¬ oS X Y p q a) (hb : b ≠ q → ¬ oS X Y p q b) (hc : c ≠ q → ¬ oS X Y p q c) : cx X Y a b p q ∨ cx X Y b c p q ∨ cx X Y c a p q := by
  rcases exit3 h1 h2 h3 hp with ⟨n, g, g'⟩ | ⟨n, g, g'⟩ | ⟨n, g, g'⟩
  · exact Or.inl (thru1 hA hα hβ h1 n g g' ha hb)
  · exact Or.inr (Or.inl (thru1 (by rw [← ar_c X Y a b c]; exact hA) hα hβ h2 n g g' hb hc))
  · exact Or.inr (Or.inr (thru1 (by rw [ar_c X Y c a b]; exact hA) hα hβ h3 n g g' hc ha))
