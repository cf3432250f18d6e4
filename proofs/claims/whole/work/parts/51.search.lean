/-! M2: the searches of class and reference -/
theorem sgn_mul (x y : Int) : (0 : Int32) ≤ sgn x * sgn y ↔ ¬ x * y < 0 := by
  unfold sgn
  rcases Int.lt_trichotomy x 0 with hx | hx | hx <;> rcases Int.lt_trichotomy y 0 with hy | hy | hy
  · rw [if_neg (by omega), if_pos hx, if_neg (by omega), if_pos hy]
    have := mNN hx hy
    exact ⟨fun _ => by omega, fun _ => by decide⟩
  · rw [if_neg (by omega), if_pos hx, if_neg (by omega), if_neg (by omega), hy, Int.mul_zero]
    exact ⟨fun _ => by omega, fun _ => by decide⟩
  · rw [if_neg (by omega), if_pos hx, if_pos hy]
    have := mnp hx hy
    exact ⟨fun h => absurd h (by decide), fun h => absurd this h⟩
  · rw [if_neg (by omega), if_neg (by omega), hx, Int.zero_mul]
    refine ⟨fun _ => by omega, fun _ => ?_⟩
    rw [Int32.zero_mul]; decide
  · rw [if_neg (by omega), if_neg (by omega), hx, Int.zero_mul]
    refine ⟨fun _ => by omega, fun _ => ?_⟩
    rw [Int32.zero_mul]; decide
  · rw [if_neg (by omega), if_neg (by omega), hx, Int.zero_mul]
    refine ⟨fun _ => by omega, fun _ => ?_⟩
    rw [Int32.zero_mul]; decide
  · rw [if_pos hx, if_neg (by omega), if_pos hy]
    have := mpn hx hy
    exact ⟨fun h => absurd h (by decide), fun h => absurd this h⟩
  · rw [if_pos hx, if_neg (by omega), if_neg (by omega), hy, Int.mul_zero]
    exact ⟨fun _ => by omega, fun _ => by decide⟩
  · rw [if_pos hx, if_pos hy]
    have := mpp hx hy
    exact ⟨fun _ => by omega, fun _ => by decide⟩
theorem sgn_le (z : Int) : sgn z ≤ 0 ↔ z ≤ 0 := by
  unfold sgn
  by_cases h : 0 < z
  · rw [if_pos h]; exact ⟨fun h => absurd h (by decide), fun _ => by omega⟩
  · rw [if_neg h]
    by_cases h2 : z < 0
    · rw [if_pos h2]; exact ⟨fun _ => by omega, fun _ => by decide⟩
    · rw [if_neg h2]; exact ⟨fun _ => by omega, fun _ => by decide⟩
theorem sgn_ge (z : Int) : 0 ≤ sgn z ↔ 0 ≤ z := by
  unfold sgn
  by_cases h : 0 < z
  · rw [if_pos h]; exact ⟨fun _ => by omega, fun _ => by decide⟩
  · rw [if_neg h]
    by_cases h2 : z < 0
    · rw [if_pos h2]; exact ⟨fun h => absurd h (by decide), fun _ => by omega⟩
    · rw [if_neg h2]; exact ⟨fun _ => by omega, fun _ => by decide⟩
theorem sgn_lt (z : Int) : sgn z < 0 ↔ z < 0 := by
  have := sgn_ge z
  constructor
  · intro h
    refine Decidable.byContradiction fun k => ?_
    have := this.mpr (by omega)
    exact absurd h (Int32.not_lt.mpr this)
  · intro h
    exact Int32.not_le.mp fun k => by have := this.mp k; omega
def crB (X Y : Nat → Int) (a b c d : Nat) : Bool := decide ((ar X Y a b c) * (ar X Y a b d) < 0) && decide ((ar X Y c d a) * (ar X Y c d b) < 0)
theorem crB_iff (X Y : Nat → Int) (a b c d : Nat) : crB X Y a b c d = true ↔ crs X Y a b c d := by
  unfold crB crs
  rw [Bool.and_eq_true, decide_eq_true_iff, decide_eq_true_iff]
theorem f41_eq {s : mS} (hP : P42 s) {a b c d : Nat} (ha : a < 42) (hb : b < 42) (hc : c < 42) (hd : d < 42) : f41 (nI a) (nI b) (nI c) (nI d) s = some (bI (crB (Xc s) (Yc s) a b c d)) := by
  unfold f41 crB
  simp only [f73_eq hP ha hb hc, f73_eq hP ha hb hd, f73_eq hP hc hd ha, f73_eq hP hc hd hb, Option.bind_some, sgn_mul]
  by_cases h1 : ar (Xc s) (Yc s) a b c * ar (Xc s) (Yc s) a b d < 0
  · rw [if_neg (by omega)]
    by_cases h2 : ar (Xc s) (Yc s) c d a * ar (Xc s) (Yc s) c d b < 0
    · rw [if_neg (by omega), decide_eq_true h1, decide_eq_true h2]; rfl
    · rw [if_pos (by omega), decide_eq_false h2, Bool.and_false]; rfl
  · rw [if_pos (by omega), decide_eq_false h1]; rfl
theorem f124_eq {s : mS} (hP : PM s) {a b c d : Nat} (ha : a < 42) (hb : b < 42) (hc : c < 42) (hd : d < 42) : f124 (nI a) (nI b) (nI c) (nI d) s = some (bI (crB (Xm s) (Ym s) a b c d)) := by
  unfold f124 crB
  simp only [f119_eq hP ha hb hc, f119_eq hP ha hb hd, f119_eq hP hc hd ha, f119_eq hP hc hd hb, Option.bind_some, sgn_mul]
  by_cases h1 : ar (Xm s) (Ym s) a b c * ar (Xm s) (Ym s) a b d < 0
  · rw [if_neg (by omega)]
    by_cases h2 : ar (Xm s) (Ym s) c d a * ar (Xm s) (Ym s) c d b < 0
    · rw [if_neg (by omega), decide_eq_true h1, decide_eq_true h2]; rfl
    · rw [if_pos (by omega), decide_eq_false h2, Bool.and_false]; rfl
  · rw [if_pos (by omega), decide_eq_false h1]; rfl
theorem Xeq {s : mS} {p q : Nat} : s.1 18 p = s.1 18 q ↔ Xc s p = Xc s q := by unfold Xc; exact ⟨fun h => by rw [h], fun h => Int32.toInt_inj.mp h⟩
theorem Yeq {s : mS} {p q : Nat} : s.1 19 p = s.1 19 q ↔ Yc s p = Yc s q := by unfold Yc; exact ⟨fun h => by rw [h], fun h => Int32.toInt_inj.mp h⟩
theorem r69_ev {s : mS} {n i : Nat} (hn : s.2.2.1 0 = nI n) (hn4 : n ≤ 40) (hi : i < 42) : ∀ d v, v + d = n → ∃ r, ev (fun k => r69 k (nI i) (nI v) s) r ∧ ((∃ p, v ≤ p ∧ p < n ∧ r = nI p ∧ Xc s p = Xc s i ∧ Yc s p = Yc s i) ∨ (r = -1 ∧ ∀ p, v ≤ p → p < n → ¬ (Xc s p = Xc s i ∧ Yc s p = Yc s i))) := by
  intro d
  induction d with
  | zero =>
    intro v hv
    refine ⟨-1, ev_c fun k => ?_, Or.inr ⟨rfl, fun p h1 h2 => by omega⟩⟩
    simp only [r69]
    rw [hn, if_pos ((nI_leI (by omega) (by omega)).mpr (by omega))]
  | succ d ih =>
    intro v hv
    obtain ⟨r, hr, hs⟩ := ih (v + 1) (by omega)
    have base : ∀ k, r69 (k + 1) (nI i) (nI v) s = if ¬ s.1 18 v = s.1 18 i then r69 k (nI i) (nI (v + 1)) s else if ¬ s.1 19 v = s.1 19 i then r69 k (nI i) (nI (v + 1)) s else some (nI v) := by
      intro k
      simp only [r69]
      rw [hn, if_neg (fun h => by have := (nI_leI (by omega) (by omega)).mp h; omega), rdI_nI (show v < 42 by omega) (by decide), rdI_nI hi (by decide), rdI_nI (show v < 42 by omega) (by decide), rdI_nI hi (by decide), nI_clamp (by omega), nI_clamp (by omega), nI_inc]
    by_cases h : Xc s v = Xc s i ∧ Yc s v = Yc s i
    · refine ⟨nI v, ev_c fun k => ?_, Or.inl ⟨v, by omega, by omega, rfl, h.1, h.2⟩⟩
      show r69 (k + 1) _ _ _ = _
      rw [base, if_neg (fun q => q (Xeq.mpr h.1)), if_neg (fun q => q (Yeq.mpr h.2))]
    · refine ⟨r, ev1 hr fun k hk => ?_, ?_⟩
      · show r69 (k + 1) _ _ _ = _
        rw [base]
        by_cases h1 : s.1 18 v = s.1 18 i
        · rw [if_neg (fun q => q h1), if_pos (fun q => h ⟨Xeq.mp h1, Yeq.mp q⟩)]; exact hk
        · rw [if_pos h1]; exact hk
      · rcases hs with ⟨p, h1, h2, h3⟩ | ⟨h1, h2⟩
        · exact Or.inl ⟨p, by omega, h2, h3⟩
        · refine Or.inr ⟨h1, fun p k1 k2 => ?_⟩
          by_cases e : p = v
          · rw [e]; exact h
          · exact h2 p (by omega) k2
theorem f69_ev {s : mS} {n i : Nat} (hn : s.2.2.1 0 = nI n) (hn4 : n ≤ 40) (hi : i < 42) : ∃ r, ev (fun k => f69 k (nI i) s) r ∧ ((∃ p, p < n ∧ r = nI p ∧ Xc s p = Xc s i ∧ Yc s p = Yc s i) ∨ (r = -1 ∧ ∀ p, p < n → ¬ (Xc s p = Xc s i ∧ Yc s p = Yc s i))) := by
  obtain ⟨r, h1, h2⟩ := r69_ev hn hn4 hi n 0 (by omega)
  refine ⟨r, h1, ?_⟩
  rcases h2 with ⟨p, _, h⟩ | ⟨h, k⟩
  · exact Or.inl ⟨p, h⟩
  · exact Or.inr ⟨h, fun p hp => k p (by omega) hp⟩
theorem r77_ev {s : mS} {n a b : Nat} (hP : P42 s) (hn : s.2.2.1 0 = nI n) (hn4 : n ≤ 40) (ha : a < 42) (hb : b < 42) : ∀ d v, v + d = n → ∃ r, ev (fun k => r77 k (nI a) (nI b) (nI v) s) (bI r) ∧ (r = true ↔ ∃ p, v ≤ p ∧ p < n ∧ p ≠ a ∧ p ≠ b ∧ oS (Xc s) (Yc s) a b p) := by
  intro d
  induction d with
  | zero =>
    intro v hv
    refine ⟨false, ev_c fun k => ?_, ⟨fun h => absurd h (by decide), fun ⟨p, h1, h2, _⟩ => by omega⟩⟩
    simp only [r77]
    rw [hn, if_pos ((nI_leI (by omega) (by omega)).mpr (by omega))]
    rfl
  | succ d ih =>
    intro v hv
    obtain ⟨r, hr, hs⟩ := ih (v + 1) (by omega)
    have base : ∀ k, r77 (k + 1) (nI a) (nI b) (nI v) s = if v = a then r77 k (nI a) (nI b) (nI (v + 1)) s else if v = b then r77 k (nI a) (nI b) (nI (v + 1)) s else if onB (Xc s) (Yc s) a b v = false then r77 k (nI a) (nI b) (nI (v + 1)) s else some 1 := by
      intro k
      simp only [r77]
      rw [hn, if_neg (fun h => by have := (nI_leI (by omega) (by omega)).mp h; omega), f70_eq hP ha hb (by omega), nI_inc]
      simp only [nI_eq (show v < 2 ^ 31 by omega) (show a < 2 ^ 31 by omega), nI_eq (show v < 2 ^ 31 by omega) (show b < 2 ^ 31 by omega), Option.bind_some, bI_0]
    by_cases h : v ≠ a ∧ v ≠ b ∧ oS (Xc s) (Yc s) a b v
    · refine ⟨true, ev_c fun k => ?_, ⟨fun _ => ⟨v, by omega, by omega, h⟩, fun _ => rfl⟩⟩
      show r77 (k + 1) _ _ _ _ = _
      rw [base, if_neg h.1, if_neg h.2.1, if_neg (fun q => by rw [(onB_iff _ _ _ _ _).mpr h.2.2] at q; cases q)]
      rfl
    · refine ⟨r, ev1 hr fun k hk => ?_, ?_⟩
      · show r77 (k + 1) _ _ _ _ = _
        rw [base]
        by_cases h1 : v = a
        · rw [if_pos h1]; exact hk
        · rw [if_neg h1]
          by_cases h2 : v = b
          · rw [if_pos h2]; exact hk
          · rw [if_neg h2, if_pos]
            · exact hk
            · cases q : onB (Xc s) (Yc s) a b v with
              | false => rfl
              | true => exact absurd ⟨h1, h2, (onB_iff _ _ _ _ _).mp q⟩ h
      · rw [hs]
        constructor
        · intro ⟨p, h1, h2⟩; exact ⟨p, by omega, h2⟩
        · intro ⟨p, h1, h2, h3⟩
          by_cases e : p = v
          · rw [e] at h3; exact absurd h3 h
          · exact ⟨p, by omega, h2, h3⟩
theorem f77_ev {s : mS} {n a b : Nat} (hP : P42 s) (hn : s.2.2.1 0 = nI n) (hn4 : n ≤ 40) (ha : a < 42) (hb : b < 42) : ∃ r, ev (fun k => f77 k (nI a) (nI b) s) (bI r) ∧ (r = true ↔ ¬ clr (Xc s) (Yc s) n a b) := by
  obtain ⟨r, h1, h2⟩ := r77_ev hP hn hn4 ha hb n 0 (by omega)
  refine ⟨r, h1, ?_⟩
  rw [h2]
  unfold clr
  constructor
  · intro ⟨p, _, k1, k2, k3, k4⟩ h; exact h p k1 k2 k3 k4
  · intro h
    refine Classical.byContradiction fun k => h fun p k1 k2 k3 k4 => k ⟨p, by omega, k1, k2, k3, k4⟩
theorem f66_eq {s : mS} {n : Nat} (hn : s.2.2.1 0 = nI n) : f66 s = some (nI n) := by unfold f66; rw [hn]
/-- the class's double loop over the links, with Q told by a boolean -/
theorem r38_ev {s : mS} {n p : Nat} (hP : P42 s) (hn : s.2.2.1 0 = nI n) (hn4 : n ≤ 40) (hp : p < 42) : ∀ d c, c + d = n → ∃ r, ev (fun k => r38 k 0 (nI p) (nI c) 0 s) (bI r) ∧ (r = true ↔ ∃ x y, c ≤ x ∧ x < y ∧ y < n ∧ bL (s.2.1 22 x) y = true ∧ oS (Xc s) (Yc s) x y p) := by
  intro d
  induction d with
  | zero =>
    intro c hc
    refine ⟨false, ev_c fun k => ?_, ⟨fun h => absurd h (by decide), fun ⟨x, y, h1, h2, h3, _⟩ => by omega⟩⟩
    simp only [r38]
    rw [if_pos trivial, f66_eq hn]
    show (if _ then _ else _) = _
    rw [if_pos ((nI_leI (by omega) (by omega)).mpr (by omega))]
    rfl
  | succ d ih =>
    intro c hc
    obtain ⟨r, hr, hs⟩ := ih (c + 1) (by omega)
    have inner : ∀ e y, y + e = n → c < y → ∃ r', ev (fun k => r38 k 1 (nI p) (nI c) (nI y) s) (bI r') ∧ (r' = true ↔ (∃ z, y ≤ z ∧ z < n ∧ bL (s.2.1 22 c) z = true ∧ oS (Xc s) (Yc s) c z p) ∨ r = true) := by
      intro e
      induction e with
      | zero =>
        intro y hy hcy
        refine ⟨r, ev1 hr fun k hk => ?_, ⟨Or.inr, fun h => ?_⟩⟩
        · show r38 (k + 1) _ _ _ _ _ = _
          simp only [r38]
          rw [if_neg (by decide), f66_eq hn]
          show (if _ then _ else _) = _
          rw [if_pos ((nI_leI (by omega) (by omega)).mpr (by omega)), nI_inc]
          exact hk
        · rcases h with ⟨z, h1, h2, _⟩ | h
          · omega
          · exact h
      | succ e ihe =>
        intro y hy hcy
        obtain ⟨r', hr', hs'⟩ := ihe (y + 1) (by omega) (by omega)
        have base : ∀ k, r38 (k + 1) 1 (nI p) (nI c) (nI y) s = if bL (s.2.1 22 c) y = false then r38 k 1 (nI p) (nI c) (nI (y + 1)) s else if onB (Xc s) (Yc s) c y p = false then r38 k 1 (nI p) (nI c) (nI (y + 1)) s else some 1 := by
          intro k
          simp only [r38]
          rw [if_neg (by decide), f66_eq hn]
          show (if _ then _ else _) = _
          rw [if_neg (fun h => by have := (nI_leI (by omega) (by omega)).mp h; omega), f39_eq (by omega) (by omega), f70_eq hP (by omega) (by omega) hp, nI_inc]
          simp only [Option.bind_some, bI_0]
        by_cases h : bL (s.2.1 22 c) y = true ∧ oS (Xc s) (Yc s) c y p
        · refine ⟨true, ev_c fun k => ?_, ⟨fun _ => Or.inl ⟨y, by omega, by omega, h⟩, fun _ => rfl⟩⟩
          show r38 (k + 1) _ _ _ _ _ = _
          rw [base, if_neg (by rw [h.1]; decide), if_neg (fun q => by rw [(onB_iff _ _ _ _ _).mpr h.2] at q; cases q)]
          rfl
        · refine ⟨r', ev1 hr' fun k hk => ?_, ?_⟩
          · show r38 (k + 1) _ _ _ _ _ = _
            rw [base]
            cases q1 : bL (s.2.1 22 c) y with
            | false => rw [if_pos rfl]; exact hk
            | true =>
              rw [if_neg (by decide)]
              cases q : onB (Xc s) (Yc s) c y p with
              | false => rw [if_pos rfl]; exact hk
              | true => exact absurd ⟨q1, (onB_iff _ _ _ _ _).mp q⟩ h
          · rw [hs']
            constructor
            · rintro (⟨z, h1, h2⟩ | h1)
              · exact Or.inl ⟨z, by omega, h2⟩
              · exact Or.inr h1
            · rintro (⟨z, h1, h2, h3⟩ | h1)
              · by_cases ez : z = y
                · rw [ez] at h3; exact absurd h3 h
                · exact Or.inl ⟨z, by omega, h2, h3⟩
              · exact Or.inr h1
    obtain ⟨r', hr', hs'⟩ := inner (n - (c + 1)) (c + 1) (by omega) (by omega)
    refine ⟨r', ev1 hr' fun k hk => ?_, ?_⟩
    · show r38 (k + 1) _ _ _ _ _ = _
      simp only [r38]
      rw [if_pos trivial, f66_eq hn]
      show (if _ then _ else _) = _
      rw [if_neg (fun h => by have := (nI_leI (by omega) (by omega)).mp h; omega), nI_1]
      exact hk
    · rw [hs', hs]
      constructor
      · rintro (⟨z, h1, h2, h3⟩ | ⟨x, y, h1, h2⟩)
        · exact ⟨c, z, by omega, by omega, h2, h3⟩
        · exact ⟨x, y, by omega, h2⟩
      · intro ⟨x, y, h1, h2, h3, h4⟩
        by_cases e : x = c
        · rw [e] at h2 h4; exact Or.inl ⟨y, by omega, h3, h4⟩
        · exact Or.inr ⟨x, y, by omega, h2, h3, h4⟩
theorem r40_ev {s : mS} {n a b : Nat} (hP : P42 s) (hn : s.2.2.1 0 = nI n) (hn4 : n ≤ 40) (ha : a < 42) (hb : b < 42) : ∀ d c, c + d = n → ∃ r, ev (fun k => r40 k 0 (nI a) (nI b) (nI c) 0 s) (bI r) ∧ (r = true ↔ ∃ x y, c ≤ x ∧ x < y ∧ y < n ∧ bL (s.2.1 22 x) y = true ∧ crs (Xc s) (Yc s) a b x y) := by
  intro d
  induction d with
  | zero =>
    intro c hc
    refine ⟨false, ev_c fun k => ?_, ⟨fun h => absurd h (by decide), fun ⟨x, y, h1, h2, h3, _⟩ => by omega⟩⟩
    simp only [r40]
    rw [if_pos trivial, f66_eq hn]
    show (if _ then _ else _) = _
    rw [if_pos ((nI_leI (by omega) (by omega)).mpr (by omega))]
    rfl
  | succ d ih =>
    intro c hc
    obtain ⟨r, hr, hs⟩ := ih (c + 1) (by omega)
    have inner : ∀ e y, y + e = n → c < y → ∃ r', ev (fun k => r40 k 1 (nI a) (nI b) (nI c) (nI y) s) (bI r') ∧ (r' = true ↔ (∃ z, y ≤ z ∧ z < n ∧ bL (s.2.1 22 c) z = true ∧ crs (Xc s) (Yc s) a b c z) ∨ r = true) := by
      intro e
      induction e with
      | zero =>
        intro y hy hcy
        refine ⟨r, ev1 hr fun k hk => ?_, ⟨Or.inr, fun h => ?_⟩⟩
        · show r40 (k + 1) _ _ _ _ _ _ = _
          simp only [r40]
          rw [if_neg (by decide), f66_eq hn]
          show (if _ then _ else _) = _
          rw [if_pos ((nI_leI (by omega) (by omega)).mpr (by omega)), nI_inc]
          exact hk
        · rcases h with ⟨z, h1, h2, _⟩ | h
          · omega
          · exact h
      | succ e ihe =>
        intro y hy hcy
        obtain ⟨r', hr', hs'⟩ := ihe (y + 1) (by omega) (by omega)
        have base : ∀ k, r40 (k + 1) 1 (nI a) (nI b) (nI c) (nI y) s = if bL (s.2.1 22 c) y = false then r40 k 1 (nI a) (nI b) (nI c) (nI (y + 1)) s else if crB (Xc s) (Yc s) a b c y = false then r40 k 1 (nI a) (nI b) (nI c) (nI (y + 1)) s else some 1 := by
          intro k
          simp only [r40]
          rw [if_neg (by decide), f66_eq hn]
          show (if _ then _ else _) = _
          rw [if_neg (fun h => by have := (nI_leI (by omega) (by omega)).mp h; omega), f39_eq (by omega) (by omega), f41_eq hP ha hb (by omega) (by omega), nI_inc]
          simp only [Option.bind_some, bI_0]
        by_cases h : bL (s.2.1 22 c) y = true ∧ crs (Xc s) (Yc s) a b c y
        · refine ⟨true, ev_c fun k => ?_, ⟨fun _ => Or.inl ⟨y, by omega, by omega, h⟩, fun _ => rfl⟩⟩
          show r40 (k + 1) _ _ _ _ _ _ = _
          rw [base, if_neg (by rw [h.1]; decide), if_neg (fun q => by rw [(crB_iff _ _ _ _ _ _).mpr h.2] at q; cases q)]
          rfl
        · refine ⟨r', ev1 hr' fun k hk => ?_, ?_⟩
          · show r40 (k + 1) _ _ _ _ _ _ = _
            rw [base]
            cases q1 : bL (s.2.1 22 c) y with
            | false => rw [if_pos rfl]; exact hk
            | true =>
              rw [if_neg (by decide)]
              cases q : crB (Xc s) (Yc s) a b c y with
              | false => rw [if_pos rfl]; exact hk
              | true => exact absurd ⟨q1, (crB_iff _ _ _ _ _ _).mp q⟩ h
          · rw [hs']
            constructor
            · rintro (⟨z, h1, h2⟩ | h1)
              · exact Or.inl ⟨z, by omega, h2⟩
              · exact Or.inr h1
            · rintro (⟨z, h1, h2, h3⟩ | h1)
              · by_cases ez : z = y
                · rw [ez] at h3; exact absurd h3 h
                · exact Or.inl ⟨z, by omega, h2, h3⟩
              · exact Or.inr h1
    obtain ⟨r', hr', hs'⟩ := inner (n - (c + 1)) (c + 1) (by omega) (by omega)
    refine ⟨r', ev1 hr' fun k hk => ?_, ?_⟩
    · show r40 (k + 1) _ _ _ _ _ _ = _
      simp only [r40]
      rw [if_pos trivial, f66_eq hn]
      show (if _ then _ else _) = _
      rw [if_neg (fun h => by have := (nI_leI (by omega) (by omega)).mp h; omega), nI_1]
      exact hk
    · rw [hs', hs]
      constructor
      · rintro (⟨z, h1, h2, h3⟩ | ⟨x, y, h1, h2⟩)
        · exact ⟨c, z, by omega, by omega, h2, h3⟩
        · exact ⟨x, y, by omega, h2⟩
      · intro ⟨x, y, h1, h2, h3, h4⟩
        by_cases e : x = c
        · rw [e] at h2 h4; exact Or.inl ⟨y, by omega, h3, h4⟩
        · exact Or.inr ⟨x, y, by omega, h2, h3, h4⟩
