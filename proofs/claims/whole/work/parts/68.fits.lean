/-! M2: the reference: what fits -/
theorem nar1 : vp_nar .boolean 1 = (1 : Int32) := by decide
theorem nar0 : vp_nar .boolean 0 = (0 : Int32) := by decide
theorem r123_45_ev {s : mS} {n a b : Nat} (hP : PM s) (hn : s.2.2.1 15 = nI n) (hn4 : n ≤ 40) (ha : a < 42) (hb : b < 42) : ∀ d v, v + d = n → ∃ r, ev (fun k => r123_42_45 k 0 (nI a) (nI b) (nI v) 0 s) (bI r) ∧ (r = true ↔ ∀ x, v ≤ x → x < n → (x ≠ a → x ≠ b → ¬ oS (Xm s) (Ym s) a b x) ∧ ∀ y, y < x → s.1 45 (40 * x + y) ≠ 0 → ¬ crs (Xm s) (Ym s) a b x y) := by
  intro d
  induction d with
  | zero =>
    intro v hv
    refine ⟨true, ev_c fun k => ?_, fun _ x h1 h2 => by omega, fun _ => rfl⟩
    simp only [r123_42_45]
    rw [if_pos trivial, hn, if_pos ((nI_leI (by omega) (by omega)).mpr (by omega))]
    rfl
  | succ d ih =>
    intro v hv
    obtain ⟨r, hr, hs⟩ := ih (v + 1) (by omega)
    have inner : ∀ e y, y + e = v → ∃ r', ev (fun k => r123_42_45 k 1 (nI a) (nI b) (nI v) (nI y) s) (bI r') ∧ (r' = true ↔ (∀ z, y ≤ z → z < v → s.1 45 (40 * v + z) ≠ 0 → ¬ crs (Xm s) (Ym s) a b v z) ∧ r = true) := by
      intro e
      induction e with
      | zero =>
        intro y hy
        refine ⟨r, ev1 hr fun k hk => ?_, fun h => ⟨fun z h1 h2 => by omega, h⟩, fun h => h.2⟩
        show r123_42_45 (k + 1) _ _ _ _ _ _ = _
        simp only [r123_42_45]
        rw [if_neg (by decide), if_pos ((nI_leI (by omega) (by omega)).mpr (by omega)), nI_inc]
        exact hk
      | succ e ihe =>
        intro y hy
        obtain ⟨r', hr', hs'⟩ := ihe (y + 1) (by omega)
        have base : ∀ k, r123_42_45 (k + 1) 1 (nI a) (nI b) (nI v) (nI y) s = if s.1 45 (40 * v + y) = 0 then r123_42_45 k 1 (nI a) (nI b) (nI v) (nI (y + 1)) s else if crB (Xm s) (Ym s) a b v y = false then r123_42_45 k 1 (nI a) (nI b) (nI v) (nI (y + 1)) s else some 0 := by
          intro k
          simp only [r123_42_45]
          rw [if_neg (by decide), if_neg (fun q => by have := (nI_leI (by omega) (by omega)).mp q; omega), idx2, rdI_nI (by omega) (by decide), nI_clamp (by omega), f124_eq hP ha hb (by omega) (by omega), nI_inc]
          simp only [Option.bind_some, bI_0]
        by_cases h : s.1 45 (40 * v + y) ≠ 0 ∧ crs (Xm s) (Ym s) a b v y
        · refine ⟨false, ev_c fun k => ?_, (fun q => by cases q), fun q => absurd h.2 (q.1 y (by omega) (by omega) h.1)⟩
          show r123_42_45 (k + 1) _ _ _ _ _ _ = _
          rw [base, if_neg h.1, if_neg (fun q => by rw [(crB_iff _ _ _ _ _ _).mpr h.2] at q; cases q)]
          rfl
        · refine ⟨r', ev1 hr' fun k hk => ?_, ?_⟩
          · show r123_42_45 (k + 1) _ _ _ _ _ _ = _
            rw [base]
            by_cases c1 : s.1 45 (40 * v + y) = 0
            · rw [if_pos c1]; exact hk
            · rw [if_neg c1]
              cases q : crB (Xm s) (Ym s) a b v y with
              | false => rw [if_pos rfl]; exact hk
              | true => exact absurd ⟨c1, (crB_iff _ _ _ _ _ _).mp q⟩ h
          · rw [hs']
            constructor
            · intro ⟨h1, h2⟩
              refine ⟨fun z k1 k2 k3 k4 => ?_, h2⟩
              by_cases ez : z = y
              · rw [ez] at k3 k4; exact h ⟨k3, k4⟩
              · exact h1 z (by omega) k2 k3 k4
            · intro ⟨h1, h2⟩
              exact ⟨fun z k1 k2 => h1 z (by omega) k2, h2⟩
    obtain ⟨r', hr', hs'⟩ := inner v 0 (by omega)
    have base : ∀ k, r123_42_45 (k + 1) 0 (nI a) (nI b) (nI v) 0 s = if v = a then r123_42_45 k 1 (nI a) (nI b) (nI v) 0 s else if v = b then r123_42_45 k 1 (nI a) (nI b) (nI v) 0 s else if onB (Xm s) (Ym s) a b v = false then r123_42_45 k 1 (nI a) (nI b) (nI v) 0 s else some 0 := by
      intro k
      simp only [r123_42_45]
      rw [if_pos trivial, hn, if_neg (fun q => by have := (nI_leI (by omega) (by omega)).mp q; omega), f118_eq hP ha hb (by omega)]
      simp only [nI_eq (show v < 2 ^ 31 by omega) (show a < 2 ^ 31 by omega), nI_eq (show v < 2 ^ 31 by omega) (show b < 2 ^ 31 by omega), Option.bind_some, bI_0]
    by_cases h : v ≠ a ∧ v ≠ b ∧ oS (Xm s) (Ym s) a b v
    · refine ⟨false, ev_c fun k => ?_, (fun q => by cases q), fun q => absurd h.2.2 ((q v (by omega) (by omega)).1 h.1 h.2.1)⟩
      show r123_42_45 (k + 1) _ _ _ _ _ _ = _
      rw [base, if_neg h.1, if_neg h.2.1, if_neg (fun q => by rw [(onB_iff _ _ _ _ _).mpr h.2.2] at q; cases q)]
      rfl
    · refine ⟨r', ev1 hr' fun k hk => ?_, ?_⟩
      · show r123_42_45 (k + 1) _ _ _ _ _ _ = _
        rw [base]
        have hk : r123_42_45 k 1 (nI a) (nI b) (nI v) 0 s = some (bI r') := hk
        by_cases h1 : v = a
        · rw [if_pos h1]; exact hk
        · rw [if_neg h1]
          by_cases h2 : v = b
          · rw [if_pos h2]; exact hk
          · rw [if_neg h2, if_pos]
            · exact hk
            · cases q : onB (Xm s) (Ym s) a b v with
              | false => rfl
              | true => exact absurd ⟨h1, h2, (onB_iff _ _ _ _ _).mp q⟩ h
      · rw [hs', hs]
        constructor
        · intro ⟨h1, h2⟩ x k1 k2
          by_cases ex : x = v
          · rw [ex]
            exact ⟨fun q1 q2 q3 => h ⟨q1, q2, q3⟩, fun y hy => h1 y (by omega) hy⟩
          · exact h2 x (by omega) k2
        · intro h1
          exact ⟨fun z k1 k2 => (h1 v (by omega) (by omega)).2 z k2, fun x k1 k2 => h1 x (by omega) k2⟩
/-- a table of pairs holds R, for the points -/
def tb45 (s : mS) (R : Nat → Nat → Prop) : Prop := ∀ x y, x < 40 → y < 40 → (R x y → s.1 45 (40 * x + y) = 1) ∧ (¬ R x y → s.1 45 (40 * x + y) = 0)
theorem tb45.ne {s : mS} {R : Nat → Nat → Prop} (h : tb45 s R) {x y : Nat} (hx : x < 40) (hy : y < 40) : s.1 45 (40 * x + y) ≠ 0 ↔ R x y := by
  obtain ⟨h1, h2⟩ := h x y hx hy
  constructor
  · intro k; exact Classical.byContradiction fun q => k (h2 q)
  · intro k; rw [h1 k]; decide
theorem f123_45_ev {s : mS} {n a b : Nat} {R : Nat → Nat → Prop} (hP : PM s) (hn : s.2.2.1 15 = nI n) (hn4 : n ≤ 40) (ha : a < 42) (hb : b < 42) (hR : tb45 s R) (hsy : ∀ x y, R x y → x < n ∧ y < n ∧ x ≠ y ∧ R y x) : ∃ r, ev (fun k => f123_42_45 k (nI a) (nI b) s) (bI r) ∧ (r = true ↔ okl (Xm s) (Ym s) n R a b) := by
  obtain ⟨r, h1, h2⟩ := r123_45_ev hP hn hn4 ha hb n 0 (by omega)
  refine ⟨r, h1, ?_⟩
  rw [h2]
  constructor
  · intro h
    refine ⟨fun p hp k1 k2 => (h p (by omega) hp).1 k1 k2, fun c d hcd hx => ?_⟩
    obtain ⟨l1, l2, l3, l4⟩ := hsy c d hcd
    rcases Nat.lt_or_gt_of_ne l3 with q | q
    · exact (h d (by omega) l2).2 c q ((hR.ne (by omega) (by omega)).mpr l4) (crs_t hx)
    · exact (h c (by omega) l1).2 d q ((hR.ne (by omega) (by omega)).mpr hcd) hx
  · intro ⟨h1, h2⟩ x _ hx
    exact ⟨fun k1 k2 => h1 x hx k1 k2, fun y hy k => h2 x y ((hR.ne (by omega) (by omega)).mp k)⟩
theorem r123_46_ev {s : mS} {n a b : Nat} (hP : PM s) (hn : s.2.2.1 15 = nI n) (hn4 : n ≤ 40) (ha : a < 42) (hb : b < 42) : ∀ d v, v + d = n → ∃ r, ev (fun k => r123_42_46 k 0 (nI a) (nI b) (nI v) 0 s) (bI r) ∧ (r = true ↔ ∀ x, v ≤ x → x < n → (x ≠ a → x ≠ b → ¬ oS (Xm s) (Ym s) a b x) ∧ ∀ y, y < x → s.1 46 (40 * x + y) ≠ 0 → ¬ crs (Xm s) (Ym s) a b x y) := by
  intro d
  induction d with
  | zero =>
    intro v hv
    refine ⟨true, ev_c fun k => ?_, fun _ x h1 h2 => by omega, fun _ => rfl⟩
    simp only [r123_42_46]
    rw [if_pos trivial, hn, if_pos ((nI_leI (by omega) (by omega)).mpr (by omega))]
    rfl
  | succ d ih =>
    intro v hv
    obtain ⟨r, hr, hs⟩ := ih (v + 1) (by omega)
    have inner : ∀ e y, y + e = v → ∃ r', ev (fun k => r123_42_46 k 1 (nI a) (nI b) (nI v) (nI y) s) (bI r') ∧ (r' = true ↔ (∀ z, y ≤ z → z < v → s.1 46 (40 * v + z) ≠ 0 → ¬ crs (Xm s) (Ym s) a b v z) ∧ r = true) := by
      intro e
      induction e with
      | zero =>
        intro y hy
        refine ⟨r, ev1 hr fun k hk => ?_, fun h => ⟨fun z h1 h2 => by omega, h⟩, fun h => h.2⟩
        show r123_42_46 (k + 1) _ _ _ _ _ _ = _
        simp only [r123_42_46]
        rw [if_neg (by decide), if_pos ((nI_leI (by omega) (by omega)).mpr (by omega)), nI_inc]
        exact hk
      | succ e ihe =>
        intro y hy
        obtain ⟨r', hr', hs'⟩ := ihe (y + 1) (by omega)
        have base : ∀ k, r123_42_46 (k + 1) 1 (nI a) (nI b) (nI v) (nI y) s = if s.1 46 (40 * v + y) = 0 then r123_42_46 k 1 (nI a) (nI b) (nI v) (nI (y + 1)) s else if crB (Xm s) (Ym s) a b v y = false then r123_42_46 k 1 (nI a) (nI b) (nI v) (nI (y + 1)) s else some 0 := by
          intro k
          simp only [r123_42_46]
          rw [if_neg (by decide), if_neg (fun q => by have := (nI_leI (by omega) (by omega)).mp q; omega), idx2, rdI_nI (by omega) (by decide), nI_clamp (by omega), f124_eq hP ha hb (by omega) (by omega), nI_inc]
          simp only [Option.bind_some, bI_0]
        by_cases h : s.1 46 (40 * v + y) ≠ 0 ∧ crs (Xm s) (Ym s) a b v y
        · refine ⟨false, ev_c fun k => ?_, (fun q => by cases q), fun q => absurd h.2 (q.1 y (by omega) (by omega) h.1)⟩
          show r123_42_46 (k + 1) _ _ _ _ _ _ = _
          rw [base, if_neg h.1, if_neg (fun q => by rw [(crB_iff _ _ _ _ _ _).mpr h.2] at q; cases q)]
          rfl
        · refine ⟨r', ev1 hr' fun k hk => ?_, ?_⟩
          · show r123_42_46 (k + 1) _ _ _ _ _ _ = _
            rw [base]
            by_cases c1 : s.1 46 (40 * v + y) = 0
            · rw [if_pos c1]; exact hk
            · rw [if_neg c1]
              cases q : crB (Xm s) (Ym s) a b v y with
              | false => rw [if_pos rfl]; exact hk
              | true => exact absurd ⟨c1, (crB_iff _ _ _ _ _ _).mp q⟩ h
          · rw [hs']
            constructor
            · intro ⟨h1, h2⟩
              refine ⟨fun z k1 k2 k3 k4 => ?_, h2⟩
              by_cases ez : z = y
              · rw [ez] at k3 k4; exact h ⟨k3, k4⟩
              · exact h1 z (by omega) k2 k3 k4
            · intro ⟨h1, h2⟩
              exact ⟨fun z k1 k2 => h1 z (by omega) k2, h2⟩
    obtain ⟨r', hr', hs'⟩ := inner v 0 (by omega)
    have base : ∀ k, r123_42_46 (k + 1) 0 (nI a) (nI b) (nI v) 0 s = if v = a then r123_42_46 k 1 (nI a) (nI b) (nI v) 0 s else if v = b then r123_42_46 k 1 (nI a) (nI b) (nI v) 0 s else if onB (Xm s) (Ym s) a b v = false then r123_42_46 k 1 (nI a) (nI b) (nI v) 0 s else some 0 := by
      intro k
      simp only [r123_42_46]
      rw [if_pos trivial, hn, if_neg (fun q => by have := (nI_leI (by omega) (by omega)).mp q; omega), f118_eq hP ha hb (by omega)]
      simp only [nI_eq (show v < 2 ^ 31 by omega) (show a < 2 ^ 31 by omega), nI_eq (show v < 2 ^ 31 by omega) (show b < 2 ^ 31 by omega), Option.bind_some, bI_0]
    by_cases h : v ≠ a ∧ v ≠ b ∧ oS (Xm s) (Ym s) a b v
    · refine ⟨false, ev_c fun k => ?_, (fun q => by cases q), fun q => absurd h.2.2 ((q v (by omega) (by omega)).1 h.1 h.2.1)⟩
      show r123_42_46 (k + 1) _ _ _ _ _ _ = _
      rw [base, if_neg h.1, if_neg h.2.1, if_neg (fun q => by rw [(onB_iff _ _ _ _ _).mpr h.2.2] at q; cases q)]
      rfl
    · refine ⟨r', ev1 hr' fun k hk => ?_, ?_⟩
      · show r123_42_46 (k + 1) _ _ _ _ _ _ = _
        rw [base]
        have hk : r123_42_46 k 1 (nI a) (nI b) (nI v) 0 s = some (bI r') := hk
        by_cases h1 : v = a
        · rw [if_pos h1]; exact hk
        · rw [if_neg h1]
          by_cases h2 : v = b
          · rw [if_pos h2]; exact hk
          · rw [if_neg h2, if_pos]
            · exact hk
            · cases q : onB (Xm s) (Ym s) a b v with
              | false => rfl
              | true => exact absurd ⟨h1, h2, (onB_iff _ _ _ _ _).mp q⟩ h
      · rw [hs', hs]
        constructor
        · intro ⟨h1, h2⟩ x k1 k2
          by_cases ex : x = v
          · rw [ex]
            exact ⟨fun q1 q2 q3 => h ⟨q1, q2, q3⟩, fun y hy => h1 y (by omega) hy⟩
          · exact h2 x (by omega) k2
        · intro h1
          exact ⟨fun z k1 k2 => (h1 v (by omega) (by omega)).2 z k2, fun x k1 k2 => h1 x (by omega) k2⟩
/-- a table of pairs holds R, for the points -/
def tb46 (s : mS) (R : Nat → Nat → Prop) : Prop := ∀ x y, x < 40 → y < 40 → (R x y → s.1 46 (40 * x + y) = 1) ∧ (¬ R x y → s.1 46 (40 * x + y) = 0)
theorem tb46.ne {s : mS} {R : Nat → Nat → Prop} (h : tb46 s R) {x y : Nat} (hx : x < 40) (hy : y < 40) : s.1 46 (40 * x + y) ≠ 0 ↔ R x y := by
  obtain ⟨h1, h2⟩ := h x y hx hy
  constructor
  · intro k; exact Classical.byContradiction fun q => k (h2 q)
  · intro k; rw [h1 k]; decide
theorem f123_46_ev {s : mS} {n a b : Nat} {R : Nat → Nat → Prop} (hP : PM s) (hn : s.2.2.1 15 = nI n) (hn4 : n ≤ 40) (ha : a < 42) (hb : b < 42) (hR : tb46 s R) (hsy : ∀ x y, R x y → x < n ∧ y < n ∧ x ≠ y ∧ R y x) : ∃ r, ev (fun k => f123_42_46 k (nI a) (nI b) s) (bI r) ∧ (r = true ↔ okl (Xm s) (Ym s) n R a b) := by
  obtain ⟨r, h1, h2⟩ := r123_46_ev hP hn hn4 ha hb n 0 (by omega)
  refine ⟨r, h1, ?_⟩
  rw [h2]
  constructor
  · intro h
    refine ⟨fun p hp k1 k2 => (h p (by omega) hp).1 k1 k2, fun c d hcd hx => ?_⟩
    obtain ⟨l1, l2, l3, l4⟩ := hsy c d hcd
    rcases Nat.lt_or_gt_of_ne l3 with q | q
    · exact (h d (by omega) l2).2 c q ((hR.ne (by omega) (by omega)).mpr l4) (crs_t hx)
    · exact (h c (by omega) l1).2 d q ((hR.ne (by omega) (by omega)).mpr hcd) hx
  · intro ⟨h1, h2⟩ x _ hx
    exact ⟨fun k1 k2 => h1 x hx k1 k2, fun y hy k => h2 x y ((hR.ne (by omega) (by omega)).mp k)⟩
theorem f116_eq (v a b : Int32) (s : mS) : (a ≤ v ∧ v ≤ b → f116 v a b s = some 1) ∧ (¬ (a ≤ v ∧ v ≤ b) → f116 v a b s = some 0) := by
  unfold f116
  constructor
  · intro ⟨h1, h2⟩
    rw [if_neg (Int32.not_lt.mpr h1), if_neg (Int32.not_lt.mpr h2)]
  · intro h
    by_cases c1 : v < a
    · rw [if_pos c1]
    · rw [if_neg c1]
      by_cases c2 : b < v
      · rw [if_pos c2]
      · exact absurd ⟨Int32.not_lt.mp c1, Int32.not_lt.mp c2⟩ h
theorem f115_eq (x y : Int32) (s : mS) : (inb x ∧ inb y → f115 x y s = some 1) ∧ (¬ (inb x ∧ inb y) → f115 x y s = some 0) := by
  have e1 : (-536870911 : Int32).toInt = -536870911 := by decide
  have e2 : (536870911 : Int32).toInt = 536870911 := by decide
  have ib : ∀ v : Int32, inb v ↔ (-536870911 ≤ v ∧ v ≤ 536870911) := fun v => by unfold inb; rw [Int32.le_iff_toInt_le, Int32.le_iff_toInt_le, e1, e2]
  unfold f115
  rw [ib x, ib y]
  constructor
  · intro ⟨h1, h2⟩
    rw [(f116_eq x _ _ s).1 h1, (f116_eq y _ _ s).1 h2]
    rfl
  · intro h
    by_cases c1 : -536870911 ≤ x ∧ x ≤ 536870911
    · rw [(f116_eq x _ _ s).1 c1, (f116_eq y _ _ s).2 (fun q => h ⟨c1, q⟩)]
      rfl
    · rw [(f116_eq x _ _ s).2 c1]
      rfl
theorem f122_eq {s : mS} {n : Nat} (hn : s.2.2.1 15 = nI n) (hn4 : n ≤ 40) (v : Int32) : (isP n v → f122 v s = some 1) ∧ (¬ isP n v → f122 v s = some 0) := by
  have key : isP n v ↔ (0 ≤ v ∧ v ≤ nI n - 1) := by
    rw [isP_iff hn4]
    have e : (nI n - 1).toInt = (n : Int) - 1 := by
      have o : (1 : Int32).toInt = 1 := by decide
      have t := nI_toInt (show n < 2 ^ 31 by omega)
      rw [i32s (by omega) (by omega), t, o]
    have e0 : (0 : Int32).toInt = 0 := by decide
    rw [Int32.lt_iff_toInt_lt, Int32.lt_iff_toInt_lt, Int32.le_iff_toInt_le, Int32.le_iff_toInt_le, e, e0, nI_toInt (by omega)]
    omega
  unfold f122
  rw [hn, key]
  constructor
  · intro h
    rw [(f116_eq v _ _ s).1 h]
    rfl
  · intro h
    rw [(f116_eq v _ _ s).2 h]
    rfl
theorem f121_eq {s : mS} {n : Nat} (hn : s.2.2.1 15 = nI n) (hn4 : n ≤ 40) (v w : Int32) : (isPr n v w → f121 v w s = some 1) ∧ (¬ isPr n v w → f121 v w s = some 0) := by
  unfold f121 isPr
  constructor
  · intro ⟨h1, h2, h3⟩
    rw [(f122_eq hn hn4 v).1 h1, (f122_eq hn hn4 w).1 h2]
    simp only [Option.bind_some]
    rw [if_neg (by decide), if_neg (by decide), if_neg h3]
  · intro h
    by_cases h1 : isP n v
    · rw [(f122_eq hn hn4 v).1 h1]
      simp only [Option.bind_some]
      rw [if_neg (by decide)]
      by_cases h2 : isP n w
      · rw [(f122_eq hn hn4 w).1 h2]
        simp only [Option.bind_some]
        rw [if_neg (by decide), if_pos (Decidable.byContradiction fun q => h ⟨h1, h2, q⟩)]
      · rw [(f122_eq hn hn4 w).2 h2]
        rfl
    · rw [(f122_eq hn hn4 v).2 h1]
      rfl
