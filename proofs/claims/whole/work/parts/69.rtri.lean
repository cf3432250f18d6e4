/-! M2: the reference's triangles, and its list of them -/
theorem r134_ev {s : mS} {n a b c : Nat} (hP : PM s) (hn : s.2.2.1 15 = nI n) (hn4 : n ≤ 40) (ha : a < 42) (hb : b < 42) (hc : c < 42) : ∀ d v, v + d = n → ∃ r, ev (fun k => r134 k (nI a) (nI b) (nI c) (nI v) s) (bI r) ∧ (r = true ↔ ∀ p, v ≤ p → p < n → p ≠ a → p ≠ b → p ≠ c → ¬ (0 ≤ ar (Xm s) (Ym s) a b p ∧ 0 ≤ ar (Xm s) (Ym s) b c p ∧ 0 ≤ ar (Xm s) (Ym s) c a p)) := by
  intro d
  induction d with
  | zero =>
    intro v hv
    refine ⟨true, ev_c fun k => ?_, fun _ p h1 h2 => by omega, fun _ => rfl⟩
    simp only [r134]
    rw [hn, if_pos ((nI_leI (by omega) (by omega)).mpr (by omega))]
    rfl
  | succ d ih =>
    intro v hv
    obtain ⟨r, hr, hs⟩ := ih (v + 1) (by omega)
    have base : ∀ k, r134 (k + 1) (nI a) (nI b) (nI c) (nI v) s = if v = a then r134 k (nI a) (nI b) (nI c) (nI (v + 1)) s else if v = b then r134 k (nI a) (nI b) (nI c) (nI (v + 1)) s else if v = c then r134 k (nI a) (nI b) (nI c) (nI (v + 1)) s else if ar (Xm s) (Ym s) a b v < 0 then r134 k (nI a) (nI b) (nI c) (nI (v + 1)) s else if ar (Xm s) (Ym s) b c v < 0 then r134 k (nI a) (nI b) (nI c) (nI (v + 1)) s else if ar (Xm s) (Ym s) c a v < 0 then r134 k (nI a) (nI b) (nI c) (nI (v + 1)) s else some 0 := by
      intro k
      simp only [r134]
      rw [hn, if_neg (fun q => by have := (nI_leI (by omega) (by omega)).mp q; omega), f119_eq hP ha hb (by omega), f119_eq hP hb hc (by omega), f119_eq hP hc ha (by omega), nI_inc]
      simp only [Option.bind_some, sgn_lt, nI_eq (show v < 2 ^ 31 by omega) (show a < 2 ^ 31 by omega), nI_eq (show v < 2 ^ 31 by omega) (show b < 2 ^ 31 by omega), nI_eq (show v < 2 ^ 31 by omega) (show c < 2 ^ 31 by omega)]
    by_cases h : v ≠ a ∧ v ≠ b ∧ v ≠ c ∧ 0 ≤ ar (Xm s) (Ym s) a b v ∧ 0 ≤ ar (Xm s) (Ym s) b c v ∧ 0 ≤ ar (Xm s) (Ym s) c a v
    · refine ⟨false, ev_c fun k => ?_, (fun q => by cases q), fun q => absurd h.2.2.2 (q v (by omega) (by omega) h.1 h.2.1 h.2.2.1)⟩
      show r134 (k + 1) _ _ _ _ _ = _
      rw [base, if_neg h.1, if_neg h.2.1, if_neg h.2.2.1, if_neg (by omega), if_neg (by omega), if_neg (by omega)]
      rfl
    · refine ⟨r, ev1 hr fun k hk => ?_, ?_⟩
      · show r134 (k + 1) _ _ _ _ _ = _
        have hk : r134 k (nI a) (nI b) (nI c) (nI (v + 1)) s = some (bI r) := hk
        rw [base, hk]
        by_cases c1 : v = a
        · rw [if_pos c1]
        rw [if_neg c1]
        by_cases c2 : v = b
        · rw [if_pos c2]
        rw [if_neg c2]
        by_cases c3 : v = c
        · rw [if_pos c3]
        rw [if_neg c3]
        by_cases c4 : ar (Xm s) (Ym s) a b v < 0
        · rw [if_pos c4]
        rw [if_neg c4]
        by_cases c5 : ar (Xm s) (Ym s) b c v < 0
        · rw [if_pos c5]
        rw [if_neg c5, if_pos (Decidable.byContradiction fun q => h ⟨c1, c2, c3, by omega, by omega, by omega⟩)]
      · rw [hs]
        constructor
        · intro q p h1 h2 k1 k2 k3 k4
          by_cases ep : p = v
          · rw [ep] at k1 k2 k3 k4; exact h ⟨k1, k2, k3, k4⟩
          · exact q p (by omega) h2 k1 k2 k3 k4
        · intro q p h1 h2; exact q p (by omega) h2
theorem f133_ev {s : mS} {n a b c : Nat} {E : Nat → Nat → Prop} (hP : PM s) (hn : s.2.2.1 15 = nI n) (hn4 : n ≤ 40) (hE : tb46 s E) (hsy : ∀ x y, E x y → x < n ∧ y < n ∧ x ≠ y ∧ E y x) (ha : a < n) (hb : b < n) (hc : c < n) : ∃ g, ev (fun k => f133 k (nI a) (nI b) (nI c) s) (bI g) ∧ (g = true ↔ Tr (Xm s) (Ym s) n E a b c) := by
  obtain ⟨r, r1, r2⟩ := r134_ev hP hn hn4 (show a < 42 by omega) (show b < 42 by omega) (show c < 42 by omega) n 0 (by omega)
  have r1' : ev (fun k => f134 k (nI a) (nI b) (nI c) s) (bI r) := r1
  have r3 : r = true ↔ emp (Xm s) (Ym s) n a b c := by
    rw [r2]
    exact ⟨fun h p hp => h p (by omega) hp, fun h p _ hp => h p hp⟩
  have base : ∀ k, f133 k (nI a) (nI b) (nI c) s = if a = b then some 0 else if b = c then some 0 else if c = a then some 0 else if s.1 46 (40 * a + b) = 0 then some 0 else if s.1 46 (40 * b + c) = 0 then some 0 else if s.1 46 (40 * c + a) = 0 then some 0 else if ar (Xm s) (Ym s) a b c ≤ 0 then some 0 else (f134 k (nI a) (nI b) (nI c) s).bind fun q13 => if q13 = 0 then some 0 else some 1 := by
    intro k
    unfold f133
    rw [idx2, idx2, idx2, rdI_nI (by omega) (by decide), rdI_nI (by omega) (by decide), rdI_nI (by omega) (by decide), nI_clamp (by omega), nI_clamp (by omega), nI_clamp (by omega), f119_eq hP (by omega) (by omega) (by omega)]
    simp only [Option.bind_some, sgn_le, nI_eq (show a < 2 ^ 31 by omega) (show b < 2 ^ 31 by omega), nI_eq (show b < 2 ^ 31 by omega) (show c < 2 ^ 31 by omega), nI_eq (show c < 2 ^ 31 by omega) (show a < 2 ^ 31 by omega)]
  have no : (∀ k, f133 k (nI a) (nI b) (nI c) s = some 0) → ¬ Tr (Xm s) (Ym s) n E a b c → ∃ g, ev (fun k => f133 k (nI a) (nI b) (nI c) s) (bI g) ∧ (g = true ↔ Tr (Xm s) (Ym s) n E a b c) := fun h1 h2 => ⟨false, ev_0 h1, (fun q => by cases q), fun q => absurd q h2⟩
  by_cases c1 : a = b
  · exact no (fun k => by rw [base, if_pos c1]) fun q => q.ne.1 c1
  by_cases c2 : b = c
  · exact no (fun k => by rw [base, if_neg c1, if_pos c2]) fun q => q.ne.2.1 c2
  by_cases c3 : c = a
  · exact no (fun k => by rw [base, if_neg c1, if_neg c2, if_pos c3]) fun q => q.ne.2.2 c3
  have e1 := hE.ne (show a < 40 by omega) (show b < 40 by omega)
  have e2 := hE.ne (show b < 40 by omega) (show c < 40 by omega)
  have e3 := hE.ne (show c < 40 by omega) (show a < 40 by omega)
  by_cases c4 : s.1 46 (40 * a + b) = 0
  · exact no (fun k => by rw [base, if_neg c1, if_neg c2, if_neg c3, if_pos c4]) fun q => absurd c4 (e1.mpr q.1)
  by_cases c5 : s.1 46 (40 * b + c) = 0
  · exact no (fun k => by rw [base, if_neg c1, if_neg c2, if_neg c3, if_neg c4, if_pos c5]) fun q => absurd c5 (e2.mpr q.2.1)
  by_cases c6 : s.1 46 (40 * c + a) = 0
  · exact no (fun k => by rw [base, if_neg c1, if_neg c2, if_neg c3, if_neg c4, if_neg c5, if_pos c6]) fun q => absurd c6 (e3.mpr q.2.2.1)
  by_cases c7 : ar (Xm s) (Ym s) a b c ≤ 0
  · exact no (fun k => by rw [base, if_neg c1, if_neg c2, if_neg c3, if_neg c4, if_neg c5, if_neg c6, if_pos c7]) fun q => by have := q.2.2.2.1; omega
  refine ⟨r, evm r1' fun k hk => ?_, ?_⟩
  · show f133 k _ _ _ s = _
    rw [base, if_neg c1, if_neg c2, if_neg c3, if_neg c4, if_neg c5, if_neg c6, if_neg c7, hk]
    cases r <;> rfl
  · rw [r3]
    exact ⟨fun h => ⟨e1.mp c4, e2.mp c5, e3.mp c6, by omega, h⟩, fun h => h.2.2.2.2⟩
theorem f132_ev {s : mS} {n a b : Nat} {E : Nat → Nat → Prop} (hP : PM s) (hn : s.2.2.1 15 = nI n) (hn4 : n ≤ 40) (hE : tb46 s E) (hM : Mx (Xm s) (Ym s) n E) (ha : a < n) (hb : b < n) : ∃ r, ev (fun k => f132 k (nI a) (nI b) s) r ∧ ((∃ c, Tr (Xm s) (Ym s) n E a b c ∧ r = nI c) ∨ (r = -1 ∧ ¬ hasT (Xm s) (Ym s) n E a b)) := by
  have main : ∀ d v c, v + d = n → ((c = -1 ∧ ∀ z, Tr (Xm s) (Ym s) n E a b z → v ≤ z) ∨ ∃ z, Tr (Xm s) (Ym s) n E a b z ∧ c = nI z) → ∃ r, ev (fun k => r132 k (nI a) (nI b) c (nI v) s) r ∧ ((∃ c, Tr (Xm s) (Ym s) n E a b c ∧ r = nI c) ∨ (r = -1 ∧ ¬ hasT (Xm s) (Ym s) n E a b)) := by
    intro d
    induction d with
    | zero =>
      intro v c hv h
      refine ⟨c, ev_c fun k => ?_, ?_⟩
      · simp only [r132]
        rw [hn, if_pos ((nI_leI (by omega) (by omega)).mpr (by omega))]
      · rcases h with ⟨h1, h2⟩ | ⟨z, h1, h2⟩
        · refine Or.inr ⟨h1, fun ⟨z, hz⟩ => ?_⟩
          have := h2 z hz
          have := (hz.lt hM).2.2
          omega
        · exact Or.inl ⟨z, h1, h2⟩
    | succ d ih =>
      intro v c hv h
      rcases h with ⟨h1, h2⟩ | ⟨z, h1, h2⟩
      · obtain ⟨g, g1, g2⟩ := f133_ev hP hn hn4 hE hM.1 ha hb (show v < n by omega)
        have n0 : ¬ (0 : Int32) ≤ -1 := by decide
        cases g with
        | true =>
          obtain ⟨r, q1, q2⟩ := ih (v + 1) (nI v) (by omega) (Or.inr ⟨v, g2.mp rfl, rfl⟩)
          refine ⟨r, ev2 g1 q1 fun k hk1 hk2 => ?_, q2⟩
          show r132 (k + 1) _ _ _ _ _ = _
          simp only [r132]
          rw [hn, if_neg (fun q => by have := (nI_leI (by omega) (by omega)).mp q; omega), h1, if_neg n0, hk1, nI_inc]
          exact hk2
        | false =>
          obtain ⟨r, q1, q2⟩ := ih (v + 1) c (by omega) (Or.inl ⟨h1, fun z hz => by
            have := h2 z hz
            by_cases ez : z = v
            · rw [ez] at hz; have := g2.mpr hz; cases this
            · omega⟩)
          refine ⟨r, ev2 g1 q1 fun k hk1 hk2 => ?_, q2⟩
          show r132 (k + 1) _ _ _ _ _ = _
          simp only [r132]
          rw [hn, if_neg (fun q => by have := (nI_leI (by omega) (by omega)).mp q; omega), h1, if_neg n0, hk1, nI_inc]
          rw [h1] at hk2
          exact hk2
      · obtain ⟨r, q1, q2⟩ := ih (v + 1) c (by omega) (Or.inr ⟨z, h1, h2⟩)
        have := (h1.lt hM).2.2
        refine ⟨r, ev1 q1 fun k hk => ?_, q2⟩
        show r132 (k + 1) _ _ _ _ _ = _
        simp only [r132]
        rw [hn, if_neg (fun q => by have := (nI_leI (by omega) (by omega)).mp q; omega), h2, if_pos (nI_pos' (by omega)), nI_inc]
        rw [h2] at hk
        exact hk
  exact main n 0 (-1) (by omega) (Or.inl ⟨rfl, fun z _ => by omega⟩)
/-- the reference's list of triangles -/
def LM (s : mS) (n : Nat) (E : Nat → Nat → Prop) (L : List Nat) : Prop := s.2.2.1 17 = nI L.length ∧ ∀ i c z, L[i]? = some c → Tr (Xm s) (Ym s) n E (c / 40) (c % 40) z → s.1 47 (3 * i) = nI (c / 40) ∧ s.1 47 (3 * i + 1) = nI (c % 40) ∧ s.1 47 (3 * i + 2) = nI z
def ml (s t : mS) : Prop := sm [47] [] [17] [] s t
theorem smX {LA LJ LF LG : List Nat} {s t : mS} (h : sm LA LJ LF LG s t) (h1 : 43 ∉ LJ) (h2 : 44 ∉ LJ) : Xm t = Xm s ∧ Ym t = Ym s := ⟨funext fun j => by unfold Xm; rw [h.2.1 43 h1], funext fun j => by unfold Ym; rw [h.2.1 44 h2]⟩
theorem lst_ev {n : Nat} {E : Nat → Nat → Prop} {X Y : Nat → Int} (hD : Dst X Y n) (hB : Bd X Y n) (hM : Mx X Y n E) (hn4 : n ≤ 40) (w : Int32) : ∀ d a, a + d = n → ∀ s L, PM s → Xm s = X → Ym s = Y → s.2.2.1 15 = nI n → tb46 s E → NL X Y n E (40 * a) L → LM s n E L →
    ∃ t L', ev (fun k => r128 k 6 w (nI a) 0 0 s) t ∧ ml s t ∧ NL X Y n E 1600 L' ∧ LM t n E L' := by
  intro d
  induction d with
  | zero =>
    intro a ha s L hP hX hY hn hE hL hN
    refine ⟨s, L, ev_c fun k => ?_, sm.refl s, NL_ext hL (by omega) (fun c k1 k2 k3 => by have := lst_lt hM k3; omega), hN⟩
    simp only [r128]
    rw [if_neg (by decide), if_neg (by decide), if_neg (by decide), if_neg (by decide), if_neg (by decide), if_neg (by decide), if_pos trivial, hn, if_pos ((nI_leI (by omega) (by omega)).mpr (by omega))]
  | succ d ih =>
    intro a ha s L hP hX hY hn hE hL hN
    have h7 : ∀ e b, b + e = n → a < b → ∀ s L, PM s → Xm s = X → Ym s = Y → s.2.2.1 15 = nI n → tb46 s E → NL X Y n E (40 * a + b) L → LM s n E L → ∃ t L', ev (fun k => r128 k 7 w (nI a) (nI b) 0 s) t ∧ ml s t ∧ NL X Y n E 1600 L' ∧ LM t n E L' := by
      intro e
      induction e with
      | zero =>
        intro b hb hab s L hP hX hY hn hE hL hN
        obtain ⟨t, L', g1, g2⟩ := ih (a + 1) (by omega) s L hP hX hY hn hE (NL_ext hL (by omega) (fun c k1 k2 k3 => by have := lst_lt hM k3; omega)) hN
        refine ⟨t, L', ev1 g1 fun k hk => ?_, g2⟩
        show r128 (k + 1) _ _ _ _ _ _ = _
        simp only [r128]
        rw [if_neg (by decide), if_neg (by decide), if_neg (by decide), if_neg (by decide), if_neg (by decide), if_neg (by decide), if_neg (by decide), if_pos trivial, hn, if_pos ((nI_leI (by omega) (by omega)).mpr (by omega)), nI_inc]
        exact hk
      | succ e ihe =>
        intro b hb hab s L hP hX hY hn hE hL hN
        have h8 : ∀ f c, c + f = n → a < c → ∀ s L, PM s → Xm s = X → Ym s = Y → s.2.2.1 15 = nI n → tb46 s E → ((NL X Y n E (40 * a + b) L ∧ ∀ z, Tr X Y n E a b z → a < z → c ≤ z) ∨ (NL X Y n E (40 * a + b + 1) L ∧ ∀ z, Tr X Y n E a b z → z < c)) → LM s n E L → ∃ t L', ev (fun k => r128 k 8 w (nI a) (nI b) (nI c) s) t ∧ ml s t ∧ NL X Y n E 1600 L' ∧ LM t n E L' := by
          intro f
          induction f with
          | zero =>
            intro c hc hac s L hP hX hY hn hE hL hN
            have hL2 : NL X Y n E (40 * a + (b + 1)) L := by
              rcases hL with ⟨h1, h2⟩ | ⟨h1, _⟩
              · refine NL_ext h1 (by omega) (fun x k1 k2 k3 => ?_)
                have ex : x = 40 * a + b := by omega
                rw [ex, show (40 * a + b) / 40 = a by omega, show (40 * a + b) % 40 = b by omega] at k3
                obtain ⟨z, hz, _, q2⟩ := k3
                unfold ik at q2
                have := h2 z hz (by omega)
                have := (hz.lt hM).2.2
                omega
              · exact h1
            obtain ⟨t, L', g1, g2⟩ := ihe (b + 1) (by omega) (by omega) s L hP hX hY hn hE hL2 hN
            refine ⟨t, L', ev1 g1 fun k hk => ?_, g2⟩
            show r128 (k + 1) _ _ _ _ _ _ = _
            simp only [r128]
            rw [if_neg (by decide), if_neg (by decide), if_neg (by decide), if_neg (by decide), if_neg (by decide), if_neg (by decide), if_neg (by decide), if_neg (by decide), hn, if_pos ((nI_leI (by omega) (by omega)).mpr (by omega)), nI_inc]
            exact hk
          | succ f ihf =>
            intro c hc hac s L hP hX hY hn hE hL hN
            obtain ⟨g, g1, g2⟩ := f133_ev hP hn hn4 hE hM.1 (show a < n by omega) (show b < n by omega) (show c < n by omega)
            rw [hX, hY] at g2
            have hd : ∀ k, f133 k (nI a) (nI b) (nI c) s = some (bI g) → r128 (k + 1) 8 w (nI a) (nI b) (nI c) s = (if bI g = 0 then r128 k 8 w (nI a) (nI b) (nI (c + 1)) s else rdI 300 ((3 : Int32) * (s.2.2.1 17)) (pt (uA 47 (upd (s.1 47) (Int32.toNatClampNeg ((3 : Int32) * (s.2.2.1 17))) (nI a)) s) fun s6 => rdI 300 (((3 : Int32) * (s6.2.2.1 17)) + (1 : Int32)) (pt (uA 47 (upd (s6.1 47) (Int32.toNatClampNeg (((3 : Int32) * (s6.2.2.1 17)) + (1 : Int32))) (nI b)) s6) fun s9 => rdI 300 (((3 : Int32) * (s9.2.2.1 17)) + (2 : Int32)) (pt (uA 47 (upd (s9.1 47) (Int32.toNatClampNeg (((3 : Int32) * (s9.2.2.1 17)) + (2 : Int32))) (nI c)) s9) fun s12 => pt (uF 17 ((s12.2.2.1 17) + (1 : Int32)) s12) fun s14 => r128 k 8 w (nI a) (nI b) (nI (c + 1)) s14)))) := by
              intro k hk
              simp only [r128]
              rw [if_neg (by decide), if_neg (by decide), if_neg (by decide), if_neg (by decide), if_neg (by decide), if_neg (by decide), if_neg (by decide), if_neg (by decide), hn, if_neg (fun q => by have := (nI_leI (by omega) (by omega)).mp q; omega), hk, nI_inc]
              rfl
            cases g with
            | false =>
              have nt : ¬ Tr X Y n E a b c := fun q => by have := g2.mpr q; cases this
              obtain ⟨t, L', q1, q2⟩ := ihf (c + 1) (by omega) (by omega) s L hP hX hY hn hE (by
                rcases hL with ⟨h1, h2⟩ | ⟨h1, h2⟩
                · refine Or.inl ⟨h1, fun z hz haz => ?_⟩
                  have := h2 z hz haz
                  have : z ≠ c := fun q => nt (by rw [← q]; exact hz)
                  omega
                · exact Or.inr ⟨h1, fun z hz => by have := h2 z hz; omega⟩) hN
              refine ⟨t, L', ev2 g1 q1 fun k hk1 hk2 => ?_, q2⟩
              show r128 (k + 1) _ _ _ _ _ _ = _
              rw [hd k hk1, if_pos (show bI false = 0 from rfl)]
              exact hk2
            | true =>
              have ht := g2.mp rfl
              have h1 : NL X Y n E (40 * a + b) L := by
                rcases hL with ⟨h1, h2⟩ | ⟨_, h2⟩
                · exact h1
                · have := h2 c ht; omega
              have hl : lst X Y n E ik a b := ⟨c, ht, by unfold ik; omega, by unfold ik; omega⟩
              have hL2 : NL X Y n E (40 * a + b + 1) (L ++ [40 * a + b]) := by
                refine ⟨List.pairwise_append.mpr ⟨h1.1, List.pairwise_singleton _ _, fun x hx y hy => ?_⟩, fun x => ?_⟩
                · have := ((h1.2 x).mp hx).1
                  have := List.mem_singleton.mp hy
                  omega
                · rw [List.mem_append, List.mem_singleton, h1.2 x]
                  constructor
                  · rintro (⟨k1, k2⟩ | k)
                    · exact ⟨by omega, k2⟩
                    · rw [k]
                      refine ⟨by omega, ?_⟩
                      rw [show (40 * a + b) / 40 = a by omega, show (40 * a + b) % 40 = b by omega]
                      exact hl
                  · intro ⟨k1, k2⟩
                    by_cases ec : x = 40 * a + b
                    · exact Or.inr ec
                    · exact Or.inl ⟨by omega, k2⟩
              have len := NL_75 hD hB hn4 hM hL2
              rw [List.length_append] at len
              have len2 : L.length < 75 := by simp at len; omega
              let T3 := upd (upd (upd (s.1 47) (3 * L.length) (nI a)) (3 * L.length + 1) (nI b)) (3 * L.length + 2) (nI c)
              let s3 := uF 17 (nI (L.length + 1)) (uA 47 T3 s)
              have z3 : ml s s3 := (sm_A (by decide) _ s).trans (sm_F (by decide) _ _)
              have hN3 : LM s3 n E (L ++ [40 * a + b]) := by
                refine ⟨by rw [uF_at, List.length_append]; rfl, fun i x z hi hz => ?_⟩
                have hz : Tr (Xm s) (Ym s) n E (x / 40) (x % 40) z := hz
                show T3 (3 * i) = _ ∧ T3 (3 * i + 1) = _ ∧ T3 (3 * i + 2) = _
                have T3at : ∀ j, T3 j = if j = 3 * L.length + 2 then nI c else if j = 3 * L.length + 1 then nI b else if j = 3 * L.length then nI a else s.1 47 j := fun j => rfl
                rw [T3at, T3at, T3at]
                by_cases il : i < L.length
                · rw [List.getElem?_append_left il] at hi
                  obtain ⟨r1, r2, r3⟩ := hN.2 i x z hi hz
                  rw [if_neg (by omega), if_neg (by omega), if_neg (by omega), if_neg (by omega), if_neg (by omega), if_neg (by omega), if_neg (by omega), if_neg (by omega), if_neg (by omega)]
                  exact ⟨r1, r2, r3⟩
                · have ei : i = L.length := by
                    have := (List.getElem?_eq_some_iff.mp hi).1
                    rw [List.length_append] at this
                    simp at this
                    omega
                  rw [ei, List.getElem?_append_right (by omega), Nat.sub_self] at hi
                  have ec : x = 40 * a + b := by simpa using hi.symm
                  have ea : x / 40 = a := by omega
                  have eb : x % 40 = b := by omega
                  rw [ea, eb] at hz ⊢
                  rw [hX, hY] at hz
                  have ez := Tr.uniq hM hz ht
                  rw [ez, ei]
                  refine ⟨?_, ?_, ?_⟩
                  · rw [if_neg (by omega), if_neg (by omega), if_pos rfl]
                  · rw [if_neg (by omega), if_pos rfl]
                  · rw [if_pos rfl]
              obtain ⟨t, L', q1, q2, q3⟩ := ihf (c + 1) (by omega) (by omega) s3 (L ++ [40 * a + b]) hP hX hY hn hE (Or.inr ⟨hL2, fun z hz => by rw [Tr.uniq hM hz ht]; omega⟩) hN3
              refine ⟨t, L', ev2 g1 q1 fun k hk1 hk2 => ?_, z3.trans q2, q3⟩
              show r128 (k + 1) _ _ _ _ _ _ = _
              rw [hd k hk1, if_neg (show ¬ bI true = 0 by decide)]
              have e47 : ∀ (T U : Nat → Int32) (s : mS), uA 47 U (uA 47 T s) = uA 47 U s := by
                intro T U s
                unfold uA
                ext <;> simp
                split <;> rfl
              have k17 : ∀ (T : Nat → Int32) (u : mS), (uA 47 T u).2.2.1 17 = u.2.2.1 17 := fun _ _ => rfl
              simp only [pt, uA_at, e47, k17, hN.1, nI_3, nI_p _ 1 1 rfl, nI_p _ 2 2 rfl, rdI_nI (show 3 * L.length < 300 by omega) (show 300 < 2 ^ 31 by decide), rdI_nI (show 3 * L.length + 1 < 300 by omega) (show 300 < 2 ^ 31 by decide), rdI_nI (show 3 * L.length + 2 < 300 by omega) (show 300 < 2 ^ 31 by decide), nI_clamp (show 3 * L.length < 2 ^ 31 by omega), nI_clamp (show 3 * L.length + 1 < 2 ^ 31 by omega), nI_clamp (show 3 * L.length + 2 < 2 ^ 31 by omega)]
              exact hk2
        obtain ⟨t, L', g1, g2⟩ := h8 (n - (a + 1)) (a + 1) (by omega) (by omega) s L hP hX hY hn hE (Or.inl ⟨hL, fun z _ h => by omega⟩) hN
        refine ⟨t, L', ev1 g1 fun k hk => ?_, g2⟩
        show r128 (k + 1) _ _ _ _ _ _ = _
        simp only [r128]
        rw [if_neg (by decide), if_neg (by decide), if_neg (by decide), if_neg (by decide), if_neg (by decide), if_neg (by decide), if_neg (by decide), if_pos trivial, hn, if_neg (fun q => by have := (nI_leI (by omega) (by omega)).mp q; omega), nI_1]
        exact hk
    obtain ⟨t, L', g1, g2⟩ := h7 (n - (a + 1)) (a + 1) (by omega) (by omega) s L hP hX hY hn hE (NL_ext hL (by omega) (fun c k1 k2 k3 => by have := lst_lt hM k3; omega)) hN
    refine ⟨t, L', ev1 g1 fun k hk => ?_, g2⟩
    show r128 (k + 1) _ _ _ _ _ _ = _
    simp only [r128]
    rw [if_neg (by decide), if_neg (by decide), if_neg (by decide), if_neg (by decide), if_neg (by decide), if_neg (by decide), if_pos trivial, hn, if_neg (fun q => by have := (nI_leI (by omega) (by omega)).mp q; omega), nI_1]
    exact hk
