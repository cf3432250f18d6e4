/-! the goal, from the tip -/
/-- the last turns -/
def gl (X Y : Nat → Int) (b t : Nat) (cl cr : List Nat) : List Nat := match popL X Y b t cl with
  | [] => (tnL X Y b t cr).1
  | x :: y => x :: y
theorem Tip.goal {X Y : Nat → Int} {L R : Nat → Nat} {p b t : Nat} {cl cr : List Nat} {Zf : List Nat → Prop} {ZN : Nat → Nat → List Nat → Prop} {ZS : Nat → Nat → Nat → Nat → Nat → Nat → List Nat → Prop} {ZE : List Nat → Prop} (hZ : Zc X Y L R (p + 1) ZN ZS) (hE : Ze (p + 1) ZS ZE) (eL : L (p + 1) = b) (eR : R (p + 1) = b) (hb : 0 ≤ (ar X Y (L p) (R p) b)) (h : Tip X Y L R ZN ZS p t cl cr Zf) : ∀ ts, ZE (ts ++ gl X Y b t cl cr) → Zf ts := by
  intro ts hz
  have fresh : ∀ t, ZE ts → ZN t p ts := fun t hz => hZ.1 t p ts (Nat.le_refl _) (fun q => absurd q (Nat.lt_irrefl _)) (hE _ _ _ _ _ ts hz)
  rcases h with ⟨lam, jl, rho, jr, l', r', e1, e2, hs, hi1, hi2, hL, hRc, ez⟩ | ⟨ht, e1, e2, ez⟩ | ⟨ht, e1, e2, ez⟩ | ⟨_, ht, e1, e2, ez⟩
  · subst e1 e2 ez
    obtain ⟨g1, g2⟩ := goalL hZ hE eL eR hb l' t lam jl hL
    by_cases hn : (ar X Y t rho b) < 0
    · have hlam := hs.goal hb hn
      have ep : popL X Y b t (lam :: l'.map Prod.fst) = [] := by
        simp only [popL]
        rw [g2 hlam]
        exact if_neg (by omega)
      have eg : gl X Y b t (lam :: l'.map Prod.fst) (rho :: r'.map Prod.fst) = rho :: (tnL X Y b rho (r'.map Prod.fst)).1 := by
        unfold gl
        rw [ep, tnL, if_pos hn]
      rw [eg] at hz
      have he := hRc.end
      refine hZ.2.2.2.1 t p ts lam jl rho jr (Nat.le_refl _) (by rw [eL]; exact hn) (by rw [eR]; exact hlam) he.1 he.2 (goalR hZ hE eL eR hb r' t rho jr hRc hn (ts ++ [rho]) ?_)
      have ea : ts ++ (rho :: (tnL X Y b rho (r'.map Prod.fst)).1) = (ts ++ [rho]) ++ (tnL X Y b rho (r'.map Prod.fst)).1 := by simp
      rw [← ea]
      exact hz
    · by_cases c : 0 < (ar X Y t lam b)
      · have ep : popL X Y b t (lam :: l'.map Prod.fst) = lam :: popL X Y b lam (l'.map Prod.fst) := by
          simp only [popL]
          cases popL X Y b lam (l'.map Prod.fst) with
          | nil => exact if_pos c
          | cons x y => rfl
        have eg : gl X Y b t (lam :: l'.map Prod.fst) (rho :: r'.map Prod.fst) = lam :: popL X Y b lam (l'.map Prod.fst) := by
          unfold gl
          rw [ep]
        rw [eg] at hz
        have he := hL.end
        refine hZ.2.2.2.2 t p ts lam jl rho jr (Nat.le_refl _) (by rw [eL]; omega) (by rw [eR]; exact c) he.1 he.2 (g1 c (ts ++ [lam]) ?_)
        have ea : ts ++ (lam :: popL X Y b lam (l'.map Prod.fst)) = (ts ++ [lam]) ++ popL X Y b lam (l'.map Prod.fst) := by simp
        rw [← ea]
        exact hz
      · have ep : popL X Y b t (lam :: l'.map Prod.fst) = [] := by
          simp only [popL]
          rw [g2 (by omega)]
          exact if_neg c
        have eg : gl X Y b t (lam :: l'.map Prod.fst) (rho :: r'.map Prod.fst) = [] := by
          unfold gl
          rw [ep, tnL, if_neg hn]
        rw [eg, List.append_nil] at hz
        exact hZ.2.2.1 t p ts lam jl rho jr b (p + 1) b (p + 1) (Nat.le_refl _) ⟨by rw [eL]; omega, by rw [eR]; omega, Or.inr ⟨by rw [eL]; omega, eL.symm, rfl⟩, Or.inr ⟨by rw [eR]; omega, eR.symm, rfl⟩⟩ (hE _ _ _ _ _ ts hz)
  · subst e1 e2 ez
    have eg : gl X Y b t [L p] [] = [] := by
      unfold gl
      simp only [popL, tnL]
      rw [if_neg (by rw [pe_ar ht]; have := ar_s X Y (R p) (L p) b; omega)]
    rw [eg, List.append_nil] at hz
    exact fresh t hz
  · subst e1 e2 ez
    have eg : gl X Y b t [] [R p] = [] := by
      unfold gl
      simp only [popL, tnL]
      rw [if_neg (by rw [pe_ar ht]; omega)]
    rw [eg, List.append_nil] at hz
    exact fresh t hz
  · subst e1 e2 ez
    obtain ⟨n1, n2⟩ := ht b hb
    have eg : gl X Y b t [L p] [R p] = [] := by
      unfold gl
      simp only [popL, tnL]
      rw [if_neg (by omega)]
      show (if _ then _ else _ : List Nat × Nat × List Nat).1 = []
      rw [if_neg (by omega)]
    rw [eg, List.append_nil] at hz
    exact fresh t hz
