/-! the goal -/
/-- lam and rho hold at the goal too -/
theorem chL.goal {X Y : Nat → Int} {u v L R lam rho b : Nat} (h : chL X Y u v L R lam rho) (hb : 0 ≤ (ar X Y L R b)) (hu : 0 < (ar X Y u v b)) : 0 ≤ (ar X Y v rho b) := by
  obtain ⟨hs, h1, h2⟩ := h
  obtain ⟨hA, g1, g2, g3⟩ := hs.back (Int.le_of_lt h1) h2 (Or.inl (by omega))
  have gw : 0 < dg X Y v L R b := by rw [dg_w]; omega
  have e := tr_u (dg_aff X Y v L R) (dg_v X Y v L R) u rho b
  have a1 := mpp g2 hu
  have a2 := zpn (Int.le_of_lt gw) h2
  exact cnn g3 (by omega)
theorem chL.down {X Y : Nat → Int} {u v L R lam rho b : Nat} (h : chL X Y u v L R lam rho) (hb : 0 ≤ (ar X Y L R b)) (hl : 0 < (ar X Y v lam b)) : 0 < (ar X Y u v b) := by
  obtain ⟨hs, h1, h2⟩ := h
  obtain ⟨hA, g1, g2, g3⟩ := hs.back (Int.le_of_lt h1) h2 (Or.inl (by omega))
  have gw : 0 < dg X Y v L R b := by rw [dg_w]; omega
  have e := tr_u (dg_aff X Y v L R) (dg_v X Y v L R) u lam b
  have a1 := mpp g3 hl
  have a2 := mpp gw h1
  exact cpos g1 (by omega)
theorem chR.goal {X Y : Nat → Int} {u v L R lam rho b : Nat} (h : chR X Y u v L R lam rho) (hb : 0 ≤ (ar X Y L R b)) (hu : (ar X Y u v b) < 0) : (ar X Y v lam b) < 0 := by
  obtain ⟨hs, h1, h2⟩ := h
  obtain ⟨hA, g1, g2, g3⟩ := hs.back h1 (Int.le_of_lt h2) (Or.inr (by omega))
  have gw : 0 < dg X Y v L R b := by rw [dg_w]; omega
  have e := tr_u (dg_aff X Y v L R) (dg_v X Y v L R) u lam b
  have a1 := mpn g1 hu
  have a2 := zpp (Int.le_of_lt gw) h1
  exact cneg g3 (by omega)
theorem see.goal {X Y : Nat → Int} {v L R lam rho b : Nat} (h : see X Y v L R lam rho) (hb : 0 ≤ (ar X Y L R b)) (hn : (ar X Y v rho b) < 0) : (ar X Y v lam b) ≤ 0 := by
  refine Decidable.byContradiction fun k => ?_
  have hk : 0 < (ar X Y v lam b) := by omega
  by_cases c : 0 < (ar X Y v R L)
  · obtain ⟨g1, g2⟩ := h.G c
    obtain ⟨f, hf, h0, h1, h2, h3, h4, h5, h6, h7⟩ := h
    have gw : 0 < dg X Y v L R b := by rw [dg_w]; omega
    have := tr_le (dg_aff X Y v L R) (dg_v X Y v L R) g2 g1 gw h6 (Int.le_of_lt hk)
    omega
  · have hA := h.A
    have hz : (ar X Y v R L) = 0 := by omega
    obtain ⟨f, hf, h0, h1, h2, h3, h4, h5, h6, h7⟩ := h
    have z : (ar X Y v rho lam) = 0 := by
      refine Decidable.byContradiction fun q => ?_
      have a := tr_lt2 hf h0 h2 h4 h3 h5 (show 0 < (ar X Y v rho lam) by omega)
      have b := tr_lt1 hf h0 h2 h3 h1 a h7
      omega
    have e := tr3 hf h0 rho lam b
    rw [z, Int.mul_zero, Int.add_zero] at e
    have a1 := mpp h4 hk
    have a2 := mpn h3 hn
    omega
/-- the end of the reference's run -/
def Ze (l : Nat) (ZS : Nat → Nat → Nat → Nat → Nat → Nat → List Nat → Prop) (ZE : List Nat → Prop) : Prop := ∀ t lam jl rho jr ts, ZE ts → ZS t l lam jl rho jr ts
theorem LC.end {X Y : Nat → Int} {L R : Nat → Nat} {p u v q : Nat} {r : List (Nat × Nat)} (h : LC X Y L R p u v q r) : L q = v ∧ q ≤ p := by
  cases r with
  | nil => exact ⟨by rw [h.1]; exact h.2.1.symm, by rw [h.1]; exact Nat.le_refl _⟩
  | cons z r =>
    obtain ⟨v', q'⟩ := z
    exact ⟨h.1, Nat.le_of_lt h.2.1⟩
theorem goalL {X Y : Nat → Int} {L R : Nat → Nat} {p b : Nat} {ZN : Nat → Nat → List Nat → Prop} {ZS : Nat → Nat → Nat → Nat → Nat → Nat → List Nat → Prop} {ZE : List Nat → Prop} (hZ : Zc X Y L R (p + 1) ZN ZS) (hE : Ze (p + 1) ZS ZE) (eL : L (p + 1) = b) (eR : R (p + 1) = b) (hb : 0 ≤ (ar X Y (L p) (R p) b)) : ∀ r u v q, LC X Y L R p u v q r → (0 < (ar X Y u v b) → ∀ ts, ZE (ts ++ popL X Y b v (r.map Prod.fst)) → ZN v q ts) ∧ ((ar X Y u v b) ≤ 0 → popL X Y b v (r.map Prod.fst) = []) := by
  intro r
  induction r with
  | nil =>
    intro u v q h
    refine ⟨fun hu ts hz => ?_, fun _ => rfl⟩
    have e : ts ++ popL X Y b v (List.map Prod.fst ([] : List (Nat × Nat))) = ts := List.append_nil ts
    rw [e] at hz
    rw [h.1]
    exact hZ.1 v p ts (Nat.le_refl _) (fun q => absurd q (Nat.lt_irrefl _)) (hE _ _ _ _ _ ts hz)
  | cons z r ih =>
    intro u v q h
    obtain ⟨v', q'⟩ := z
    obtain ⟨h1, h2, h3, ⟨rho, jr, hs, hc⟩, h5⟩ := h
    obtain ⟨i1, i2⟩ := ih v v' q' h5
    have he := h5.end
    have hrl := hc.1.Rl
    have back : ∀ ts, ZS v p v' q' rho jr ts → ZN v q ts := fun ts hz => hZ.1 v q ts (by omega) (fun _ => not_on h3) (hs.run hZ (by omega) hz)
    rw [List.map_cons]
    by_cases c : 0 < (ar X Y v v' b)
    · have hu := hc.down hb c
      have ep : popL X Y b v (v' :: r.map Prod.fst) = v' :: popL X Y b v' (r.map Prod.fst) := by
        simp only [popL]
        cases popL X Y b v' (r.map Prod.fst) with
        | nil => exact if_pos c
        | cons x y => rfl
      refine ⟨fun _ ts hz => back ts (hZ.2.2.2.2 v p ts v' q' rho jr (Nat.le_refl _) (by rw [eL]; exact hc.goal hb hu) (by rw [eR]; exact c) he.1 he.2 (i1 c (ts ++ [v']) ?_)), fun q => by omega⟩
      rw [ep] at hz
      have ea : ts ++ (v' :: popL X Y b v' (r.map Prod.fst)) = (ts ++ [v']) ++ popL X Y b v' (r.map Prod.fst) := by simp
      rw [← ea]
      exact hz
    · have ep : popL X Y b v (v' :: r.map Prod.fst) = [] := by
        simp only [popL]
        rw [i2 (by omega)]
        exact if_neg c
      refine ⟨fun hu ts hz => back ts ?_, fun _ => ep⟩
      rw [ep, List.append_nil] at hz
      have hn := hc.goal hb hu
      by_cases d : (ar X Y v rho b) < 0
      · omega
      · exact hZ.2.2.1 v p ts v' q' rho jr b (p + 1) b (p + 1) (Nat.le_refl _) ⟨by rw [eL]; exact hn, by rw [eR]; omega, Or.inr ⟨by rw [eL]; omega, eL.symm, rfl⟩, Or.inr ⟨by rw [eR]; exact hn, eR.symm, rfl⟩⟩ (hE _ _ _ _ _ ts hz)
theorem goalR {X Y : Nat → Int} {L R : Nat → Nat} {p b : Nat} {ZN : Nat → Nat → List Nat → Prop} {ZS : Nat → Nat → Nat → Nat → Nat → Nat → List Nat → Prop} {ZE : List Nat → Prop} (hZ : Zc X Y L R (p + 1) ZN ZS) (hE : Ze (p + 1) ZS ZE) (eL : L (p + 1) = b) (eR : R (p + 1) = b) (hb : 0 ≤ (ar X Y (L p) (R p) b)) : ∀ r u v q, RC X Y L R p u v q r → (ar X Y u v b) < 0 → ∀ ts, ZE (ts ++ (tnL X Y b v (r.map Prod.fst)).1) → ZN v q ts := by
  intro r
  induction r with
  | nil =>
    intro u v q h hu ts hz
    have e : ts ++ (tnL X Y b v (List.map Prod.fst ([] : List (Nat × Nat)))).1 = ts := List.append_nil ts
    rw [e] at hz
    rw [h.1]
    exact hZ.1 v p ts (Nat.le_refl _) (fun q => absurd q (Nat.lt_irrefl _)) (hE _ _ _ _ _ ts hz)
  | cons z r ih =>
    intro u v q h hu ts hz
    obtain ⟨v', q'⟩ := z
    obtain ⟨h1, h2, h3, ⟨lam, jl, hs, hc⟩, h5⟩ := h
    have he := h5.end
    have hlam := hc.goal hb hu
    have back : ∀ ts, ZS v p lam jl v' q' ts → ZN v q ts := fun ts hz => hZ.1 v q ts (by omega) (fun _ => not_on h3) (hs.run hZ (by omega) hz)
    rw [List.map_cons, tnL] at hz
    by_cases c : (ar X Y v v' b) < 0
    · rw [if_pos c] at hz
      refine back ts (hZ.2.2.2.1 v p ts lam jl v' q' (Nat.le_refl _) (by rw [eL]; exact c) (by rw [eR]; omega) he.1 he.2 (ih v v' q' h5 c (ts ++ [v']) ?_))
      have ea : ts ++ (v' :: (tnL X Y b v' (r.map Prod.fst)).1) = (ts ++ [v']) ++ (tnL X Y b v' (r.map Prod.fst)).1 := by simp
      rw [← ea]
      exact hz
    · rw [if_neg c, List.append_nil] at hz
      exact back ts (hZ.2.2.1 v p ts lam jl v' q' b (p + 1) b (p + 1) (Nat.le_refl _) ⟨by rw [eL]; omega, by rw [eR]; omega, Or.inr ⟨by rw [eL]; omega, eL.symm, rfl⟩, Or.inr ⟨by rw [eR]; omega, eR.symm, rfl⟩⟩ (hE _ _ _ _ _ ts hz))
