/-! a new left end: the turns bend, and so will the next one -/
theorem Kp.fresh {X Y f : Nat → Int} {L R : Nat → Nat} {p u t lam rho : Nat} {l' r' : List Nat} (h1 : ¬ pe X Y u t) (h2 : FN X Y u t lam rho) (hf : Aff X Y f) (h0 : f t = 0) (hl : 0 < f lam) (hr : 0 < f rho) : Kp X Y L R p u t (lam :: l') (rho :: r') := by
  refine ⟨h1, fun lam2 l2 rho2 r2 e1 e2 => ?_, fun e => (by cases e), fun e => (by cases e)⟩
  cases e1
  cases e2
  exact ⟨h2, f, hf, h0, hl, hr⟩
theorem turnsK {X Y : Nat → Int} {L R : Nat → Nat} {p : Nat} (hR : R (p + 1) = R p) (hw : 0 < (ar X Y (L p) (R p) (L (p + 1)))) : ∀ r u v q, RC X Y L R p u v q r → (ar X Y u v (L (p + 1))) < 0 →
    PN X Y (u :: v :: (tnL X Y (L (p + 1)) v (r.map Prod.fst)).1) ∧ ∀ m u', u :: v :: (tnL X Y (L (p + 1)) v (r.map Prod.fst)).1 = m ++ [u', (tnL X Y (L (p + 1)) v (r.map Prod.fst)).2.1] → Kp X Y L R (p + 1) u' (tnL X Y (L (p + 1)) v (r.map Prod.fst)).2.1 [L (p + 1)] (tnL X Y (L (p + 1)) v (r.map Prod.fst)).2.2 := by
  intro r
  induction r with
  | nil =>
    intro u v q h hu
    obtain ⟨h1, h2, h3⟩ := h
    refine ⟨trivial, fun m u' e => ?_⟩
    have e : [u, v] = m ++ [u', v] := e
    have em : m = [] := by
      have := congrArg List.length e
      simp at this
      exact this
    subst em
    have eu : u = u' := by simpa using e
    subst eu
    show Kp X Y L R (p + 1) u v [L (p + 1)] []
    refine ⟨fun k => ?_, fun lam l' rho r' _ e => (by cases e), fun _ => ⟨p, Nat.le_refl _, fun i a b => ?_, h3, hu⟩, fun e => (by cases e)⟩
    · rw [pe_ar k] at hu
      have : (ar X Y v v (L (p + 1))) = 0 := by unfold ar; grind
      omega
    · by_cases c : i = p
      · rw [c, h2]
      · rw [show i = p + 1 by omega, hR, h2]
  | cons z r ih =>
    intro u v q h hu
    obtain ⟨v', q'⟩ := z
    obtain ⟨h1, h2, h3, ⟨lam, jl, hs, hc⟩, h5⟩ := h
    have hv' := hc.2.2
    rw [List.map_cons, tnL]
    by_cases c : (ar X Y v v' (L (p + 1))) < 0
    · rw [if_pos c]
      obtain ⟨i1, i2⟩ := ih v v' q' h5 c
      refine ⟨⟨NS.of (show (ar X Y u v v') ≠ 0 by omega), i1⟩, fun m u' e => ?_⟩
      cases m with
      | nil =>
        have := congrArg List.length e
        simp at this
      | cons a m =>
        refine i2 m u' ?_
        have e : u :: (v :: v' :: (tnL X Y (L (p + 1)) v' (r.map Prod.fst)).1) = a :: (m ++ [u', (tnL X Y (L (p + 1)) v' (r.map Prod.fst)).2.1]) := e
        exact (List.cons.inj e).2
    · rw [if_neg c]
      refine ⟨trivial, fun m u' e => ?_⟩
      have e : [u, v] = m ++ [u', v] := e
      have em : m = [] := by
        have := congrArg List.length e
        simp at this
        exact this
      subst em
      have eu : u = u' := by simpa using e
      subst eu
      have hs2 := (hc.turn hw hu).2 (by omega)
      obtain ⟨f, hf, h0, k1, k2, k3, k4, _⟩ := hs2
      show Kp X Y L R (p + 1) u v [L (p + 1)] (v' :: r.map Prod.fst)
      refine Kp.fresh (fun k => ?_) (FN.side (Or.inl ⟨hu, hv'⟩)) hf h0 k3 k4
      rw [pe_ar k] at hu
      have : (ar X Y v v (L (p + 1))) = 0 := by unfold ar; grind
      omega
theorem Tip.stepK {X Y : Nat → Int} {L R : Nat → Nat} {p : Nat} {ZN : Nat → Nat → List Nat → Prop} {ZS : Nat → Nat → Nat → Nat → Nat → Nat → List Nat → Prop} (hR : R (p + 1) = R p) (hw : 0 < (ar X Y (L p) (R p) (L (p + 1)))) {t : Nat} {cl cr : List Nat} {Zf : List Nat → Prop} (hfan : ∀ u q, q + 1 ≤ p → (∀ i, q ≤ i → i ≤ p → L i = t) → (ar X Y u t (R q)) ≤ 0 → 0 < (ar X Y u t (R (q + 1))) → FN X Y u t (L (p + 1)) (R p)) (h : Tip X Y L R ZN ZS p t cl cr Zf) :
    (∀ u, Kp X Y L R p u t cl cr → ((adL X Y (L (p + 1)) t cl cr).1 = [] → Kp X Y L R (p + 1) u (adL X Y (L (p + 1)) t cl cr).2.1 (adL X Y (L (p + 1)) t cl cr).2.2.1 (adL X Y (L (p + 1)) t cl cr).2.2.2) ∧ ∀ e r, (adL X Y (L (p + 1)) t cl cr).1 = e :: r → NS X Y u t e) ∧
    ((adL X Y (L (p + 1)) t cl cr).1 ≠ [] → PN X Y (t :: (adL X Y (L (p + 1)) t cl cr).1) ∧ ∀ m u', t :: (adL X Y (L (p + 1)) t cl cr).1 = m ++ [u', (adL X Y (L (p + 1)) t cl cr).2.1] → Kp X Y L R (p + 1) u' (adL X Y (L (p + 1)) t cl cr).2.1 (adL X Y (L (p + 1)) t cl cr).2.2.1 (adL X Y (L (p + 1)) t cl cr).2.2.2) := by
  rcases h with ⟨lam, jl, rho, jr, l', r', e1, e2, hs, hi1, hi2, hL, hRc, ez⟩ | ⟨ht, e1, e2, ez⟩ | ⟨ht, e1, e2, ez⟩ | ⟨ht, ht2, e1, e2, ez⟩
  · subst e1 e2
    by_cases hn : (ar X Y t rho (L (p + 1))) < 0
    · have hlam := hs.turnL hw hn
      have ep : popL X Y (L (p + 1)) t (lam :: l'.map Prod.fst) = [] := by
        simp only [popL]
        rw [(LC.stepL hR hw l' t lam jl hL).2 hlam]
        exact if_neg (by omega)
      have et : tnL X Y (L (p + 1)) t (rho :: r'.map Prod.fst) = (rho :: (tnL X Y (L (p + 1)) rho (r'.map Prod.fst)).1, (tnL X Y (L (p + 1)) rho (r'.map Prod.fst)).2) := by
        rw [tnL]
        exact if_pos hn
      have ea : adL X Y (L (p + 1)) t (lam :: l'.map Prod.fst) (rho :: r'.map Prod.fst) = (rho :: (tnL X Y (L (p + 1)) rho (r'.map Prod.fst)).1, (tnL X Y (L (p + 1)) rho (r'.map Prod.fst)).2.1, [L (p + 1)], (tnL X Y (L (p + 1)) rho (r'.map Prod.fst)).2.2) := by
        unfold adL
        rw [ep, et]
      rw [ea]
      refine ⟨fun u hK => ⟨fun e => (by cases e), fun e r q => ?_⟩, fun _ => turnsK hR hw r' t rho jr hRc hn⟩
      have q : rho :: (tnL X Y (L (p + 1)) rho (r'.map Prod.fst)).1 = e :: r := q
      have eh : rho = e := (List.cons.inj q).1
      rw [← eh]
      obtain ⟨k1, _⟩ := hK.2.1 lam _ rho _ rfl rfl
      refine (k1.into (CN.r X Y t lam rho) (CN.r X Y t lam rho)).ns hK.1 (fun k => ?_)
      have : (ar X Y t rho (L (p + 1))) = 0 := by unfold ar; rw [k.1, k.2]; grind
      omega
    · have hn' : 0 ≤ (ar X Y t rho (L (p + 1))) := by omega
      have et : tnL X Y (L (p + 1)) t (rho :: r'.map Prod.fst) = ([], t, rho :: r'.map Prod.fst) := by
        rw [tnL]
        exact if_neg hn
      by_cases c : 0 < (ar X Y t lam (L (p + 1)))
      · have ep : popL X Y (L (p + 1)) t (lam :: l'.map Prod.fst) = lam :: popL X Y (L (p + 1)) lam (l'.map Prod.fst) := by
          simp only [popL]
          cases popL X Y (L (p + 1)) lam (l'.map Prod.fst) with
          | nil => exact if_pos c
          | cons x y => rfl
        have ea : adL X Y (L (p + 1)) t (lam :: l'.map Prod.fst) (rho :: r'.map Prod.fst) = ([], t, lam :: (popL X Y (L (p + 1)) lam (l'.map Prod.fst) ++ [L (p + 1)]), rho :: r'.map Prod.fst) := by
          unfold adL
          rw [ep]
          rfl
        rw [ea]
        refine ⟨fun u hK => ⟨fun _ => ?_, fun e r q => (by cases q)⟩, fun q => absurd rfl q⟩
        obtain ⟨k1, f, f1, f2, f3, f4⟩ := hK.2.1 lam _ rho _ rfl rfl
        exact Kp.fresh hK.1 k1 f1 f2 f3 f4
      · have ep : popL X Y (L (p + 1)) t (lam :: l'.map Prod.fst) = [] := by
          simp only [popL]
          rw [(LC.stepL hR hw l' t lam jl hL).2 (by omega)]
          exact if_neg c
        have ea : adL X Y (L (p + 1)) t (lam :: l'.map Prod.fst) (rho :: r'.map Prod.fst) = ([], t, [L (p + 1)], rho :: r'.map Prod.fst) := by
          unfold adL
          rw [ep, et]
        rw [ea]
        refine ⟨fun u hK => ⟨fun _ => ?_, fun e r q => (by cases q)⟩, fun q => absurd rfl q⟩
        obtain ⟨k1, _⟩ := hK.2.1 lam _ rho _ rfl rfl
        obtain ⟨f, f1, f2, f3, f4, f5⟩ := hs.cn hw hn' (by omega)
        have := ar_t X Y t (L (p + 1)) lam
        exact Kp.fresh hK.1 (k1.into (CN.of f1 f2 f3 f4 f5 hn' (by omega)) (CN.r X Y t lam rho)) f1 f2 f5 f4
  · subst e1 e2
    have neg : ¬ 0 < (ar X Y t (L p) (L (p + 1))) := by
      rw [pe_ar ht]
      have := ar_s X Y (R p) (L p) (L (p + 1))
      omega
    have ea : adL X Y (L (p + 1)) t [L p] [] = ([], t, [L (p + 1)], []) := by
      unfold adL
      simp only [popL, tnL]
      rw [if_neg neg]
    rw [ea]
    refine ⟨fun u hK => ⟨fun _ => ⟨hK.1, fun lam l' rho r' _ e => (by cases e), fun _ => ?_, fun e => (by cases e)⟩, fun e r q => (by cases q)⟩, fun q => absurd rfl q⟩
    obtain ⟨q, q1, q2, q3, q4⟩ := hK.2.2.1 rfl
    refine ⟨q, by omega, fun i a b => ?_, q3, q4⟩
    by_cases c : i ≤ p
    · exact q2 i a c
    · rw [show i = p + 1 by omega, hR]
      exact q2 p (by omega) (Nat.le_refl _)
  · subst e1 e2
    have ps : 0 < (ar X Y t (R p) (L (p + 1))) := by rw [pe_ar ht]; exact hw
    have ea : adL X Y (L (p + 1)) t [] [R p] = ([], t, [L (p + 1)], [R p]) := by
      unfold adL
      simp only [popL, tnL]
      rw [if_neg (by omega)]
    rw [ea]
    refine ⟨fun u hK => ⟨fun _ => ?_, fun e r q => (by cases q)⟩, fun q => absurd rfl q⟩
    obtain ⟨q, q1, q2, q3, q4⟩ := hK.2.2.2 rfl
    exact Kp.fresh hK.1 (hfan u q q1 q2 q3 q4) (dg_aff X Y t (L (p + 1)) (R p)) (dg_v X Y _ _ _) (by rw [dg_L]; exact ps) (by rw [dg_R]; exact ps)
  · subst e1 e2
    obtain ⟨n1, n2⟩ := ht _ hw
    have ea : adL X Y (L (p + 1)) t [L p] [R p] = ([], t, [L (p + 1)], [R p]) := by
      unfold adL
      simp only [popL, tnL]
      rw [if_neg (by omega)]
      show ((if _ then _ else _ : List Nat × Nat × List Nat).1, _) = _
      rw [if_neg (by omega)]
    rw [ea]
    refine ⟨fun u hK => ⟨fun _ => ?_, fun e r q => (by cases q)⟩, fun q => absurd rfl q⟩
    obtain ⟨k1, f, f1, f2, f3, f4⟩ := hK.2.1 (L p) [] (R p) [] rfl rfl
    have hA : 0 ≤ (ar X Y t (R p) (L p)) := (ht2 (L p) (by rw [ar_xyx]; exact Int.le_refl _)).2
    have e := tr3 f1 f2 (R p) (L (p + 1)) (L p)
    have en := ar_t X Y t (L (p + 1)) (L p)
    have s1 := mpp f4 (show 0 < (ar X Y t (L (p + 1)) (L p)) by omega)
    have s2 := mpp f3 n2
    have hA' : 0 < (ar X Y t (R p) (L p)) := by
      refine Decidable.byContradiction fun k => ?_
      have z : (ar X Y t (R p) (L p)) = 0 := by omega
      rw [z, Int.mul_zero] at e
      omega
    have fw : 0 < f (L (p + 1)) := by
      refine cpos hA' ?_
      rw [Int.mul_comm]
      omega
    exact Kp.fresh hK.1 (k1.into (CN.of f1 f2 f3 f4 fw (Int.le_of_lt n2) (by omega)) (CN.r X Y t (L p) (R p))) f1 f2 fw f4
