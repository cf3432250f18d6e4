/-! the tip and its chains, door by door -/
/-- where a point stands -/
def pe (X Y : Nat → Int) (a b : Nat) : Prop := X a = X b ∧ Y a = Y b
theorem pe_ar {X Y : Nat → Int} {a b : Nat} (h : pe X Y a b) (c d : Nat) : (ar X Y a c d) = (ar X Y b c d) := by unfold ar; rw [h.1, h.2]
def Tip (X Y : Nat → Int) (L R : Nat → Nat) (ZN : Nat → Nat → List Nat → Prop) (ZS : Nat → Nat → Nat → Nat → Nat → Nat → List Nat → Prop) (p t : Nat) (cl cr : List Nat) (Zf : List Nat → Prop) : Prop :=
  (∃ lam jl rho jr l' r', cl = lam :: l'.map Prod.fst ∧ cr = rho :: r'.map Prod.fst ∧ see X Y t (L p) (R p) lam rho ∧ ((ar X Y t rho (R p)) < 0 ∨ (rho = R p ∧ jr = p)) ∧ (0 < (ar X Y t lam (L p)) ∨ (lam = L p ∧ jl = p)) ∧ LC X Y L R p t lam jl l' ∧ RC X Y L R p t rho jr r' ∧ Zf = ZS t p lam jl rho jr) ∨
  (pe X Y t (R p) ∧ cl = [L p] ∧ cr = [] ∧ Zf = ZN t p) ∨
  (pe X Y t (L p) ∧ cl = [] ∧ cr = [R p] ∧ Zf = ZN t p) ∨
  ((∀ w, 0 < (ar X Y (L p) (R p) w) → (ar X Y t (L p) w) < 0 ∧ 0 < (ar X Y t (R p) w)) ∧ (∀ w, 0 ≤ (ar X Y (L p) (R p) w) → (ar X Y t (L p) w) ≤ 0 ∧ 0 ≤ (ar X Y t (R p) w)) ∧ cl = [L p] ∧ cr = [R p] ∧ Zf = ZN t p)
/-- a new left end: what is turned at, the tip, the chains -/
def adL (X Y : Nat → Int) (w t : Nat) (cl cr : List Nat) : List Nat × Nat × List Nat × List Nat := match popL X Y w t cl with
  | [] => ((tnL X Y w t cr).1, (tnL X Y w t cr).2.1, [w], (tnL X Y w t cr).2.2)
  | x :: y => ([], t, x :: y ++ [w], cr)
theorem Tip.stepL {X Y : Nat → Int} {L R : Nat → Nat} {l p : Nat} {ZN : Nat → Nat → List Nat → Prop} {ZS : Nat → Nat → Nat → Nat → Nat → Nat → List Nat → Prop} (hZ : Zc X Y L R l ZN ZS) (hl : p + 1 < l) (hR : R (p + 1) = R p) (hw : 0 < (ar X Y (L p) (R p) (L (p + 1)))) {t : Nat} {cl cr : List Nat} {Zf : List Nat → Prop} (h : Tip X Y L R ZN ZS p t cl cr Zf) :
    ∃ es t' cl' cr' Zf', adL X Y (L (p + 1)) t cl cr = (es, t', cl', cr') ∧ Tip X Y L R ZN ZS (p + 1) t' cl' cr' Zf' ∧ ∀ ts, Zf' (ts ++ es) → Zf ts := by
  have nl : ∀ ts : List Nat, ts ++ [] = ts := fun ts => List.append_nil ts
  -- a scan that begins at this door
  have begin : ∀ t, 0 < (ar X Y t (R p) (L (p + 1))) → Tip X Y L R ZN ZS (p + 1) t [L (p + 1)] [R p] (ZS t (p + 1) (L (p + 1)) (p + 1) (R (p + 1)) (p + 1)) ∧ ∀ ts, ZS t (p + 1) (L (p + 1)) (p + 1) (R (p + 1)) (p + 1) ts → ZN t p ts := by
    intro t ht
    have ht' : 0 < (ar X Y t (R (p + 1)) (L (p + 1))) := by rw [hR]; exact ht
    have hs := see.start ht'
    refine ⟨Or.inl ⟨L (p + 1), p + 1, R (p + 1), p + 1, [], [], rfl, by rw [hR]; rfl, hs, Or.inr ⟨rfl, rfl⟩, Or.inr ⟨rfl, rfl⟩, ⟨rfl, rfl, ?_⟩, ⟨rfl, rfl, Int.le_of_lt ht'⟩, rfl⟩, fun ts hz => hZ.1 t p ts (by omega) (fun _ => not_on ht') hz⟩
    have := ar_t X Y t (L (p + 1)) (R (p + 1))
    omega
  rcases h with ⟨lam, jl, rho, jr, l', r', e1, e2, hs, hi1, hi2, hL, hRc, ez⟩ | ⟨ht, e1, e2, ez⟩ | ⟨ht, e1, e2, ez⟩ | ⟨ht, _, e1, e2, ez⟩
  · subst e1 e2 ez
    have hrl := hs.Rl
    by_cases hn : (ar X Y t rho (L (p + 1))) < 0
    · -- a turn
      have hlam := hs.turnL hw hn
      have ep : popL X Y (L (p + 1)) t (lam :: l'.map Prod.fst) = [] := by
        simp only [popL]
        rw [(LC.stepL hR hw l' t lam jl hL).2 hlam]
        exact if_neg (by omega)
      have et : tnL X Y (L (p + 1)) t (rho :: r'.map Prod.fst) = (rho :: (tnL X Y (L (p + 1)) rho (r'.map Prod.fst)).1, (tnL X Y (L (p + 1)) rho (r'.map Prod.fst)).2) := by
        rw [tnL]
        exact if_pos hn
      have ea : adL X Y (L (p + 1)) t (lam :: l'.map Prod.fst) (rho :: r'.map Prod.fst) = (rho :: (tnL X Y (L (p + 1)) rho (r'.map Prod.fst)).1, (tnL X Y (L (p + 1)) rho (r'.map Prod.fst)).2.1, [L (p + 1)], (tnL X Y (L (p + 1)) rho (r'.map Prod.fst)).2.2) := by
        unfold adL
        rw [ep, et]
      have eas : ∀ (ts es : List Nat), ts ++ (rho :: es) = (ts ++ [rho]) ++ es := fun ts es => by simp
      have he := hRc.end
      have go : ∀ ts, ZN rho jr (ts ++ [rho]) → ZS t p lam jl rho jr ts := fun ts hz => hZ.2.2.2.1 t p ts lam jl rho jr (by omega) hn (by rw [hR]; exact hrl.1) he.1 he.2 hz
      rcases turnsL hZ hl hR hw r' t rho jr hRc hn with ⟨a1, a2, a3⟩ | ⟨t', x, q2, r2, a1, a2, a3, a4, a6, a5⟩
      · refine ⟨_, _, _, _, ZN (R (p + 1)) (p + 1), ea, ?_, fun ts hz => go ts (a3 (ts ++ [rho]) (by rw [← eas]; exact hz))⟩
        rw [a1, a2]
        exact Or.inr (Or.inl ⟨⟨rfl, rfl⟩, rfl, rfl, rfl⟩)
      · refine ⟨_, _, _, _, ZS t' (p + 1) (L (p + 1)) (p + 1) x q2, ea, ?_, fun ts hz => go ts (a5 (ts ++ [rho]) (by rw [← eas]; exact hz))⟩
        rw [a1, a2]
        refine Or.inl ⟨L (p + 1), p + 1, x, q2, [], r2, rfl, rfl, a3, a6, Or.inr ⟨rfl, rfl⟩, ⟨rfl, rfl, ?_⟩, a4, rfl⟩
        have := a3.A
        have := ar_t X Y t' (L (p + 1)) (R (p + 1))
        omega
    · have hn' : 0 ≤ (ar X Y t rho (L (p + 1))) := by omega
      have et : tnL X Y (L (p + 1)) t (rho :: r'.map Prod.fst) = ([], t, rho :: r'.map Prod.fst) := by
        rw [tnL]
        exact if_neg hn
      obtain ⟨q2, r2, k1, k2, k3⟩ := RC.stepL hR hw r' t rho jr hRc hn'
      -- the right side stays
      have s1 : ((ar X Y t rho (R (p + 1))) < 0 ∧ rho = rho ∧ q2 = jr) ∨ (0 ≤ (ar X Y t rho (R (p + 1))) ∧ rho = R (p + 1) ∧ q2 = p + 1) := by
        rw [hR]
        rcases hi1 with a | ⟨a, b⟩
        · rcases k3 with ⟨e, _⟩ | ⟨_, e⟩
          · rw [e] at hRc
            obtain ⟨_, e2, _⟩ := hRc
            rw [e2, ar_yxx] at a
            omega
          · exact Or.inl ⟨a, rfl, e⟩
        · rcases k3 with ⟨_, e⟩ | ⟨e, _⟩
          · exact Or.inr ⟨by rw [a, ar_yxx]; exact Int.le_refl _, a, e⟩
          · cases r' with
            | nil => exact absurd rfl e
            | cons z2 r3 =>
              obtain ⟨_, e2, _⟩ := hRc
              omega
      have s2 : (ar X Y t rho (R (p + 1))) < 0 ∨ (rho = R (p + 1) ∧ q2 = p + 1) := by
        rcases s1 with ⟨a, _⟩ | ⟨_, a, b⟩
        · exact Or.inl a
        · exact Or.inr ⟨a, b⟩
      by_cases c : 0 < (ar X Y t lam (L (p + 1)))
      · obtain ⟨l2, m1, m2⟩ := (LC.stepL hR hw l' t lam jl hL).1 c
        have ep : popL X Y (L (p + 1)) t (lam :: l'.map Prod.fst) = lam :: popL X Y (L (p + 1)) lam (l'.map Prod.fst) := by
          simp only [popL]
          cases popL X Y (L (p + 1)) lam (l'.map Prod.fst) with
          | nil => exact if_pos c
          | cons x y => rfl
        refine ⟨[], t, lam :: l2.map Prod.fst, rho :: r2.map Prod.fst, ZS t (p + 1) lam jl rho q2, ?_, Or.inl ⟨lam, jl, rho, q2, l2, r2, rfl, rfl, by rw [hR]; exact (hs.stepL hw hn').1 c, s2, Or.inl c, m1, k1, rfl⟩, fun ts hz => ?_⟩
        · unfold adL
          rw [ep, m2, k2]
          rfl
        · rw [nl] at hz
          exact hZ.2.2.1 t p ts lam jl rho jr lam jl rho q2 (by omega) ⟨hn', by rw [hR]; exact hrl.1, Or.inl ⟨c, rfl, rfl⟩, s1⟩ hz
      · have ep : popL X Y (L (p + 1)) t (lam :: l'.map Prod.fst) = [] := by
          simp only [popL]
          rw [(LC.stepL hR hw l' t lam jl hL).2 (by omega)]
          exact if_neg c
        have hs2 := (hs.stepL hw hn').2 (by omega)
        refine ⟨[], t, [L (p + 1)], rho :: r2.map Prod.fst, ZS t (p + 1) (L (p + 1)) (p + 1) rho q2, ?_, Or.inl ⟨L (p + 1), p + 1, rho, q2, [], r2, rfl, rfl, by rw [hR]; exact hs2, s2, Or.inr ⟨rfl, rfl⟩, ⟨rfl, rfl, ?_⟩, k1, rfl⟩, fun ts hz => ?_⟩
        · unfold adL
          rw [ep, et, k2]
        · have := hs2.A
          have := ar_t X Y t (L (p + 1)) (R p)
          rw [hR]
          omega
        · rw [nl] at hz
          exact hZ.2.2.1 t p ts lam jl rho jr (L (p + 1)) (p + 1) rho q2 (by omega) ⟨hn', by rw [hR]; exact hrl.1, Or.inr ⟨by omega, rfl, rfl⟩, s1⟩ hz
  · subst e1 e2 ez
    have neg : ¬ 0 < (ar X Y t (L p) (L (p + 1))) := by
      rw [pe_ar ht]
      have := ar_s X Y (R p) (L p) (L (p + 1))
      omega
    refine ⟨[], t, [L (p + 1)], [], ZN t (p + 1), ?_, Or.inr (Or.inl ⟨by rw [hR]; exact ht, rfl, rfl, rfl⟩), fun ts hz => ?_⟩
    · unfold adL
      simp only [popL, tnL]
      rw [if_neg neg]
    · rw [nl] at hz
      refine hZ.2.1 t p ts hl ?_ hz
      have := oS_R X Y (L (p + 1)) (R (p + 1))
      rw [hR] at this ⊢
      unfold oS dt ar at this ⊢
      rw [ht.1, ht.2]
      exact this
  · subst e1 e2 ez
    have ps : 0 < (ar X Y t (R p) (L (p + 1))) := by rw [pe_ar ht]; exact hw
    obtain ⟨b1, b2⟩ := begin t ps
    refine ⟨[], t, [L (p + 1)], [R p], _, ?_, b1, fun ts hz => b2 ts (by rw [nl] at hz; exact hz)⟩
    unfold adL
    simp only [popL, tnL]
    rw [if_neg (by omega)]
  · subst e1 e2 ez
    obtain ⟨n1, n2⟩ := ht _ hw
    obtain ⟨b1, b2⟩ := begin t n2
    refine ⟨[], t, [L (p + 1)], [R p], _, ?_, b1, fun ts hz => b2 ts (by rw [nl] at hz; exact hz)⟩
    unfold adL
    simp only [popL, tnL]
    rw [if_neg (by omega)]
    show ((if _ then _ else _ : List Nat × Nat × List Nat).1, _) = _
    rw [if_neg (by omega)]
