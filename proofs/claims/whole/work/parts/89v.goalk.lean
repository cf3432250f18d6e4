/-! a new right end; the goal -/
theorem Tip.stepKR {X Y : Nat → Int} {L R : Nat → Nat} {p : Nat} {ZN : Nat → Nat → List Nat → Prop} {ZS : Nat → Nat → Nat → Nat → Nat → Nat → List Nat → Prop} (hL : L (p + 1) = L p) (hw : 0 < (ar X Y (L p) (R p) (R (p + 1)))) {t : Nat} {cl cr : List Nat} {Zf : List Nat → Prop} (hfan : ∀ u q, q + 1 ≤ p → (∀ i, q ≤ i → i ≤ p → R i = t) → 0 ≤ (ar X Y u t (L q)) → (ar X Y u t (L (q + 1))) < 0 → FN X Y u t (L p) (R (p + 1))) (h : Tip X Y L R ZN ZS p t cl cr Zf) :
    (∀ u, Kp X Y L R p u t cl cr → ((adL (mX X) Y (R (p + 1)) t cr cl).1 = [] → Kp X Y L R (p + 1) u (adL (mX X) Y (R (p + 1)) t cr cl).2.1 (adL (mX X) Y (R (p + 1)) t cr cl).2.2.2 (adL (mX X) Y (R (p + 1)) t cr cl).2.2.1) ∧ ∀ e r, (adL (mX X) Y (R (p + 1)) t cr cl).1 = e :: r → NS X Y u t e) ∧
    ((adL (mX X) Y (R (p + 1)) t cr cl).1 ≠ [] → PN X Y (t :: (adL (mX X) Y (R (p + 1)) t cr cl).1) ∧ ∀ m u', t :: (adL (mX X) Y (R (p + 1)) t cr cl).1 = m ++ [u', (adL (mX X) Y (R (p + 1)) t cr cl).2.1] → Kp X Y L R (p + 1) u' (adL (mX X) Y (R (p + 1)) t cr cl).2.1 (adL (mX X) Y (R (p + 1)) t cr cl).2.2.2 (adL (mX X) Y (R (p + 1)) t cr cl).2.2.1) := by
  obtain ⟨h1, h2⟩ := Tip.stepK (X := mX X) (L := R) (R := L) hL (by rw [ar_m, ar_s X Y (R p) (L p)]; omega) (fun u q a b c d => (hfan u q a b (by rw [ar_m] at c; omega) (by rw [ar_m] at d; omega)).m) h.m
  exact ⟨fun u hK => ⟨fun e => ((h1 u hK.m).1 e).m', fun e r q => ((h1 u hK.m).2 e r q).m⟩, fun q => ⟨PN.m _ (h2 q).1, fun m u' e => ((h2 q).2 m u' e).m'⟩⟩
theorem CN.of2 {X Y : Nat → Int} {t lam rho x : Nat} (c : 0 < (ar X Y t rho lam)) (h1 : 0 ≤ (ar X Y t rho x)) (h2 : 0 ≤ (ar X Y t x lam)) (hx : ¬ pe X Y t x) : CN X Y t lam rho x := by
  have e1 : (ar X Y t rho lam) * (X x - X t) = (ar X Y t rho x) * (X lam - X t) + (ar X Y t x lam) * (X rho - X t) := by unfold ar; grind
  have e2 : (ar X Y t rho lam) * (Y x - Y t) = (ar X Y t rho x) * (Y lam - Y t) + (ar X Y t x lam) * (Y rho - Y t) := by unfold ar; grind
  refine ⟨(ar X Y t rho x), (ar X Y t x lam), (ar X Y t rho lam), h1, h2, ?_, c, e1, e2⟩
  refine Decidable.byContradiction fun k => hx ?_
  have z1 : (ar X Y t rho x) = 0 := by omega
  have z2 : (ar X Y t x lam) = 0 := by omega
  rw [z1, z2, Int.zero_mul, Int.zero_mul] at e1 e2
  rcases Int.mul_eq_zero.mp e1 with w | w
  · omega
  · rcases Int.mul_eq_zero.mp e2 with w2 | w2
    · omega
    · exact ⟨by omega, by omega⟩
theorem oS_pos {X Y f : Nat → Int} (hf : Aff X Y f) {a b p : Nat} (h : oS X Y a b p) (hab : nq X Y a b) (ha : 0 < f a) (hb : 0 < f b) : 0 < f p := by
  have hs := sq_pos hab
  have hw := oS_w h
  have e := w_sum X Y a b p
  have ex := w_aff hf h.1
  refine cpos hs ?_
  rw [ex]
  have s1 := zpp hw.1 (Int.le_of_lt ha)
  have s2 := zpp hw.2 (Int.le_of_lt hb)
  by_cases q : 0 < wa X Y a b p
  · have := mpp q ha; omega
  · have := mpp (show 0 < wb X Y a b p by omega) hb; omega
/-- the last two of a list of two -/
theorem two {u v u' v' : Nat} {m : List Nat} (e : [u, v] = m ++ [u', v']) : m = [] ∧ u = u' ∧ v = v' := by
  have em : m = [] := by
    have := congrArg List.length e
    simp at this
    exact this
  subst em
  have : u = u' ∧ v = v' := by simpa using e
  exact ⟨rfl, this⟩
theorem goalRK {X Y : Nat → Int} {L R : Nat → Nat} {p b : Nat} : ∀ r u v q, RC X Y L R p u v q r → (ar X Y u v b) < 0 → PN X Y (u :: v :: (tnL X Y b v (r.map Prod.fst)).1) ∧ ∀ m u' v', u :: v :: (tnL X Y b v (r.map Prod.fst)).1 = m ++ [u', v'] → NS X Y u' v' b := by
  intro r
  induction r with
  | nil =>
    intro u v q h hu
    refine ⟨trivial, fun m u' v' e => ?_⟩
    obtain ⟨_, e1, e2⟩ := two e
    rw [← e1, ← e2]
    exact NS.of (by omega)
  | cons z r ih =>
    intro u v q h hu
    obtain ⟨v', q'⟩ := z
    obtain ⟨h1, h2, h3, ⟨lam, jl, hs, hc⟩, h5⟩ := h
    have hv' := hc.2.2
    rw [List.map_cons, tnL]
    by_cases c : (ar X Y v v' b) < 0
    · rw [if_pos c]
      obtain ⟨i1, i2⟩ := ih v v' q' h5 c
      refine ⟨⟨NS.of (show (ar X Y u v v') ≠ 0 by omega), i1⟩, fun m u' v2 e => ?_⟩
      cases m with
      | nil =>
        have := congrArg List.length e
        simp at this
      | cons a m =>
        refine i2 m u' v2 ?_
        have e : u :: (v :: v' :: (tnL X Y b v' (r.map Prod.fst)).1) = a :: (m ++ [u', v2]) := e
        exact (List.cons.inj e).2
    · rw [if_neg c]
      refine ⟨trivial, fun m u' v2 e => ?_⟩
      obtain ⟨_, e1, e2⟩ := two e
      rw [← e1, ← e2]
      exact NS.of (by omega)
theorem goalLK {X Y : Nat → Int} {L R : Nat → Nat} {p b : Nat} (hb : 0 ≤ (ar X Y (L p) (R p) b)) : ∀ r u v q, LC X Y L R p u v q r → ((ar X Y u v b) ≤ 0 → popL X Y b v (r.map Prod.fst) = []) ∧ (0 < (ar X Y u v b) → PN X Y (u :: v :: popL X Y b v (r.map Prod.fst)) ∧ ∀ m u' v', u :: v :: popL X Y b v (r.map Prod.fst) = m ++ [u', v'] → NS X Y u' v' b) := by
  intro r
  induction r with
  | nil =>
    intro u v q h
    refine ⟨fun _ => rfl, fun hu => ⟨trivial, fun m u' v' e => ?_⟩⟩
    obtain ⟨_, e1, e2⟩ := two e
    rw [← e1, ← e2]
    exact NS.of (by omega)
  | cons z r ih =>
    intro u v q h
    obtain ⟨v', q'⟩ := z
    obtain ⟨h1, h2, h3, ⟨rho, jr, hs, hc⟩, h5⟩ := h
    have hv' := hc.2.1
    obtain ⟨i1, i2⟩ := ih v v' q' h5
    rw [List.map_cons]
    by_cases c : 0 < (ar X Y v v' b)
    · have hu := hc.down hb c
      have ep : popL X Y b v (v' :: r.map Prod.fst) = v' :: popL X Y b v' (r.map Prod.fst) := by
        simp only [popL]
        cases popL X Y b v' (r.map Prod.fst) with
        | nil => exact if_pos c
        | cons x y => rfl
      refine ⟨fun q => by omega, fun _ => ?_⟩
      rw [show popL X Y b v ((v', q').fst :: r.map Prod.fst) = v' :: popL X Y b v' (r.map Prod.fst) from ep]
      obtain ⟨j1, j2⟩ := i2 c
      refine ⟨⟨NS.of (show (ar X Y u v v') ≠ 0 by omega), j1⟩, fun m u' v2 e => ?_⟩
      cases m with
      | nil =>
        have := congrArg List.length e
        simp at this
      | cons a m =>
        refine j2 m u' v2 ?_
        have e : u :: (v :: v' :: popL X Y b v' (r.map Prod.fst)) = a :: (m ++ [u', v2]) := e
        exact (List.cons.inj e).2
    · have ep : popL X Y b v (v' :: r.map Prod.fst) = [] := by
        simp only [popL]
        rw [i1 (by omega)]
        exact if_neg c
      refine ⟨fun _ => ep, fun hu => ?_⟩
      rw [show popL X Y b v ((v', q').fst :: r.map Prod.fst) = [] from ep]
      refine ⟨trivial, fun m u' v2 e => ?_⟩
      obtain ⟨_, e1, e2⟩ := two e
      rw [← e1, ← e2]
      exact NS.of (by omega)
theorem Tip.goalK {X Y : Nat → Int} {L R : Nat → Nat} {p b : Nat} {ZN : Nat → Nat → List Nat → Prop} {ZS : Nat → Nat → Nat → Nat → Nat → Nat → List Nat → Prop} (hb : 0 ≤ (ar X Y (L p) (R p) b)) (hb2 : (ar X Y (L p) (R p) b) = 0 → oS X Y (L p) (R p) b) (hne : nq X Y (L p) (R p)) {t : Nat} {cl cr : List Nat} {Zf : List Nat → Prop}
    (hgR : ∀ u q, q + 1 ≤ p → (∀ i, q ≤ i → i ≤ p → R i = t) → 0 ≤ (ar X Y u t (L q)) → (ar X Y u t (L (q + 1))) < 0 → ¬ pe X Y t b → FN X Y u t b b) (hgL : ∀ u q, q + 1 ≤ p → (∀ i, q ≤ i → i ≤ p → L i = t) → (ar X Y u t (R q)) ≤ 0 → 0 < (ar X Y u t (R (q + 1))) → ¬ pe X Y t b → FN X Y u t b b) (h : Tip X Y L R ZN ZS p t cl cr Zf) :
    (∀ u, Kp X Y L R p u t cl cr → (gl X Y b t cl cr = [] → ¬ pe X Y t b → NS X Y u t b) ∧ ∀ e r, gl X Y b t cl cr = e :: r → NS X Y u t e) ∧
    (gl X Y b t cl cr ≠ [] → PN X Y (t :: gl X Y b t cl cr) ∧ ∀ m u' v', t :: gl X Y b t cl cr = m ++ [u', v'] → NS X Y u' v' b) := by
  rcases h with ⟨lam, jl, rho, jr, l', r', e1, e2, hs, hi1, hi2, hL, hRc, ez⟩ | ⟨ht, e1, e2, ez⟩ | ⟨ht, e1, e2, ez⟩ | ⟨ht, ht2, e1, e2, ez⟩
  · subst e1 e2
    obtain ⟨g2, g1⟩ := goalLK hb l' t lam jl hL
    by_cases hn : (ar X Y t rho b) < 0
    · have hlam := hs.goal hb hn
      have ep : popL X Y b t (lam :: l'.map Prod.fst) = [] := by
        simp only [popL]
        rw [g2 hlam]
        exact if_neg (by omega)
      have eg : gl X Y b t (lam :: l'.map Prod.fst) (rho :: r'.map Prod.fst) = rho :: (tnL X Y b rho (r'.map Prod.fst)).1 := by
        unfold gl
        rw [ep, tnL, if_pos hn]
      rw [eg]
      refine ⟨fun u hK => ⟨fun q => (by cases q), fun e r q => ?_⟩, fun _ => goalRK r' t rho jr hRc hn⟩
      have eh : rho = e := (List.cons.inj q).1
      rw [← eh]
      obtain ⟨k1, f, f1, f2, f3, f4⟩ := hK.2.1 lam _ rho _ rfl rfl
      exact (k1.into (CN.r X Y t lam rho) (CN.r X Y t lam rho)).ns hK.1 (fun k => by have := aff_pe f1 k; omega)
    · by_cases c : 0 < (ar X Y t lam b)
      · have ep : popL X Y b t (lam :: l'.map Prod.fst) = lam :: popL X Y b lam (l'.map Prod.fst) := by
          simp only [popL]
          cases popL X Y b lam (l'.map Prod.fst) with
          | nil => exact if_pos c
          | cons x y => rfl
        have eg : gl X Y b t (lam :: l'.map Prod.fst) (rho :: r'.map Prod.fst) = lam :: popL X Y b lam (l'.map Prod.fst) := by
          unfold gl
          rw [ep]
        rw [eg]
        refine ⟨fun u hK => ⟨fun q => (by cases q), fun e r q => ?_⟩, fun _ => g1 c⟩
        have eh : lam = e := (List.cons.inj q).1
        rw [← eh]
        obtain ⟨k1, f, f1, f2, f3, f4⟩ := hK.2.1 lam _ rho _ rfl rfl
        exact (k1.into (CN.l X Y t lam rho) (CN.l X Y t lam rho)).ns hK.1 (fun k => by have := aff_pe f1 k; omega)
      · have ep : popL X Y b t (lam :: l'.map Prod.fst) = [] := by
          simp only [popL]
          rw [g2 (by omega)]
          exact if_neg c
        have eg : gl X Y b t (lam :: l'.map Prod.fst) (rho :: r'.map Prod.fst) = [] := by
          unfold gl
          rw [ep, tnL, if_neg hn]
        rw [eg]
        refine ⟨fun u hK => ⟨fun _ nb => ?_, fun e r q => (by cases q)⟩, fun q => absurd rfl q⟩
        obtain ⟨k1, _⟩ := hK.2.1 lam _ rho _ rfl rfl
        have et := ar_t X Y t b lam
        have hf : ∃ f, Aff X Y f ∧ f t = 0 ∧ 0 < f lam ∧ 0 < f rho ∧ 0 < f b := by
          by_cases c0 : 0 < (ar X Y (L p) (R p) b)
          · exact hs.cn c0 (by omega) (by omega)
          · have o := hb2 (by omega)
            obtain ⟨f, hf, h0, h1, h2, h3, h4, _⟩ := hs
            exact ⟨f, hf, h0, h3, h4, oS_pos hf o hne h1 h2⟩
        obtain ⟨f, f1, f2, f3, f4, f5⟩ := hf
        have cn := CN.of f1 f2 f3 f4 f5 (by omega) (by omega)
        exact (k1.into cn cn).ns hK.1 nb
  · subst e1 e2
    have eg : gl X Y b t [L p] [] = [] := by
      unfold gl
      simp only [popL, tnL]
      rw [if_neg (by rw [pe_ar ht]; have := ar_s X Y (R p) (L p) b; omega)]
    rw [eg]
    refine ⟨fun u hK => ⟨fun _ nb => ?_, fun e r q => (by cases q)⟩, fun q => absurd rfl q⟩
    obtain ⟨q, q1, q2, q3, q4⟩ := hK.2.2.1 rfl
    exact (hgR u q q1 q2 q3 q4 nb).ns hK.1 nb
  · subst e1 e2
    have eg : gl X Y b t [] [R p] = [] := by
      unfold gl
      simp only [popL, tnL]
      rw [if_neg (by rw [pe_ar ht]; omega)]
    rw [eg]
    refine ⟨fun u hK => ⟨fun _ nb => ?_, fun e r q => (by cases q)⟩, fun q => absurd rfl q⟩
    obtain ⟨q, q1, q2, q3, q4⟩ := hK.2.2.2 rfl
    exact (hgL u q q1 q2 q3 q4 nb).ns hK.1 nb
  · subst e1 e2
    obtain ⟨n1, n2⟩ := ht2 b hb
    have eg : gl X Y b t [L p] [R p] = [] := by
      unfold gl
      simp only [popL, tnL]
      rw [if_neg (by omega)]
      show (if _ then _ else _ : List Nat × Nat × List Nat).1 = []
      rw [if_neg (by omega)]
    rw [eg]
    refine ⟨fun u hK => ⟨fun _ nb => ?_, fun e r q => (by cases q)⟩, fun q => absurd rfl q⟩
    obtain ⟨k1, f, f1, f2, f3, f4⟩ := hK.2.1 (L p) [] (R p) [] rfl rfl
    have hA : 0 ≤ (ar X Y t (R p) (L p)) := (ht2 (L p) (by rw [ar_xyx]; exact Int.le_refl _)).2
    have et := ar_t X Y t b (L p)
    have cn : CN X Y t (L p) (R p) b := by
      by_cases c : 0 < (ar X Y t (R p) (L p))
      · exact CN.of2 c n2 (by omega) nb
      · have z : (ar X Y t (R p) (L p)) = 0 := by omega
        have e := tr3 f1 f2 (R p) b (L p)
        rw [z, Int.mul_zero] at e
        have s1 := zpp (Int.le_of_lt f4) (show 0 ≤ (ar X Y t b (L p)) by omega)
        have s2 := zpp (Int.le_of_lt f3) n2
        have z2 : (ar X Y t b (L p)) = 0 := by
          rcases Int.mul_eq_zero.mp (show f (R p) * (ar X Y t b (L p)) = 0 by omega) with w | w
          · omega
          · exact w
        have z3 : (ar X Y (L p) (R p) b) = 0 := by
          refine Decidable.byContradiction fun k => ?_
          have := (ht b (by omega)).1
          omega
        exact CN.of f1 f2 f3 f4 (oS_pos f1 (hb2 z3) hne f3 f4) n2 (by omega)
    exact (k1.into cn cn).ns hK.1 nb
