/-! the class's run: the first door, and all the others -/
theorem oS_case4 {X Y : Nat → Int} {L R t : Nat} (h : oS X Y L R t) (n1 : nq X Y L R) (n2 : nq X Y L t) (n3 : nq X Y R t) : (∀ w, 0 < (ar X Y L R w) → (ar X Y t L w) < 0 ∧ 0 < (ar X Y t R w)) ∧ (∀ w, 0 ≤ (ar X Y L R w) → (ar X Y t L w) ≤ 0 ∧ 0 ≤ (ar X Y t R w)) := by
  have hs := sq_pos n1
  obtain ⟨w1, w2⟩ := oS_ws h n1 n2 n3
  have g1 : ∀ w, sq X Y L R * (ar X Y t L w) = -(wb X Y L R t * (ar X Y L R w)) := by
    intro w
    have e := w_aff (aff_ar X Y L w) h.1
    have e1 := ar_c X Y t L w
    have e2 : (ar X Y L w L) = 0 := ar_xyx X Y L w
    have e3 := ar_t X Y L w R
    have e : sq X Y L R * (ar X Y L w t) = wa X Y L R t * (ar X Y L w L) + wb X Y L R t * (ar X Y L w R) := e
    rw [e1, e, e2, e3, Int.mul_zero, Int.zero_add, Int.mul_neg]
  have g2 : ∀ w, sq X Y L R * (ar X Y t R w) = wa X Y L R t * (ar X Y L R w) := by
    intro w
    have e := w_aff (aff_ar X Y R w) h.1
    have e1 := ar_c X Y t R w
    have e2 : (ar X Y R w R) = 0 := ar_xyx X Y R w
    have e3 := ar_c X Y L R w
    have e : sq X Y L R * (ar X Y R w t) = wa X Y L R t * (ar X Y R w L) + wb X Y L R t * (ar X Y R w R) := e
    rw [e1, e, e2, ← e3, Int.mul_zero, Int.add_zero]
  constructor
  · intro w hw
    have a := mpp w1 hw
    have b := mpp w2 hw
    have c1 := g1 w
    have c2 := g2 w
    exact ⟨cneg hs (by omega), cpos hs (by omega)⟩
  · intro w hw
    have a := zpp (Int.le_of_lt w1) hw
    have b := zpp (Int.le_of_lt w2) hw
    have c1 := g1 w
    have c2 := g2 w
    refine ⟨?_, cnn hs (by omega)⟩
    have : 0 ≤ -(ar X Y t L w) := cnn hs (by rw [Int.mul_neg]; omega)
    omega
theorem AS.start {X Y : Nat → Int} {n t0 hl hr : Nat} {L R : Nat → Nat} {ZN : ZNt} {ZS : ZSt} {Z0 : (List Nat → Prop) → Prop} {cl cr : List Nat} (e1 : hl = 0) (e2 : hr = 0) (hb : cl.length + cr.length ≤ 2) (ht : gdp n t0) (hcl : ∀ y, y ∈ cl → y < n) (hcr : ∀ y, y ∈ cr → y < n) (hT : ∀ G, ∃ Zf, Tip X Y L R (ZN G) (ZS G) 0 t0 cl cr Zf ∧ (Zf [] → Z0 G)) : AS X Y n L R ZN ZS Z0 t0 0 t0 hl hr cl cr [] := by
  subst e1 e2
  refine ⟨by omega, rfl, ht, hcl, hcr, fun y hy => by simp at hy, hT, rfl, trivial, fun m u e => ?_⟩
  have := congrArg List.length e
  simp at this
theorem f11_eq (v : Int32) (s : mS) : ∃ s', f11 v s = some s' ∧ sm [38, 40, 41] [] [6, 7, 8, 9, 10, 11, 12, 13] [] s s' ∧ s'.2.2.1 6 = v ∧ s'.2.2.1 7 = v ∧ s'.2.2.1 8 = v ∧ s'.2.2.1 9 = 0 ∧ s'.2.2.1 10 = 0 ∧ s'.2.2.1 11 = 0 ∧ s'.2.2.1 12 = 0 ∧ s'.2.2.1 13 = 0 := by
  refine ⟨uF 8 v (uF 7 v (uF 6 v (uF 13 0 (uF 12 0 (uF 11 0 (uF 10 0 (uF 9 0 s))))))), rfl, ?_, rfl, rfl, rfl, rfl, rfl, rfl, rfl, rfl⟩
  exact (((((((sm_F (by decide) _ _).trans (sm_F (by decide) _ _)).trans (sm_F (by decide) _ _)).trans (sm_F (by decide) _ _)).trans (sm_F (by decide) _ _)).trans (sm_F (by decide) _ _)).trans (sm_F (by decide) _ _)).trans (sm_F (by decide) _ _)
theorem CI.first {s1 s : mS} {n t0 : Nat} {L R : Nat → Nat} {ZN : ZNt} {ZS : ZSt} {Z0 : (List Nat → Prop) → Prop} (hP : P42 s1) (hn : n ≤ 40) (hD : Dst (Xc s1) (Yc s1) n) (lL : L 0 < n) (lR : R 0 < n) (ne : L 0 ≠ R 0) (ht : gdp n t0) (hu : ∀ q, q < n → pe (Xc s1) (Yc s1) q t0 → q = t0) (h0 : 0 ≤ ar (Xc s1) (Yc s1) t0 (R 0) (L 0)) (h0' : ar (Xc s1) (Yc s1) t0 (R 0) (L 0) = 0 → oS (Xc s1) (Yc s1) (L 0) (R 0) t0)
    (hZ1 : ∀ G, oS (Xc s1) (Yc s1) (L 0) (R 0) t0 → ZN G t0 0 [] → Z0 G) (hZ2 : ∀ G, ¬ oS (Xc s1) (Yc s1) (L 0) (R 0) t0 → ZS G t0 0 (L 0) 0 (R 0) 0 [] → Z0 G)
    (z : sm [38, 40, 41] [] [6, 7, 8, 9, 10, 11, 12, 13] [] s1 s) (f6 : s.2.2.1 6 = nI t0) (f7 : s.2.2.1 7 = nI t0) (f8 : s.2.2.1 8 = nI t0) (f9 : s.2.2.1 9 = 0) (f10 : s.2.2.1 10 = 0) (f11 : s.2.2.1 11 = 0) (f12' : s.2.2.1 12 = 0) (f13 : s.2.2.1 13 = 0) :
    ∃ s', ev (fun k => f12 k (nI (L 0)) (nI (R 0)) s) s' ∧ CI s1 n L R ZN ZS Z0 t0 0 s' := by
  have t42 := ht.lt hn
  have eX := Xc_same (z.1 18 (by decide))
  have eY := Yc_same (z.1 19 (by decide))
  have hP' := P42_same hP (z.1 18 (by decide)) (z.1 19 (by decide))
  have hF : FU s t0 0 0 [] [] [] := ⟨f6, f10, f11, f12', f13, f9, fun i x hx => by simp at hx, fun i x hx => by simp at hx, fun i x hx => by simp at hx⟩
  by_cases cL : L 0 = t0
  · -- the place is the left end
    obtain ⟨s', e1, z1, hF'⟩ := ad39 (w := R 0) hP' hF.m (by decide) (by decide) (by decide) t42 (by omega) (fun y hy => by simp at hy) (fun y hy => by simp at hy)
    have hF' : FR s' t0 0 0 [R 0] [] [] := hF'
    refine ⟨uF 8 (nI (R 0)) s', f12_R ?_ ?_ e1, ?_, ?_, uF_at 8 _ _, t0, 0, 0, [], [R 0], [], hF'.m, AS.start rfl rfl (by simp) ht (fun y hy => by simp at hy) (fun y hy => ?_) (fun G => ⟨ZN G t0 0, Or.inr (Or.inr (Or.inl ⟨?_, rfl, rfl, rfl⟩)), hZ1 G ?_⟩)⟩
    · rw [f7, cL]
    · rw [f8]
      intro q
      have := (nI_eq (by omega) (by omega)).mp q
      exact ne (by rw [cL, this])
    · exact z.trans ((z1.mono (by decide) (by decide) (by decide) (by decide) : sm [38, 40, 41] [] [6, 7, 8, 9, 10, 11, 12, 13] [] s s').trans (sm_F (by decide) _ s'))
    · show s'.2.2.1 7 = _
      rw [z1.2.2.1 7 (by decide), f7, cL]
    · have : y = R 0 := by simpa using hy
      rw [this]; exact lR
    · rw [cL]; exact ⟨rfl, rfl⟩
    · rw [← cL]; exact oS_L _ _ _ _
  · obtain ⟨s', e1, z1, hF'⟩ := ad37 (w := L 0) hP' hF (by decide) (by decide) (by decide) t42 (by omega) (fun y hy => by simp at hy) (fun y hy => by simp at hy)
    have hF' : FU s' t0 0 0 [L 0] [] [] := hF'
    have n7 : ¬ nI (L 0) = s.2.2.1 7 := by
      rw [f7]
      exact fun q => cL ((nI_eq (by omega) (by omega)).mp q)
    have z2 : sm [38, 40, 41] [] [6, 7, 8, 9, 10, 11, 12, 13] [] s1 (uF 7 (nI (L 0)) s') := z.trans ((z1.mono (by decide) (by decide) (by decide) (by decide) : sm [38, 40, 41] [] [6, 7, 8, 9, 10, 11, 12, 13] [] s s').trans (sm_F (by decide) _ s'))
    by_cases cR : R 0 = t0
    · -- the place is the right end
      refine ⟨uF 7 (nI (L 0)) s', f12_L n7 e1 ?_, z2, uF_at 7 _ _, ?_, t0, 0, 0, [L 0], [], [], hF', AS.start rfl rfl (by simp) ht (fun y hy => ?_) (fun y hy => by simp at hy) (fun G => ⟨ZN G t0 0, Or.inr (Or.inl ⟨?_, rfl, rfl, rfl⟩), hZ1 G ?_⟩)⟩
      · rw [z1.2.2.1 8 (by decide), f8, cR]
      · show s'.2.2.1 8 = _
        rw [z1.2.2.1 8 (by decide), f8, cR]
      · have : y = L 0 := by simpa using hy
        rw [this]; exact lL
      · rw [cR]; exact ⟨rfl, rfl⟩
      · rw [← cR]; exact oS_R _ _ _ _
    · -- neither
      have hP2 := P42_same hP (z2.1 18 (by decide)) (z2.1 19 (by decide))
      have eX2 := Xc_same (z2.1 18 (by decide))
      have eY2 := Yc_same (z2.1 19 (by decide))
      have m0 : ∀ y, y ∈ [L 0] → y < 42 := fun y hy => by
        have : y = L 0 := by simpa using hy
        omega
      obtain ⟨s'', e2, z3, hF''⟩ := ad39 (s := uF 7 (nI (L 0)) s') (w := R 0) hP2 (hF'.m : FR (uF 7 (nI (L 0)) s') t0 0 0 [] [L 0] []) (by decide) (by simp) (by simp) t42 (by omega) (fun y hy => by simp at hy) m0
      rw [eX2, eY2] at hF''
      have et := ar_t (Xc s1) (Yc s1) t0 (L 0) (R 0)
      have ea : adL (mX (Xc s1)) (Yc s1) (R 0) t0 [] [L 0] = ([], t0, [R 0], [L 0]) := by
        unfold adL
        simp only [popL, tnL]
        rw [if_neg (by rw [ar_m]; omega)]
      rw [ea] at hF''
      have hF'' : FR s'' t0 0 0 [R 0] [L 0] [] := hF''
      have d1 : nq (Xc s1) (Yc s1) (L 0) (R 0) := hD.nq lL lR ne
      have d2 : nq (Xc s1) (Yc s1) (L 0) t0 := fun k => cL (hu _ lL k)
      have d3 : nq (Xc s1) (Yc s1) (R 0) t0 := fun k => cR (hu _ lR k)
      refine ⟨uF 8 (nI (R 0)) s'', ?_, ?_, ?_, uF_at 8 _ _, t0, 0, 0, [L 0], [R 0], [], hF''.m, AS.start rfl rfl (by simp) ht (fun y hy => ?_) (fun y hy => ?_) (fun G => ?_)⟩
      · obtain ⟨K1, hK1⟩ := e1
        obtain ⟨K2, hK2⟩ := e2
        refine ⟨K1 + K2, fun k hk => ?_⟩
        have k1 : f13_36_37_39 k (nI (L 0)) s = some s' := hK1 k (by omega)
        have k2 : f13_36_39_37 k (nI (R 0)) (uF 7 (nI (L 0)) s') = some s'' := hK2 k (by omega)
        show f12 k (nI (L 0)) (nI (R 0)) s = _
        unfold f12
        rw [if_neg n7, k1]
        show (if nI (R 0) = s'.2.2.1 8 then some (uF 7 (nI (L 0)) s') else (f13_36_39_37 k (nI (R 0)) (uF 7 (nI (L 0)) s')).bind fun q12 => pt (uF 8 (nI (R 0)) q12) fun s14 => some s14) = _
        rw [if_neg (by
          rw [z1.2.2.1 8 (by decide), f8]
          exact fun q => cR ((nI_eq (by omega) (by omega)).mp q)), k2]
        rfl
      · exact z2.trans ((z3.mono (by decide) (by decide) (by decide) (by decide) : sm [38, 40, 41] [] [6, 7, 8, 9, 10, 11, 12, 13] [] _ s'').trans (sm_F (by decide) _ s''))
      · show s''.2.2.1 7 = _
        rw [z3.2.2.1 7 (by decide)]
        exact uF_at 7 _ _
      · have : y = L 0 := by simpa using hy
        rw [this]; exact lL
      · have : y = R 0 := by simpa using hy
        rw [this]; exact lR
      · by_cases c : 0 < ar (Xc s1) (Yc s1) t0 (R 0) (L 0)
        · exact ⟨ZS G t0 0 (L 0) 0 (R 0) 0, Or.inl ⟨L 0, 0, R 0, 0, [], [], rfl, rfl, see.start c, Or.inr ⟨rfl, rfl⟩, Or.inr ⟨rfl, rfl⟩, ⟨rfl, rfl, by omega⟩, ⟨rfl, rfl, h0⟩, rfl⟩, hZ2 G (not_on c)⟩
        · have o := h0' (by omega)
          obtain ⟨c1, c2⟩ := oS_case4 o d1 d2 d3
          exact ⟨ZN G t0 0, Or.inr (Or.inr (Or.inr ⟨c1, c2, rfl, rfl, rfl⟩)), hZ1 G o⟩
