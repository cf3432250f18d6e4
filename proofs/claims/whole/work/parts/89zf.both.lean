/-! class and reference: the same way -/
theorem CW.ref {s1 u : mS} {n m d g a : Nat} {E lk : Nat → Nat → Prop} {T : Nat → Nat → Nat} {P S : Nat → Nat} (h : CW s1 n m d E lk T g a P S) (hPM : PM u) (hag : ∀ a, gdp n a → Xm u a = Xc s1 a ∧ Ym u a = Yc s1 a) (h18 : u.2.2.1 18 = nI (d + 1)) (hdo : ∀ q, q < d → u.1 52 q = nI (T (P q) (S q)) ∧ u.1 51 q = nI (T (P q) ((S q + 1) % 3))) :
    ∃ s' l' r, ev (fun k => f84 k s1) (nI l'.length, s') ∧ sm [38, 40, 41] [] [6, 7, 8, 9, 10, 11, 12, 13] [] s1 s' ∧ CTn s' l' ∧ l'.length ≤ 77 ∧ ev (fun k => (f151 k u).bind fun q3 => (f152 k q3).bind fun q5 => some ((q5.2.2.1 19), q5)) (nI l'.length, r) ∧ sm [49, 51, 52] [] [19] [] u r ∧ r.2.2.1 19 = nI l'.length ∧ ∀ i x, l'[i]? = some x → r.1 49 i = nI x := by
  have h' := h
  obtain ⟨hP, hn, hd, hm, hD, hM, hT, hRow, h0, h5, h33, hG, h26, ha, hb⟩ := h'
  let u2 := uA 51 (upd (u.1 51) d 41) u
  let u3 := uA 52 (upd (u2.1 52) d 41) u2
  let s5 := uF 19 0 u3
  have zu : sm [49, 51, 52] [] [19] [] u s5 := ((sm_A (by decide) _ u : sm [49, 51, 52] [] [19] [] u u2).trans (sm_A (by decide) _ u2)).trans (sm_F (by decide) _ u3)
  have e151 : ∀ k, f151 k u = r151 k 0 (nI d) (nI 40) (nI 0) 1 0 0 0 0 0 0 s5 := by
    intro k
    unfold f151
    rw [h18, nI_s1 (by omega), rdI_nI (show d < 100 by omega) (by decide), nI_clamp (by omega)]
    simp only [pt]
    rw [rdI_nI (show d < 100 by omega) (by decide)]
    rfl
  have hX : RX s5 (Xc s1) (Yc s1) n d (dL T P S d) (dR' T P S d) := by
    refine ⟨hPM, hn, hd, hag, fun q hq => ?_⟩
    show upd (u.1 51) d 41 q = _ ∧ upd (u.1 52) d 41 q = _ ∧ _
    unfold dL dR'
    by_cases c : q < d
    · rw [if_pos c, if_pos c, upd_ne (by omega), upd_ne (by omega)]
      have hi := (hRow.2.1 q hq).1
      have hS := (hRow.2.2 q c).2.1
      exact ⟨(hdo q c).2, (hdo q c).1, Or.inl (hT.lt hM hi (by omega)), Or.inl (hT.lt hM hi hS)⟩
    · rw [if_neg c, if_neg c, show q = d by omega, upd_at, upd_at]
      exact ⟨rfl, rfl, Or.inr (Or.inr rfl), Or.inr (Or.inr rfl)⟩
  have z0 : RSt s5 s5 [] := ⟨sm.refl _, uF_at 19 0 u3, fun i x hx => by simp at hx⟩
  have g40 : gdp n 40 := Or.inr (Or.inl rfl)
  have st0 : ∀ k, r151 (k + 1) 0 (nI d) (nI 40) (nI 0) 1 0 0 0 0 0 0 s5 = r151 k 1 (nI d) (nI 40) (nI 0) 1 (nI 0) 0 0 0 0 0 s5 := by
    intro k
    rw [r151]
    rw [if_pos rfl, if_neg (show ¬ (1 : Int32) = 0 by decide)]
  have pes : ∀ {t0 : Nat}, pe (Xc s1) (Yc s1) t0 40 → pe (Xc s1) (Yc s1) 40 t0 := fun q => ⟨q.1.symm, q.2.symm⟩
  obtain ⟨s', TS, l', b', c1, c2, c3, c4, c5, c6, c7, c8, c9, c10⟩ := h.way (ZN := fun G => ZNr s5 (Xc s1) (Yc s1) n d G) (ZS := fun G => ZSr s5 (Xc s1) (Yc s1) n d G) (Z0 := fun G => fin s5 G (fun k => r151 k 0 (nI d) (nI 40) (nI 0) 1 0 0 0 0 0 0 s5)) (fun G => hX.Zc G) (fun G => hX.Ze G) (fun hd0 G t0 gt pt o z => by
      obtain ⟨_, q⟩ := z gt
      refine fin.add 2 (q 40 s5 (nI 0) g40 (pes pt) z0) fun k => ?_
      show r151 (k + 1 + 1) 0 (nI d) (nI 40) (nI 0) 1 0 0 0 0 0 0 s5 = _
      rw [st0]
      exact (hd1 hX z0 (nI 0) g40 (by omega) k).2 hd0 ((pe_oS pt).mp o)) (fun hd0 G t0 gt pt o z => by
      have w := hX.2.2.2.2 0 (by omega)
      obtain ⟨_, q⟩ := z gt w.2.2.1 w.2.2.2 (Nat.le_refl _) (Nat.le_refl _) (by omega)
      refine fin.add 2 (q 40 s5 (nI 0) g40 (pes pt) z0) fun k => ?_
      show r151 (k + 1 + 1) 0 (nI d) (nI 40) (nI 0) 1 0 0 0 0 0 0 s5 = _
      rw [st0]
      exact (hd1 hX z0 (nI 0) g40 (by omega) k).1 (Or.inr fun k => o ((pe_oS pt).mpr k))) (fun d0 G g0 => by
      have w := hX.2.2.2.2 0 (by omega)
      have z := hX.Ze G 40 (dL T P S d 0) 0 (dR' T P S d 0) 0 [] ⟨by decide, g0⟩ g40 w.2.2.1 w.2.2.2 (Nat.zero_le _) (Nat.zero_le _) (Nat.le_refl _)
      refine fin.add 2 (z.2 40 s5 (nI 0) g40 ⟨rfl, rfl⟩ z0) fun k => ?_
      show r151 (k + 1 + 1) 0 (nI d) (nI 40) (nI 0) 1 0 0 0 0 0 0 s5 = _
      rw [st0, d0]
      rw [d0] at hX
      rw [show dL T P S 0 0 = dL T P S 0 0 from rfl]
      exact (hd1 hX z0 (nI 0) g40 (Nat.le_refl _) k).1 (Or.inl (Nat.le_refl _)))
  obtain ⟨r1, tsF, ⟨K1, k1⟩, k2, k3⟩ := c10 (fun l => l = TS) rfl
  have k3 : tsF = TS := k3
  rw [k3] at k2
  obtain ⟨r, ⟨K2, k4⟩, k5⟩ := f152_ev hX k2 c4 c5 c7 c8 c9 c6
  have hl : l'.length ≤ 77 := by
    rcases c6 with q | ⟨q, _⟩
    · rw [q] at c4; simp at c4; omega
    · rw [q]; exact c4
  refine ⟨s', l', r, c1, c2, c3, hl, ⟨K1 + K2, fun k hk => ?_⟩, zu.trans (k5.1.mono (by decide) (by decide) (by decide) (by decide)), k5.2.1, k5.2.2⟩
  have a1 : r151 k 0 (nI d) (nI 40) (nI 0) 1 0 0 0 0 0 0 s5 = some r1 := k1 k (by omega)
  have a2 : f152 k r1 = some r := k4 k (by omega)
  show (f151 k u).bind _ = _
  rw [e151, a1]
  simp only [Option.bind_some]
  rw [a2]
  simp only [Option.bind_some]
  rw [k5.2.1]
