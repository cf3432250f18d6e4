/-! the class's left chain lets go: the loop -/
theorem nI_dec (n : Nat) : nI (n + 1) + Int32.ofInt (-1) = nI n := by
  rw [← nI_1 n, Int32.add_assoc, show (1 : Int32) + Int32.ofInt (-1) = 0 by decide, Int32.add_zero]
theorem pop37 {t hl hr w : Nat} {cr ts : List Nat} (ht : t < 42) (hw : w < 42) (hbr : hr + cr.length ≤ 77) : ∀ n cl s, cl.length = n → P42 s → FU s t hl hr cl cr ts → hl + cl.length ≤ 77 → (∀ y, y ∈ cl → y < 42) → ∃ s', sm [] [] [11] [] s s' ∧ FU s' t hl hr (popL (Xc s) (Yc s) w t cl) cr ts ∧ (popL (Xc s) (Yc s) w t cl ≠ [] → ∀ r, f8_37 (nI w) s' = some r → ev (fun k => r13_36_37_39 k 0 (nI w) (nI cl.length) s) r) ∧ (popL (Xc s) (Yc s) w t cl = [] → ∀ r, ev (fun k => r13_36_37_39 k 1 (nI w) (nI cr.length) s') r → ev (fun k => r13_36_37_39 k 0 (nI w) (nI cl.length) s) r) := by
  intro n
  induction n with
  | zero =>
    intro cl s hn hP hF hb hc
    have e : cl = [] := List.eq_nil_of_length_eq_zero hn
    subst e
    refine ⟨s, sm.refl s, hF, fun q => absurd rfl q, fun _ r hr' => ev1 hr' fun k hk => ?_⟩
    obtain ⟨h6, h10, h11, h12, h13, _, h38, _, _⟩ := hF
    show r13_36_37_39 (k + 1) _ _ _ _ = _
    simp only [r13_36_37_39]
    unfold f2_37 f2_39
    rw [if_pos trivial, if_pos (show nI ([] : List Nat).length ≤ 0 by decide), h10, h11, h12, h13, nI_s (by omega) (by omega), nI_s (by omega) (by omega), show hl + ([] : List Nat).length - hl = 0 by simp, show hr + cr.length - hr = cr.length by omega]
    exact hk
  | succ n ih =>
    intro cl s hn hP hF hb hc
    obtain ⟨c, x, ec⟩ := snoc_ex cl (fun e => by rw [e] at hn; cases hn)
    subst ec
    have el : (c ++ [x]).length = c.length + 1 := by simp
    have h14 := f14_eq hP hF (by omega) ht hc hw
    have hz : ¬ nI (c ++ [x]).length ≤ 0 := fun q => by
      rw [el] at q
      have := (nI_leI (b := 0) (by omega) (by omega)).mp q
      omega
    have hF' := hF
    obtain ⟨h6, h10, h11, h12, h13, h9, h38, h40, h41⟩ := hF
    rw [popL_snoc]
    by_cases q : 0 < ar (Xc s) (Yc s) (lz t c) x w
    · rw [if_pos q]
      refine ⟨s, sm.refl s, hF', fun _ r hr' => ev_c fun k => ?_, fun e => by simp at e⟩
      simp only [r13_36_37_39]
      rw [if_pos trivial, if_neg hz, h14, if_neg (show ¬ ar (Xc s) (Yc s) (lz t c) x w ≤ 0 by omega)]
      simp only [Option.bind_some]
      unfold f2_37
      rw [if_pos (show ¬ (1 : Int32) = 0 by decide), h10, h11, nI_s (by omega) (by omega), show hl + (c ++ [x]).length - hl = c.length + 1 by omega]
      simp only [Option.bind_some]
      rw [if_pos (fun z => by have := (nI_eq (by omega) (by decide)).mp (show nI (c.length + 1) = nI 0 from z); omega), hr']
      rfl
    · rw [if_neg q]
      let s1 := uF 11 (nI (hl + c.length)) s
      have z1 : sm [] [] [11] [] s s1 := sm_F (by decide) _ s
      have hF1 : FU s1 t hl hr c cr ts := ⟨h6, h10, uF_at 11 _ s, h12, h13, h9, fun i y hy => h38 i y (by rw [List.getElem?_append_left (at_lt hy)]; exact hy), h40, h41⟩
      obtain ⟨s', k1, k2, k3, k4⟩ := ih c s1 (by omega) hP hF1 (by omega) (fun y hy => hc y (List.mem_append.mpr (Or.inl hy)))
      have stp : ∀ r, ev (fun k => r13_36_37_39 k 0 (nI w) (nI c.length) s1) r → ev (fun k => r13_36_37_39 k 0 (nI w) (nI (c ++ [x]).length) s) r := fun r hr' => ev1 hr' fun k hk => by
        show r13_36_37_39 (k + 1) _ _ _ _ = _
        simp only [r13_36_37_39]
        rw [if_pos trivial, if_neg hz, h14, if_pos (show ar (Xc s) (Yc s) (lz t c) x w ≤ 0 by omega)]
        simp only [Option.bind_some]
        unfold f5_37
        rw [if_neg (fun z => z trivial), h11, show (1 : Int32) = nI 1 from rfl, nI_s (by omega) (by omega), show hl + (c ++ [x]).length - 1 = hl + c.length by omega, el, nI_dec]
        exact hk
      exact ⟨s', z1.trans k1, k2, fun e r hr' => stp r (k3 e r hr'), fun e r hr' => stp r (k4 e r hr')⟩
