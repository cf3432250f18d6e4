/-! the mirror of 89l, 89m, 89n: made by mk89.py -/
def FR (s : mS) (t hl hr : Nat) (cl cr ts : List Nat) : Prop := s.2.2.1 6 = nI t ∧ s.2.2.1 12 = nI hl ∧ s.2.2.1 13 = nI (hl + cl.length) ∧ s.2.2.1 10 = nI hr ∧ s.2.2.1 11 = nI (hr + cr.length) ∧ s.2.2.1 9 = nI ts.length ∧ (∀ i x, cl[i]? = some x → s.1 40 (hl + i) = nI x) ∧ (∀ i x, cr[i]? = some x → s.1 38 (hr + i) = nI x) ∧ (∀ i x, ts[i]? = some x → s.1 41 i = nI x)
theorem FU.m {s : mS} {t hl hr : Nat} {cl cr ts : List Nat} (h : FU s t hl hr cl cr ts) : FR s t hr hl cr cl ts := ⟨h.1, h.2.2.2.1, h.2.2.2.2.1, h.2.1, h.2.2.1, h.2.2.2.2.2.1, h.2.2.2.2.2.2.2.1, h.2.2.2.2.2.2.1, h.2.2.2.2.2.2.2.2⟩
theorem FR.m {s : mS} {t hl hr : Nat} {cl cr ts : List Nat} (h : FR s t hr hl cr cl ts) : FU s t hl hr cl cr ts := ⟨h.1, h.2.2.2.1, h.2.2.2.2.1, h.2.1, h.2.2.1, h.2.2.2.2.2.1, h.2.2.2.2.2.2.2.1, h.2.2.2.2.2.2.1, h.2.2.2.2.2.2.2.2⟩
/-! the class's left chain lets go: the code -/
theorem f14m_eq {s : mS} {t hl hr w x : Nat} {c cr ts : List Nat} (hP : P42 s) (h : FR s t hl hr (c ++ [x]) cr ts) (hb : hl + c.length + 1 ≤ 77) (ht : t < 42) (hc : ∀ y, y ∈ c ++ [x] → y < 42) (hw : w < 42) : f14_36_39 (nI w) s = some (if ar (mX (Xc s)) (Yc s) (lz t c) x w ≤ 0 then 0 else 1) := by
  obtain ⟨h6, h10, h11, _, _, _, h38, _, _⟩ := h
  have el : (c ++ [x]).length = c.length + 1 := by simp
  rw [el] at h11
  have hx : x < 42 := hc x (by simp)
  have a38 : s.1 40 (hl + c.length) = nI x := h38 c.length x (by simp)
  have hz : lz t c < 42 := by
    rcases lz_at (c := c) (t := t) with ⟨_, e⟩ | ⟨_, e⟩
    · rw [e]; exact ht
    · exact hc _ (List.mem_append.mpr (Or.inl (List.mem_of_getElem? e)))
  have e3 : f3_39 (nI t) s = some (nI (lz t c)) := by
    unfold f3_39
    rw [h10, h11, nI_s (by omega) (by omega), show hl + (c.length + 1) - hl = c.length + 1 by omega]
    rcases lz_at (c := c) (t := t) with ⟨e, e'⟩ | ⟨e, e'⟩
    · rw [e, e'] at *
      rw [if_pos (by show nI 1 ≤ 1; decide)]
    · rw [if_neg (fun q => by have := (nI_leI (a := c.length + 1) (b := 1) (by omega) (by omega)).mp q; omega), show (2 : Int32) = nI 2 from rfl, nI_s (by omega) (by omega), rdI_nI (show hl + (c.length + 1) - 2 < 77 by omega) (by decide), nI_clamp (by omega), show hl + (c.length + 1) - 2 = hl + (c.length - 1) by omega, h38 (c.length - 1) (lz t c) (by rw [List.getElem?_append_left (by omega)]; exact e')]
  have e4 : f4_39 s = some (nI x) := by
    unfold f4_39
    rw [h11, show (1 : Int32) = nI 1 from rfl, nI_s (by omega) (by omega), show hl + (c.length + 1) - 1 = hl + c.length by omega, rdI_nI (show hl + c.length < 77 by omega) (by decide), nI_clamp (by omega), a38]
  obtain ⟨v, v1, v2⟩ := lem2 hP hz hx hw
  unfold f14_36_39
  rw [h6, e3, e4]
  simp only [Option.bind_some]
  rw [v1]
  simp only [Option.bind_some]
  by_cases q : ar (mX (Xc s)) (Yc s) (lz t c) x w ≤ 0
  · rw [if_pos q, if_pos (v2.mpr q)]
  · rw [if_neg q, if_neg (fun z => q (v2.mp z))]

/-! the class's left chain lets go: the loop -/
theorem pop39 {t hl hr w : Nat} {cr ts : List Nat} (ht : t < 42) (hw : w < 42) (hbr : hr + cr.length ≤ 77) : ∀ n cl s, cl.length = n → P42 s → FR s t hl hr cl cr ts → hl + cl.length ≤ 77 → (∀ y, y ∈ cl → y < 42) → ∃ s', sm [] [] [13] [] s s' ∧ FR s' t hl hr (popL (mX (Xc s)) (Yc s) w t cl) cr ts ∧ (popL (mX (Xc s)) (Yc s) w t cl ≠ [] → ∀ r, f8_39 (nI w) s' = some r → ev (fun k => r13_36_39_37 k 0 (nI w) (nI cl.length) s) r) ∧ (popL (mX (Xc s)) (Yc s) w t cl = [] → ∀ r, ev (fun k => r13_36_39_37 k 1 (nI w) (nI cr.length) s') r → ev (fun k => r13_36_39_37 k 0 (nI w) (nI cl.length) s) r) := by
  intro n
  induction n with
  | zero =>
    intro cl s hn hP hF hb hc
    have e : cl = [] := List.eq_nil_of_length_eq_zero hn
    subst e
    refine ⟨s, sm.refl s, hF, fun q => absurd rfl q, fun _ r hr' => ev1 hr' fun k hk => ?_⟩
    obtain ⟨h6, h10, h11, h12, h13, _, h38, _, _⟩ := hF
    show r13_36_39_37 (k + 1) _ _ _ _ = _
    simp only [r13_36_39_37]
    unfold f2_39 f2_37
    rw [if_pos trivial, if_pos (show nI ([] : List Nat).length ≤ 0 by decide), h10, h11, h12, h13, nI_s (by omega) (by omega), nI_s (by omega) (by omega), show hl + ([] : List Nat).length - hl = 0 by simp, show hr + cr.length - hr = cr.length by omega]
    exact hk
  | succ n ih =>
    intro cl s hn hP hF hb hc
    obtain ⟨c, x, ec⟩ := snoc_ex cl (fun e => by rw [e] at hn; cases hn)
    subst ec
    have el : (c ++ [x]).length = c.length + 1 := by simp
    have h14 := f14m_eq hP hF (by omega) ht hc hw
    have hz : ¬ nI (c ++ [x]).length ≤ 0 := fun q => by
      rw [el] at q
      have := (nI_leI (b := 0) (by omega) (by omega)).mp q
      omega
    have hF' := hF
    obtain ⟨h6, h10, h11, h12, h13, h9, h38, h40, h41⟩ := hF
    rw [popL_snoc]
    by_cases q : 0 < ar (mX (Xc s)) (Yc s) (lz t c) x w
    · rw [if_pos q]
      refine ⟨s, sm.refl s, hF', fun _ r hr' => ev_c fun k => ?_, fun e => by simp at e⟩
      simp only [r13_36_39_37]
      rw [if_pos trivial, if_neg hz, h14, if_neg (show ¬ ar (mX (Xc s)) (Yc s) (lz t c) x w ≤ 0 by omega)]
      simp only [Option.bind_some]
      unfold f2_39
      rw [if_pos (show ¬ (1 : Int32) = 0 by decide), h10, h11, nI_s (by omega) (by omega), show hl + (c ++ [x]).length - hl = c.length + 1 by omega]
      simp only [Option.bind_some]
      rw [if_pos (fun z => by have := (nI_eq (by omega) (by decide)).mp (show nI (c.length + 1) = nI 0 from z); omega), hr']
      rfl
    · rw [if_neg q]
      let s1 := uF 13 (nI (hl + c.length)) s
      have z1 : sm [] [] [13] [] s s1 := sm_F (by decide) _ s
      have hF1 : FR s1 t hl hr c cr ts := ⟨h6, h10, uF_at 13 _ s, h12, h13, h9, fun i y hy => h38 i y (by rw [List.getElem?_append_left (at_lt hy)]; exact hy), h40, h41⟩
      obtain ⟨s', k1, k2, k3, k4⟩ := ih c s1 (by omega) hP hF1 (by omega) (fun y hy => hc y (List.mem_append.mpr (Or.inl hy)))
      have stp : ∀ r, ev (fun k => r13_36_39_37 k 0 (nI w) (nI c.length) s1) r → ev (fun k => r13_36_39_37 k 0 (nI w) (nI (c ++ [x]).length) s) r := fun r hr' => ev1 hr' fun k hk => by
        show r13_36_39_37 (k + 1) _ _ _ _ = _
        simp only [r13_36_39_37]
        rw [if_pos trivial, if_neg hz, h14, if_pos (show ar (mX (Xc s)) (Yc s) (lz t c) x w ≤ 0 by omega)]
        simp only [Option.bind_some]
        unfold f5_39
        rw [if_neg (fun z => z trivial), h11, show (1 : Int32) = nI 1 from rfl, nI_s (by omega) (by omega), show hl + (c ++ [x]).length - 1 = hl + c.length by omega, el, nI_dec]
        exact hk
      exact ⟨s', z1.trans k1, k2, fun e r hr' => stp r (k3 e r hr'), fun e r hr' => stp r (k4 e r hr')⟩

/-! the class's left chain: the tip turns, the new end comes -/
theorem f15m_eq {s : mS} {t hl hr w x : Nat} {cl cr ts : List Nat} (hP : P42 s) (h : FR s t hl hr cl (x :: cr) ts) (hb : hr < 77) (ht : t < 42) (hx : x < 42) (hw : w < 42) : f6_37 s = some (nI x) ∧ f15_36_37 (nI w) s = some (if ar (mX (Xc s)) (Yc s) t x w < 0 then 1 else 0) := by
  obtain ⟨h6, _, _, h12, _, _, _, h40, _⟩ := h
  have a40 : s.1 38 (hr + 0) = nI x := h40 0 x rfl
  have e6 : f6_37 s = some (nI x) := by
    unfold f6_37
    rw [h12, rdI_nI hb (by decide), nI_clamp (by omega)]
    exact congrArg some a40
  refine ⟨e6, ?_⟩
  obtain ⟨v, v1, v2⟩ := lem1 hP ht hx hw
  unfold f15_36_37
  rw [e6, h6]
  simp only [Option.bind_some]
  rw [v1]
  simp only [Option.bind_some]
  by_cases q : ar (mX (Xc s)) (Yc s) t x w < 0
  · rw [if_pos q, if_neg (fun z => by have := v2.mp z; omega)]
  · rw [if_neg q, if_pos (v2.mpr (by omega))]
theorem push39 {s : mS} {t hl hr w : Nat} {cl cr ts : List Nat} (h : FR s t hl hr cl cr ts) (hb : hl + cl.length < 77) : ∃ s', f8_39 (nI w) s = some s' ∧ sm [40] [] [13] [] s s' ∧ FR s' t hl hr (cl ++ [w]) cr ts := by
  obtain ⟨h6, h10, h11, h12, h13, h9, h38, h40, h41⟩ := h
  let s1 := uA 40 (upd (s.1 40) (hl + cl.length) (nI w)) s
  have e11 : s1.2.2.1 13 = nI (hl + cl.length) := h11
  refine ⟨uF 13 (nI (hl + cl.length + 1)) s1, ?_, (sm_A (by decide) _ s : sm [40] [] [13] [] s s1).trans (sm_F (by decide) _ s1), h6, h10, ?_, h12, h13, h9, ?_, h40, h41⟩
  · unfold f8_39
    rw [h11, rdI_nI hb (by decide), nI_clamp (by omega)]
    show some (uF 13 (s1.2.2.1 13 + 1) s1) = _
    rw [e11, nI_1]
  · show (uF 13 (nI (hl + cl.length + 1)) s1).2.2.1 13 = _
    rw [uF_at]
    simp [Nat.add_assoc]
  · intro i x hx
    show upd (s.1 40) (hl + cl.length) (nI w) (hl + i) = nI x
    by_cases q : i < cl.length
    · rw [upd_ne (by omega)]
      exact h38 i x (by rw [List.getElem?_append_left q] at hx; exact hx)
    · have hl' := at_lt hx
      simp at hl'
      have ei : i = cl.length := by omega
      rw [ei] at hx ⊢
      rw [upd_at]
      simp at hx
      rw [hx]
theorem tn39 {hl w : Nat} (hw : w < 42) : ∀ cr s t hr ts, P42 s → FR s t hl hr [] cr ts → hr + cr.length ≤ 77 → ts.length + cr.length ≤ 77 → t < 42 → (∀ y, y ∈ cr → y < 42) → ∃ s', sm [41] [] [6, 9, 10] [] s s' ∧ FR s' (tnL (mX (Xc s)) (Yc s) w t cr).2.1 hl (hr + (tnL (mX (Xc s)) (Yc s) w t cr).1.length) [] (tnL (mX (Xc s)) (Yc s) w t cr).2.2 (ts ++ (tnL (mX (Xc s)) (Yc s) w t cr).1) ∧ (∀ r, f8_39 (nI w) s' = some r → ev (fun k => r13_36_39_37 k 1 (nI w) (nI cr.length) s) r) := by
  intro cr
  induction cr with
  | nil =>
    intro s t hr ts hP hF hb1 hb2 ht hc
    refine ⟨s, sm.refl s, ?_, fun r h => ev_c fun k => ?_⟩
    · have e : ts ++ ([] : List Nat) = ts := List.append_nil ts
      show FR s t hl hr [] [] (ts ++ [])
      rw [e]
      exact hF
    · simp only [r13_36_39_37]
      rw [if_neg (by decide), if_pos (show nI ([] : List Nat).length ≤ 0 by decide), h]
      rfl
  | cons x c ih =>
    intro s t hr ts hP hF hb1 hb2 ht hc
    have el : (x :: c).length = c.length + 1 := rfl
    have hx : x < 42 := hc x (List.mem_cons_self ..)
    obtain ⟨e6, e15⟩ := f15m_eq hP hF (by omega) ht hx hw
    have hz : ¬ nI (x :: c).length ≤ 0 := fun q => by
      rw [el] at q
      have := (nI_leI (b := 0) (by omega) (by omega)).mp q
      omega
    rw [tnL]
    by_cases q : ar (mX (Xc s)) (Yc s) t x w < 0
    · rw [if_pos q] at e15 ⊢
      have hF' := hF
      obtain ⟨h6, h10, h11, h12, h13, h9, h38, h40, h41⟩ := hF
      let s1 := uF 6 (nI x) s
      let s2 := uA 41 (upd (s1.1 41) ts.length (nI x)) s1
      let s3 := uF 9 (nI (ts.length + 1)) s2
      let s4 := uF 10 (nI (hr + 1)) s3
      have z : sm [41] [] [6, 9, 10] [] s s4 := (((sm_F (by decide) _ s : sm [41] [] [6, 9, 10] [] s s1).trans (sm_A (by decide) _ s1)).trans (sm_F (by decide) _ s2)).trans (sm_F (by decide) _ s3)
      have hF4 : FR s4 x hl (hr + 1) [] c (ts ++ [x]) := by
        refine ⟨rfl, h10, h11, uF_at 10 _ s3, ?_, ?_, fun i y hy => by simp at hy, ?_, ?_⟩
        · show s.2.2.1 11 = _
          rw [h13, el, Nat.add_assoc, Nat.add_comm 1]
        · show s3.2.2.1 9 = _
          rw [show s3.2.2.1 9 = nI (ts.length + 1) from uF_at 9 _ s2]
          simp
        · intro i y hy
          have := h40 (i + 1) y hy
          show s.1 38 (hr + 1 + i) = _
          rw [show hr + 1 + i = hr + (i + 1) by omega]
          exact this
        · intro i y hy
          show upd (s.1 41) ts.length (nI x) i = nI y
          by_cases q : i < ts.length
          · rw [upd_ne (by omega)]
            exact h41 i y (by rw [List.getElem?_append_left q] at hy; exact hy)
          · have hl' := at_lt hy
            simp at hl'
            have ei : i = ts.length := by omega
            rw [ei] at hy ⊢
            rw [upd_at]
            simp at hy
            rw [hy]
      obtain ⟨s', k1, k2, k3⟩ := ih s4 x (hr + 1) (ts ++ [x]) hP hF4 (by omega) (by simp at hb2 ⊢; omega) hx (fun y hy => hc y (List.mem_cons_of_mem _ hy))
      refine ⟨s', z.trans k1, ?_, fun r h => ev1 (k3 r h) fun k hk => ?_⟩
      · have k2 : FR s' (tnL (mX (Xc s)) (Yc s) w x c).2.1 hl (hr + 1 + (tnL (mX (Xc s)) (Yc s) w x c).1.length) [] (tnL (mX (Xc s)) (Yc s) w x c).2.2 (ts ++ [x] ++ (tnL (mX (Xc s)) (Yc s) w x c).1) := k2
        show FR s' (tnL (mX (Xc s)) (Yc s) w x c).2.1 hl (hr + (x :: (tnL (mX (Xc s)) (Yc s) w x c).1).length) [] (tnL (mX (Xc s)) (Yc s) w x c).2.2 (ts ++ (x :: (tnL (mX (Xc s)) (Yc s) w x c).1))
        rw [List.length_cons, show hr + ((tnL (mX (Xc s)) (Yc s) w x c).1.length + 1) = hr + 1 + (tnL (mX (Xc s)) (Yc s) w x c).1.length by omega, show ts ++ (x :: (tnL (mX (Xc s)) (Yc s) w x c).1) = ts ++ [x] ++ (tnL (mX (Xc s)) (Yc s) w x c).1 by simp]
        exact k2
      · have hk : r13_36_39_37 k 1 (nI w) (nI c.length) s4 = some r := hk
        show r13_36_39_37 (k + 1) 1 (nI w) (nI (x :: c).length) s = some r
        simp only [r13_36_39_37]
        rw [if_neg (by decide), if_neg hz, e15, e6]
        simp only [Option.bind_some]
        rw [if_neg (show ¬ (1 : Int32) = 0 by decide)]
        have e16 : f16 (s1.2.2.1 6) s1 = some s3 := by
          unfold f16
          rw [show s1.2.2.1 9 = nI ts.length from h9, rdI_nI (show ts.length < 77 by omega) (by decide), nI_clamp (by omega), show s1.2.2.1 6 = nI x from uF_at 6 _ s]
          show some (uF 9 (s2.2.2.1 9 + 1) s2) = _
          rw [show s2.2.2.1 9 = nI ts.length from h9, nI_1]
        have e7 : f7_37 s3 = some s4 := by
          unfold f7_37
          show some (uF 10 (s3.2.2.1 10 + 1) s3) = _
          rw [show s3.2.2.1 10 = nI hr from h12, nI_1]
        show (f16 (s1.2.2.1 6) s1).bind (fun q13 => (f7_37 q13).bind fun q15 => r13_36_39_37 k 1 (nI w) (nI (x :: c).length + Int32.ofInt (-1)) q15) = some r
        rw [e16]
        simp only [Option.bind_some]
        rw [e7, el, nI_dec]
        exact hk
    · rw [if_neg q] at e15 ⊢
      refine ⟨s, sm.refl s, ?_, fun r h => ev_c fun k => ?_⟩
      · have e : ts ++ ([] : List Nat) = ts := List.append_nil ts
        show FR s t hl hr [] (x :: c) (ts ++ [])
        rw [e]
        exact hF
      · simp only [r13_36_39_37]
        rw [if_neg (by decide), if_neg hz, e15]
        simp only [Option.bind_some]
        rw [if_pos trivial, h]
        rfl
/-- the class's step at a new end is adL -/
theorem ad39 {t hl hr w : Nat} {cl cr ts : List Nat} {s : mS} (hP : P42 s) (hF : FR s t hl hr cl cr ts) (hb1 : hl + cl.length < 77) (hb2 : hr + cr.length ≤ 77) (hb3 : ts.length + cr.length ≤ 77) (ht : t < 42) (hw : w < 42) (hcl : ∀ y, y ∈ cl → y < 42) (hcr : ∀ y, y ∈ cr → y < 42) :
    ∃ s', ev (fun k => f13_36_39_37 k (nI w) s) s' ∧ sm [40, 41] [] [6, 9, 10, 13] [] s s' ∧ FR s' (adL (mX (Xc s)) (Yc s) w t cl cr).2.1 hl (hr + (adL (mX (Xc s)) (Yc s) w t cl cr).1.length) (adL (mX (Xc s)) (Yc s) w t cl cr).2.2.1 (adL (mX (Xc s)) (Yc s) w t cl cr).2.2.2 (ts ++ (adL (mX (Xc s)) (Yc s) w t cl cr).1) := by
  obtain ⟨s1, k1, k2, k3, k4⟩ := pop39 (w := w) ht hw hb2 _ cl s rfl hP hF (by omega) hcl
  have z1 : sm [40, 41] [] [6, 9, 10, 13] [] s s1 := k1.mono (by decide) (by decide) (by decide) (by decide)
  have hle := popL_le (mX (Xc s)) (Yc s) w cl t
  have e13 : ∀ r, ev (fun k => r13_36_39_37 k 0 (nI w) (nI cl.length) s) r → ev (fun k => f13_36_39_37 k (nI w) s) r := fun r h => by
    obtain ⟨K, hK⟩ := h
    refine ⟨K, fun k hk => ?_⟩
    have := hK k hk
    unfold f13_36_39_37 f2_39
    rw [hF.2.1, hF.2.2.1, nI_s (by omega) (by omega), show hl + cl.length - hl = cl.length by omega]
    exact this
  unfold adL
  cases e : popL (mX (Xc s)) (Yc s) w t cl with
  | nil =>
    rw [e] at k2
    have hP1 : P42 s1 := by unfold P42 Xc Yc at hP ⊢; rw [k1.1 18 (by decide), k1.1 19 (by decide)]; exact hP
    have ex : Xc s1 = Xc s := by funext j; unfold Xc; rw [k1.1 18 (by decide)]
    have ey : Yc s1 = Yc s := by funext j; unfold Yc; rw [k1.1 19 (by decide)]
    obtain ⟨s2, m1, m2, m3⟩ := tn39 hw cr s1 t hr ts hP1 k2 hb2 hb3 ht hcr
    rw [ex, ey] at m2
    obtain ⟨s3, n1, n2, n3⟩ := push39 (w := w) m2 (show hl + ([] : List Nat).length < 77 by simp; omega)
    exact ⟨s3, e13 s3 (k4 e s3 (m3 s3 n1)), (z1.trans (m1.mono (by decide) (by decide) (by decide) (by decide))).trans (n2.mono (by decide) (by decide) (by decide) (by decide)), n3⟩
  | cons x y =>
    rw [e] at k2 hle
    obtain ⟨s3, n1, n2, n3⟩ := push39 (w := w) k2 (by omega)
    refine ⟨s3, e13 s3 (k3 (by rw [e]; simp) s3 n1), z1.trans (n2.mono (by decide) (by decide) (by decide) (by decide)), ?_⟩
    have e0 : ts ++ ([] : List Nat) = ts := List.append_nil ts
    show FR s3 t hl hr (x :: y ++ [w]) cr (ts ++ [])
    rw [e0]
    exact n3
