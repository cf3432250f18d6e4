/-! lists: what popL, tnL leave -/
theorem lem1 {s : mS} (hP : P42 s) {a b c : Nat} (ha : a < 42) (hb : b < 42) (hc : c < 42) : ∃ v, f71 (nI a) (nI b) (nI c) s = some v ∧ (((Int32.toInt64 1) * v ≤ (0 : Int64)) ↔ 0 ≤ ar (mX (Xc s)) (Yc s) a b c) := by
  obtain ⟨v, h1, h2⟩ := f71_le hP ha hb hc
  refine ⟨v, h1, h2.trans ?_⟩
  rw [ar_m]
  omega
theorem f71_mn {s : mS} (hP : P42 s) {a b c : Nat} (ha : a < 42) (hb : b < 42) (hc : c < 42) : ∃ v, f71 (nI a) (nI b) (nI c) s = some v ∧ (((Int32.toInt64 (-1)) * v ≤ (0 : Int64)) ↔ 0 ≤ ar (Xc s) (Yc s) a b c) := by
  obtain ⟨v, h1, h2⟩ := f71_eq hP ha hb hc
  refine ⟨v, h1, ?_⟩
  have e1 : Ex (Int32.toInt64 (-1)) (-1) 1 := ⟨by decide, by decide⟩
  have e2 := e1.mul h2 (C := 2305843000623759368) (by omega) (by decide)
  rw [Int64.le_iff_toInt_le, e2.1]
  have : (0 : Int64).toInt = 0 := by decide
  omega
theorem lem2 {s : mS} (hP : P42 s) {a b c : Nat} (ha : a < 42) (hb : b < 42) (hc : c < 42) : ∃ v, f71 (nI a) (nI b) (nI c) s = some v ∧ (((Int32.toInt64 (-1)) * v ≤ (0 : Int64)) ↔ ar (mX (Xc s)) (Yc s) a b c ≤ 0) := by
  obtain ⟨v, h1, h2⟩ := f71_mn hP ha hb hc
  refine ⟨v, h1, h2.trans ?_⟩
  rw [ar_m]
  omega
theorem popL_le (X Y : Nat → Int) (w : Nat) : ∀ c t, (popL X Y w t c).length ≤ c.length ∧ ∀ y, y ∈ popL X Y w t c → y ∈ c := by
  intro c
  induction c with
  | nil => intro t; exact ⟨Nat.le_refl _, fun y h => h⟩
  | cons v r ih =>
    intro t
    have := ih v
    simp only [popL]
    cases e : popL X Y w v r with
    | nil =>
      show (if _ then [v] else []).length ≤ _ ∧ _
      by_cases q : 0 < (ar X Y t v w)
      · rw [if_pos q]
        exact ⟨by simp, fun y h => by simp at h; simp [h]⟩
      · rw [if_neg q]
        exact ⟨by simp, fun y h => by simp at h⟩
    | cons x y =>
      rw [e] at this
      exact ⟨by simp at this ⊢; omega, fun z h => by
        rcases List.mem_cons.mp h with q | q
        · rw [q]; exact List.mem_cons_self ..
        · exact List.mem_cons_of_mem _ (this.2 z q)⟩
theorem tnL_le (X Y : Nat → Int) (w : Nat) : ∀ c t, (tnL X Y w t c).1 ++ (tnL X Y w t c).2.2 = c ∧ (tnL X Y w t c).2.1 = lz t (tnL X Y w t c).1 := by
  intro c
  induction c with
  | nil => intro t; exact ⟨rfl, rfl⟩
  | cons v r ih =>
    intro t
    rw [tnL]
    by_cases q : (ar X Y t v w) < 0
    · rw [if_pos q]
      exact ⟨by show v :: ((tnL X Y w v r).1 ++ (tnL X Y w v r).2.2) = _; rw [(ih v).1], (ih v).2⟩
    · rw [if_neg q]
      exact ⟨rfl, rfl⟩
theorem lz_mem {t : Nat} {c : List Nat} : lz t c = t ∨ lz t c ∈ c := by
  rcases lz_at (c := c) (t := t) with ⟨_, e⟩ | ⟨_, e⟩
  · exact Or.inl e
  · exact Or.inr (List.mem_of_getElem? e)
theorem upd_at (f : Nat → Int32) (i : Nat) (v : Int32) : upd f i v i = v := if_pos rfl
theorem upd_ne {f : Nat → Int32} {i j : Nat} {v : Int32} (h : j ≠ i) : upd f i v j = f j := if_neg h
/-! the class's left chain: the tip turns, the new end comes -/
theorem f15_eq {s : mS} {t hl hr w x : Nat} {cl cr ts : List Nat} (hP : P42 s) (h : FU s t hl hr cl (x :: cr) ts) (hb : hr < 77) (ht : t < 42) (hx : x < 42) (hw : w < 42) : f6_39 s = some (nI x) ∧ f15_36_39 (nI w) s = some (if ar (Xc s) (Yc s) t x w < 0 then 1 else 0) := by
  obtain ⟨h6, _, _, h12, _, _, _, h40, _⟩ := h
  have a40 : s.1 40 (hr + 0) = nI x := h40 0 x rfl
  have e6 : f6_39 s = some (nI x) := by
    unfold f6_39
    rw [h12, rdI_nI hb (by decide), nI_clamp (by omega)]
    exact congrArg some a40
  refine ⟨e6, ?_⟩
  obtain ⟨v, v1, v2⟩ := f71_mn hP ht hx hw
  unfold f15_36_39
  rw [e6, h6]
  simp only [Option.bind_some]
  rw [v1]
  simp only [Option.bind_some]
  by_cases q : ar (Xc s) (Yc s) t x w < 0
  · rw [if_pos q, if_neg (fun z => by have := v2.mp z; omega)]
  · rw [if_neg q, if_pos (v2.mpr (by omega))]
theorem push37 {s : mS} {t hl hr w : Nat} {cl cr ts : List Nat} (h : FU s t hl hr cl cr ts) (hb : hl + cl.length < 77) : ∃ s', f8_37 (nI w) s = some s' ∧ sm [38] [] [11] [] s s' ∧ FU s' t hl hr (cl ++ [w]) cr ts := by
  obtain ⟨h6, h10, h11, h12, h13, h9, h38, h40, h41⟩ := h
  let s1 := uA 38 (upd (s.1 38) (hl + cl.length) (nI w)) s
  have e11 : s1.2.2.1 11 = nI (hl + cl.length) := h11
  refine ⟨uF 11 (nI (hl + cl.length + 1)) s1, ?_, (sm_A (by decide) _ s : sm [38] [] [11] [] s s1).trans (sm_F (by decide) _ s1), h6, h10, ?_, h12, h13, h9, ?_, h40, h41⟩
  · unfold f8_37
    rw [h11, rdI_nI hb (by decide), nI_clamp (by omega)]
    show some (uF 11 (s1.2.2.1 11 + 1) s1) = _
    rw [e11, nI_1]
  · show (uF 11 (nI (hl + cl.length + 1)) s1).2.2.1 11 = _
    rw [uF_at]
    simp [Nat.add_assoc]
  · intro i x hx
    show upd (s.1 38) (hl + cl.length) (nI w) (hl + i) = nI x
    by_cases q : i < cl.length
    · rw [upd_ne (by omega)]
      exact h38 i x (by rw [List.getElem?_append_left q] at hx; exact hx)
    · have hl' := at_lt hx
      simp at hl'
      have ei : i = cl.length := by omega
      rw [ei] at hx ⊢
      rw [upd_at]
      simp at hx
      rw [hx]
theorem tn37 {hl w : Nat} (hw : w < 42) : ∀ cr s t hr ts, P42 s → FU s t hl hr [] cr ts → hr + cr.length ≤ 77 → ts.length + cr.length ≤ 77 → t < 42 → (∀ y, y ∈ cr → y < 42) → ∃ s', sm [41] [] [6, 9, 12] [] s s' ∧ FU s' (tnL (Xc s) (Yc s) w t cr).2.1 hl (hr + (tnL (Xc s) (Yc s) w t cr).1.length) [] (tnL (Xc s) (Yc s) w t cr).2.2 (ts ++ (tnL (Xc s) (Yc s) w t cr).1) ∧ (∀ r, f8_37 (nI w) s' = some r → ev (fun k => r13_36_37_39 k 1 (nI w) (nI cr.length) s) r) := by
  intro cr
  induction cr with
  | nil =>
    intro s t hr ts hP hF hb1 hb2 ht hc
    refine ⟨s, sm.refl s, ?_, fun r h => ev_c fun k => ?_⟩
    · have e : ts ++ ([] : List Nat) = ts := List.append_nil ts
      show FU s t hl hr [] [] (ts ++ [])
      rw [e]
      exact hF
    · simp only [r13_36_37_39]
      rw [if_neg (by decide), if_pos (show nI ([] : List Nat).length ≤ 0 by decide), h]
      rfl
  | cons x c ih =>
    intro s t hr ts hP hF hb1 hb2 ht hc
    have el : (x :: c).length = c.length + 1 := rfl
    have hx : x < 42 := hc x (List.mem_cons_self ..)
    obtain ⟨e6, e15⟩ := f15_eq hP hF (by omega) ht hx hw
    have hz : ¬ nI (x :: c).length ≤ 0 := fun q => by
      rw [el] at q
      have := (nI_leI (b := 0) (by omega) (by omega)).mp q
      omega
    rw [tnL]
    by_cases q : ar (Xc s) (Yc s) t x w < 0
    · rw [if_pos q] at e15 ⊢
      have hF' := hF
      obtain ⟨h6, h10, h11, h12, h13, h9, h38, h40, h41⟩ := hF
      let s1 := uF 6 (nI x) s
      let s2 := uA 41 (upd (s1.1 41) ts.length (nI x)) s1
      let s3 := uF 9 (nI (ts.length + 1)) s2
      let s4 := uF 12 (nI (hr + 1)) s3
      have z : sm [41] [] [6, 9, 12] [] s s4 := (((sm_F (by decide) _ s : sm [41] [] [6, 9, 12] [] s s1).trans (sm_A (by decide) _ s1)).trans (sm_F (by decide) _ s2)).trans (sm_F (by decide) _ s3)
      have hF4 : FU s4 x hl (hr + 1) [] c (ts ++ [x]) := by
        refine ⟨rfl, h10, h11, uF_at 12 _ s3, ?_, ?_, fun i y hy => by simp at hy, ?_, ?_⟩
        · show s.2.2.1 13 = _
          rw [h13, el, Nat.add_assoc, Nat.add_comm 1]
        · show s3.2.2.1 9 = _
          rw [show s3.2.2.1 9 = nI (ts.length + 1) from uF_at 9 _ s2]
          simp
        · intro i y hy
          have := h40 (i + 1) y hy
          show s.1 40 (hr + 1 + i) = _
          rw [show hr + 1 + i = hr + (i + 1) by omega]
          exact this
        · intro i y hy
          show upd (s.1 41) ts.length (nI x) i = nI y
          by_cases q : i < ts.length
          · rw [upd_ne (by omega)]
            exact h41 i y (by rw [List.getElem?_append_left q] at hy; exact hy)
          · have hl' := at_lt hy
            simp at hl'
            have ei : i = ts.length := by omega
            rw [ei] at hy ⊢
            rw [upd_at]
            simp at hy
            rw [hy]
      obtain ⟨s', k1, k2, k3⟩ := ih s4 x (hr + 1) (ts ++ [x]) hP hF4 (by omega) (by simp at hb2 ⊢; omega) hx (fun y hy => hc y (List.mem_cons_of_mem _ hy))
      refine ⟨s', z.trans k1, ?_, fun r h => ev1 (k3 r h) fun k hk => ?_⟩
      · have k2 : FU s' (tnL (Xc s) (Yc s) w x c).2.1 hl (hr + 1 + (tnL (Xc s) (Yc s) w x c).1.length) [] (tnL (Xc s) (Yc s) w x c).2.2 (ts ++ [x] ++ (tnL (Xc s) (Yc s) w x c).1) := k2
        show FU s' (tnL (Xc s) (Yc s) w x c).2.1 hl (hr + (x :: (tnL (Xc s) (Yc s) w x c).1).length) [] (tnL (Xc s) (Yc s) w x c).2.2 (ts ++ (x :: (tnL (Xc s) (Yc s) w x c).1))
        rw [List.length_cons, show hr + ((tnL (Xc s) (Yc s) w x c).1.length + 1) = hr + 1 + (tnL (Xc s) (Yc s) w x c).1.length by omega, show ts ++ (x :: (tnL (Xc s) (Yc s) w x c).1) = ts ++ [x] ++ (tnL (Xc s) (Yc s) w x c).1 by simp]
        exact k2
      · have hk : r13_36_37_39 k 1 (nI w) (nI c.length) s4 = some r := hk
        show r13_36_37_39 (k + 1) 1 (nI w) (nI (x :: c).length) s = some r
        simp only [r13_36_37_39]
        rw [if_neg (by decide), if_neg hz, e15, e6]
        simp only [Option.bind_some]
        rw [if_neg (show ¬ (1 : Int32) = 0 by decide)]
        have e16 : f16 (s1.2.2.1 6) s1 = some s3 := by
          unfold f16
          rw [show s1.2.2.1 9 = nI ts.length from h9, rdI_nI (show ts.length < 77 by omega) (by decide), nI_clamp (by omega), show s1.2.2.1 6 = nI x from uF_at 6 _ s]
          show some (uF 9 (s2.2.2.1 9 + 1) s2) = _
          rw [show s2.2.2.1 9 = nI ts.length from h9, nI_1]
        have e7 : f7_39 s3 = some s4 := by
          unfold f7_39
          show some (uF 12 (s3.2.2.1 12 + 1) s3) = _
          rw [show s3.2.2.1 12 = nI hr from h12, nI_1]
        show (f16 (s1.2.2.1 6) s1).bind (fun q13 => (f7_39 q13).bind fun q15 => r13_36_37_39 k 1 (nI w) (nI (x :: c).length + Int32.ofInt (-1)) q15) = some r
        rw [e16]
        simp only [Option.bind_some]
        rw [e7, el, nI_dec]
        exact hk
    · rw [if_neg q] at e15 ⊢
      refine ⟨s, sm.refl s, ?_, fun r h => ev_c fun k => ?_⟩
      · have e : ts ++ ([] : List Nat) = ts := List.append_nil ts
        show FU s t hl hr [] (x :: c) (ts ++ [])
        rw [e]
        exact hF
      · simp only [r13_36_37_39]
        rw [if_neg (by decide), if_neg hz, e15]
        simp only [Option.bind_some]
        rw [if_pos trivial, h]
        rfl
/-- the class's step at a new end is adL -/
theorem ad37 {t hl hr w : Nat} {cl cr ts : List Nat} {s : mS} (hP : P42 s) (hF : FU s t hl hr cl cr ts) (hb1 : hl + cl.length < 77) (hb2 : hr + cr.length ≤ 77) (hb3 : ts.length + cr.length ≤ 77) (ht : t < 42) (hw : w < 42) (hcl : ∀ y, y ∈ cl → y < 42) (hcr : ∀ y, y ∈ cr → y < 42) :
    ∃ s', ev (fun k => f13_36_37_39 k (nI w) s) s' ∧ sm [38, 41] [] [6, 9, 11, 12] [] s s' ∧ FU s' (adL (Xc s) (Yc s) w t cl cr).2.1 hl (hr + (adL (Xc s) (Yc s) w t cl cr).1.length) (adL (Xc s) (Yc s) w t cl cr).2.2.1 (adL (Xc s) (Yc s) w t cl cr).2.2.2 (ts ++ (adL (Xc s) (Yc s) w t cl cr).1) := by
  obtain ⟨s1, k1, k2, k3, k4⟩ := pop37 (w := w) ht hw hb2 _ cl s rfl hP hF (by omega) hcl
  have z1 : sm [38, 41] [] [6, 9, 11, 12] [] s s1 := k1.mono (by decide) (by decide) (by decide) (by decide)
  have hle := popL_le (Xc s) (Yc s) w cl t
  have e13 : ∀ r, ev (fun k => r13_36_37_39 k 0 (nI w) (nI cl.length) s) r → ev (fun k => f13_36_37_39 k (nI w) s) r := fun r h => by
    obtain ⟨K, hK⟩ := h
    refine ⟨K, fun k hk => ?_⟩
    have := hK k hk
    unfold f13_36_37_39 f2_37
    rw [hF.2.1, hF.2.2.1, nI_s (by omega) (by omega), show hl + cl.length - hl = cl.length by omega]
    exact this
  unfold adL
  cases e : popL (Xc s) (Yc s) w t cl with
  | nil =>
    rw [e] at k2
    have hP1 : P42 s1 := by unfold P42 Xc Yc at hP ⊢; rw [k1.1 18 (by decide), k1.1 19 (by decide)]; exact hP
    have ex : Xc s1 = Xc s := by funext j; unfold Xc; rw [k1.1 18 (by decide)]
    have ey : Yc s1 = Yc s := by funext j; unfold Yc; rw [k1.1 19 (by decide)]
    obtain ⟨s2, m1, m2, m3⟩ := tn37 hw cr s1 t hr ts hP1 k2 hb2 hb3 ht hcr
    rw [ex, ey] at m2
    obtain ⟨s3, n1, n2, n3⟩ := push37 (w := w) m2 (show hl + ([] : List Nat).length < 77 by simp; omega)
    exact ⟨s3, e13 s3 (k4 e s3 (m3 s3 n1)), (z1.trans (m1.mono (by decide) (by decide) (by decide) (by decide))).trans (n2.mono (by decide) (by decide) (by decide) (by decide)), n3⟩
  | cons x y =>
    rw [e] at k2 hle
    obtain ⟨s3, n1, n2, n3⟩ := push37 (w := w) k2 (by omega)
    refine ⟨s3, e13 s3 (k3 (by rw [e]; simp) s3 n1), z1.trans (n2.mono (by decide) (by decide) (by decide) (by decide)), ?_⟩
    have e0 : ts ++ ([] : List Nat) = ts := List.append_nil ts
    show FU s3 t hl hr (x :: y ++ [w]) cr (ts ++ [])
    rw [e0]
    exact n3
