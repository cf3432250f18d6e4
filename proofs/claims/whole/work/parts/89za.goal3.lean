/-! the class at the goal: its last turns -/
/-- a last turn at b goes -/
def cutR (b : Nat) (l l' : List Nat) : Prop := l = l' ++ [b] ∨ (l' = l ∧ ∀ c, l ≠ c ++ [b])
/-- the class's turns -/
def CTn (s : mS) (l : List Nat) : Prop := s.2.2.1 9 = nI l.length ∧ ∀ i x, l[i]? = some x → s.1 41 i = nI x
theorem r17_ev {b : Nat} (hb : b < 42) : ∀ c s t hl hr cr ts, FU s t hl hr (c ++ [b]) cr ts → hl + c.length + 1 ≤ 77 → ts.length + c.length ≤ 77 → (∀ y, y ∈ ts ++ c → y < 42) → ∃ s' l', ev (fun k => r17 k (nI b) (nI (c.length + 1)) s) s' ∧ sm [41] [] [9, 10] [] s s' ∧ cutR b (ts ++ c) l' ∧ CTn s' l' := by
  intro c
  induction c with
  | nil =>
    intro s t hl hr cr ts hF hb1 hb2 hm
    have e0 : ts ++ ([] : List Nat) = ts := List.append_nil ts
    rw [e0] at hm ⊢
    obtain ⟨h6, h10, h11, h12, h13, h9, h38, h40, h41⟩ := hF
    have one : ∀ k, r17 (k + 1) (nI b) (nI (([] : List Nat).length + 1)) s = if (s.2.2.1 9) ≤ 0 then some s else rdI 77 ((s.2.2.1 9) - 1) (if ¬ (s.1 41 (Int32.toNatClampNeg ((s.2.2.1 9) - 1))) = nI b then some s else pt (uF 9 ((s.2.2.1 9) - 1) s) fun s5 => some s5) := by
      intro k
      simp only [r17]
      rw [if_pos (show nI (([] : List Nat).length + 1) ≤ 1 by decide)]
    by_cases c0 : ts = []
    · subst c0
      refine ⟨s, [], ev_c fun k => ?_, sm.refl s, Or.inr ⟨rfl, fun c e => by have := congrArg List.length e; simp at this⟩, h9, fun i x hx => by simp at hx⟩
      rw [one, h9, if_pos (show nI ([] : List Nat).length ≤ 0 by decide)]
    · obtain ⟨tt, x, et⟩ := snoc_ex ts c0
      subst et
      have el : (tt ++ [x]).length = tt.length + 1 := by simp
      rw [el] at h9 hb2
      have hx : x < 42 := hm x (by simp)
      have a41 := h41 tt.length x (by simp)
      have base : ∀ k, r17 (k + 1) (nI b) (nI (([] : List Nat).length + 1)) s = if ¬ nI x = nI b then some s else some (uF 9 (nI tt.length) s) := by
        intro k
        have hb3 : tt.length < 77 := by have : tt.length + 1 + 0 ≤ 77 := hb2; omega
        rw [one, h9, if_neg (fun q => by have := (nI_leI (b := 0) (by omega) (by omega)).mp q; omega), nI_s1 (by omega), rdI_nI hb3 (by decide), nI_clamp (by omega), a41]
        rfl
      by_cases cb : x = b
      · refine ⟨uF 9 (nI tt.length) s, tt, ev_c fun k => ?_, sm_F (by decide) _ s, Or.inl (by rw [cb]), uF_at 9 _ _, fun i y hy => h41 i y (by rw [List.getElem?_append_left (at_lt hy)]; exact hy)⟩
        rw [base, cb, if_neg (fun q => q rfl)]
      · refine ⟨s, tt ++ [x], ev_c fun k => ?_, sm.refl s, Or.inr ⟨rfl, fun c e => cb ?_⟩, by rw [el]; exact h9, h41⟩
        · rw [base, if_pos (fun q => cb ((nI_eq (by omega) (by omega)).mp q))]
        · have := List.append_inj_right' e rfl
          simpa using this
  | cons x c ih =>
    intro s t hl hr cr ts hF hb1 hb2 hm
    obtain ⟨h6, h10, h11, h12, h13, h9, h38, h40, h41⟩ := hF
    have el : (x :: c).length = c.length + 1 := rfl
    have a38 : s.1 38 (hl + 0) = nI x := h38 0 x rfl
    let s2 := uA 41 (upd (s.1 41) ts.length (nI x)) s
    let s3 := uF 9 (nI (ts.length + 1)) s2
    let s4 := uF 10 (nI (hl + 1)) s3
    have z : sm [41] [] [9, 10] [] s s4 := ((sm_A (by decide) _ s : sm [41] [] [9, 10] [] s s2).trans (sm_F (by decide) _ s2)).trans (sm_F (by decide) _ s3)
    have hF4 : FU s4 t (hl + 1) hr (c ++ [b]) cr (ts ++ [x]) := by
      refine ⟨h6, uF_at 10 _ s3, ?_, h12, h13, ?_, ?_, h40, ?_⟩
      · show s.2.2.1 11 = _
        rw [h11]
        simp
        congr 1
        omega
      · show s3.2.2.1 9 = _
        rw [show s3.2.2.1 9 = nI (ts.length + 1) from uF_at 9 _ s2]
        simp
      · intro i y hy
        have := h38 (i + 1) y hy
        show s.1 38 (hl + 1 + i) = _
        rw [show hl + 1 + i = hl + (i + 1) by omega]
        exact this
      · intro i y hy
        show upd (s.1 41) ts.length (nI x) i = nI y
        by_cases q : i < ts.length
        · rw [upd_ne (by omega)]
          exact h41 i y (by rw [List.getElem?_append_left q] at hy; exact hy)
        · have hl' := at_lt hy
          simp at hl'
          have ei : i = ts.length := by omega
          rw [ei] at hy ⊢
          rw [upd_at]
          simp at hy
          rw [hy]
    have ea : ts ++ (x :: c) = ts ++ [x] ++ c := by simp
    obtain ⟨s', l', k1, k2, k3, k4⟩ := ih s4 t (hl + 1) hr cr (ts ++ [x]) hF4 (by simp at hb1; omega) (by simp at hb2 ⊢; omega) (by rw [← ea]; exact hm)
    refine ⟨s', l', ev1 k1 fun k hk => ?_, z.trans k2, by rw [ea]; exact k3, k4⟩
    have hk : r17 k (nI b) (nI (c.length + 1)) s4 = some s' := hk
    show r17 (k + 1) (nI b) (nI ((x :: c).length + 1)) s = some s'
    have hb1' : hl + (c.length + 1) + 1 ≤ 77 := hb1
    have hb2' : ts.length + (c.length + 1) ≤ 77 := hb2
    simp only [r17]
    rw [if_neg (fun q => by have := (nI_leI (b := 1) (by simp; omega) (by omega)).mp q; simp at this)]
    have e6 : f6_37 s = some (nI x) := by
      unfold f6_37
      rw [h10, rdI_nI (show hl < 77 by omega) (by decide), nI_clamp (by omega)]
      exact congrArg some a38
    have e16 : f16 (nI x) s = some s3 := by
      unfold f16
      rw [h9, rdI_nI (show ts.length < 77 by omega) (by decide), nI_clamp (by omega)]
      show some (uF 9 (s2.2.2.1 9 + 1) s2) = _
      rw [show s2.2.2.1 9 = nI ts.length from h9, nI_1]
    have e7 : f7_37 s3 = some s4 := by
      unfold f7_37
      show some (uF 10 (s3.2.2.1 10 + 1) s3) = _
      rw [show s3.2.2.1 10 = nI hl from h10, nI_1]
    rw [e6]
    simp only [Option.bind_some]
    rw [e16]
    simp only [Option.bind_some]
    rw [e7]
    simp only [Option.bind_some]
    rw [show (x :: c).length + 1 = (c.length + 1) + 1 from rfl, nI_dec]
    exact hk
theorem gl_mem (X Y : Nat → Int) (b t : Nat) (cl cr : List Nat) : (∀ y, y ∈ gl X Y b t cl cr → y ∈ cl ∨ y ∈ cr) ∧ (gl X Y b t cl cr).length ≤ cl.length + cr.length := by
  have h1 := popL_le X Y b cl t
  have h2 := (tnL_le X Y b cr t).1
  have h3 := congrArg List.length h2
  rw [List.length_append] at h3
  unfold gl
  cases e : popL X Y b t cl with
  | nil => exact ⟨fun y hy => Or.inr (by rw [← h2]; exact List.mem_append.mpr (Or.inl hy)), by show (tnL X Y b t cr).1.length ≤ _; omega⟩
  | cons x z =>
    rw [e] at h1
    exact ⟨fun y hy => Or.inl (h1.2 y hy), by have := h1.1; show (x :: z).length ≤ _; omega⟩
theorem f17_ev {s : mS} {t hl hr b : Nat} {cl cr ts : List Nat} (hP : P42 s) (hF : FU s t hl hr cl cr ts) (hbd : hl + cl.length + hr + cr.length ≤ 75) (htl : ts.length = hl + hr) (ht : t < 42) (hb : b < 42) (hcl : ∀ y, y ∈ cl → y < 42) (hcr : ∀ y, y ∈ cr → y < 42) (hts : ∀ y, y ∈ ts → y < 42) : ∃ s' l', ev (fun k => f17 k (nI b) s) s' ∧ sm [38, 41] [] [6, 9, 10, 11, 12] [] s s' ∧ cutR b (ts ++ gl (Xc s) (Yc s) b t cl cr) l' ∧ CTn s' l' := by
  obtain ⟨s1, ⟨K1, hK1⟩, z1, hF1⟩ := ad37 hP hF (by omega) (by omega) (by omega) ht hb hcl hcr
  have hpl := popL_le (Xc s) (Yc s) b cl t
  have htn := (tnL_le (Xc s) (Yc s) b cr t).1
  have htn' := congrArg List.length htn
  rw [List.length_append] at htn'
  have fin2 : ∀ c, (adL (Xc s) (Yc s) b t cl cr).2.2.1 = c ++ [b] → hl + c.length + 1 ≤ 77 → (ts ++ (adL (Xc s) (Yc s) b t cl cr).1).length + c.length ≤ 77 → (∀ y, y ∈ ts ++ (adL (Xc s) (Yc s) b t cl cr).1 ++ c → y < 42) → ∃ s' l', ev (fun k => f17 k (nI b) s) s' ∧ sm [38, 41] [] [6, 9, 10, 11, 12] [] s s' ∧ cutR b (ts ++ (adL (Xc s) (Yc s) b t cl cr).1 ++ c) l' ∧ CTn s' l' := by
    intro c ec b1 b2 b3
    rw [ec] at hF1
    obtain ⟨s', l', ⟨K2, hK2⟩, z2, k3, k4⟩ := r17_ev hb c s1 _ hl _ _ _ hF1 b1 b2 b3
    refine ⟨s', l', ⟨K1 + K2, fun k hk => ?_⟩, (z1.mono (by decide) (by decide) (by decide) (by decide)).trans (z2.mono (by decide) (by decide) (by decide) (by decide)), k3, k4⟩
    have k1 : f13_36_37_39 k (nI b) s = some s1 := hK1 k (by omega)
    have k2 : r17 k (nI b) (nI (c.length + 1)) s1 = some s' := hK2 k (by omega)
    show f17 k (nI b) s = some s'
    unfold f17 f2_37
    rw [k1]
    simp only [Option.bind_some]
    rw [hF1.2.1, hF1.2.2.1, nI_s (by omega) (by simp; omega), show hl + (c ++ [b]).length - hl = c.length + 1 by simp]
    exact k2
  have ea : adL (Xc s) (Yc s) b t cl cr = match popL (Xc s) (Yc s) b t cl with
    | [] => ((tnL (Xc s) (Yc s) b t cr).1, (tnL (Xc s) (Yc s) b t cr).2.1, [b], (tnL (Xc s) (Yc s) b t cr).2.2)
    | x :: y => ([], t, x :: y ++ [b], cr) := rfl
  have eg : gl (Xc s) (Yc s) b t cl cr = match popL (Xc s) (Yc s) b t cl with
    | [] => (tnL (Xc s) (Yc s) b t cr).1
    | x :: y => x :: y := rfl
  cases e : popL (Xc s) (Yc s) b t cl with
  | nil =>
    rw [e] at ea eg
    rw [ea] at fin2
    have := fin2 [] rfl (by simp; omega) (by simp; omega) (by
      intro y hy
      rw [List.append_nil] at hy
      rcases List.mem_append.mp hy with q | q
      · exact hts y q
      · exact hcr y (by rw [← htn]; exact List.mem_append.mpr (Or.inl q)))
    rw [List.append_nil] at this
    rw [eg]
    exact this
  | cons x y =>
    rw [e] at ea eg hpl
    rw [ea] at fin2
    have hl1 := hpl.1
    have := fin2 (x :: y) rfl (by omega) (by rw [List.append_nil]; omega) (by
      intro w hw
      rw [List.append_nil] at hw
      rcases List.mem_append.mp hw with q | q
      · exact hts w q
      · exact hcl w (hpl.2 w q))
    rw [List.append_nil] at this
    rw [eg]
    exact this
