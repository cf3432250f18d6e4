/-! the class's left chain lets go: the code -/
theorem FU.at {s : mS} {t hl hr : Nat} {cl cr ts : List Nat} (h : FU s t hl hr cl cr ts) : s.2.2.1 6 = nI t ∧ s.2.2.1 10 = nI hl ∧ s.2.2.1 11 = nI (hl + cl.length) := ⟨h.1, h.2.1, h.2.2.1⟩
theorem f14_eq {s : mS} {t hl hr w x : Nat} {c cr ts : List Nat} (hP : P42 s) (h : FU s t hl hr (c ++ [x]) cr ts) (hb : hl + c.length + 1 ≤ 77) (ht : t < 42) (hc : ∀ y, y ∈ c ++ [x] → y < 42) (hw : w < 42) : f14_36_37 (nI w) s = some (if ar (Xc s) (Yc s) (lz t c) x w ≤ 0 then 0 else 1) := by
  obtain ⟨h6, h10, h11, _, _, _, h38, _, _⟩ := h
  have el : (c ++ [x]).length = c.length + 1 := by simp
  rw [el] at h11
  have hx : x < 42 := hc x (by simp)
  have a38 : s.1 38 (hl + c.length) = nI x := h38 c.length x (by simp)
  have hz : lz t c < 42 := by
    rcases lz_at (c := c) (t := t) with ⟨_, e⟩ | ⟨_, e⟩
    · rw [e]; exact ht
    · exact hc _ (List.mem_append.mpr (Or.inl (List.mem_of_getElem? e)))
  have e3 : f3_37 (nI t) s = some (nI (lz t c)) := by
    unfold f3_37
    rw [h10, h11, nI_s (by omega) (by omega), show hl + (c.length + 1) - hl = c.length + 1 by omega]
    rcases lz_at (c := c) (t := t) with ⟨e, e'⟩ | ⟨e, e'⟩
    · rw [e, e'] at *
      rw [if_pos (by show nI 1 ≤ 1; decide)]
    · rw [if_neg (fun q => by have := (nI_leI (a := c.length + 1) (b := 1) (by omega) (by omega)).mp q; omega), show (2 : Int32) = nI 2 from rfl, nI_s (by omega) (by omega), rdI_nI (show hl + (c.length + 1) - 2 < 77 by omega) (by decide), nI_clamp (by omega), show hl + (c.length + 1) - 2 = hl + (c.length - 1) by omega, h38 (c.length - 1) (lz t c) (by rw [List.getElem?_append_left (by omega)]; exact e')]
  have e4 : f4_37 s = some (nI x) := by
    unfold f4_37
    rw [h11, show (1 : Int32) = nI 1 from rfl, nI_s (by omega) (by omega), show hl + (c.length + 1) - 1 = hl + c.length by omega, rdI_nI (show hl + c.length < 77 by omega) (by decide), nI_clamp (by omega), a38]
  obtain ⟨v, v1, v2⟩ := f71_le hP hz hx hw
  unfold f14_36_37
  rw [h6, e3, e4]
  simp only [Option.bind_some]
  rw [v1]
  simp only [Option.bind_some]
  by_cases q : ar (Xc s) (Yc s) (lz t c) x w ≤ 0
  · rw [if_pos q, if_pos (v2.mpr q)]
  · rw [if_neg q, if_neg (fun z => q (v2.mp z))]
