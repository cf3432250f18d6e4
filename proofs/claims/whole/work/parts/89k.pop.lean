/-! the class's left chain lets go -/
theorem snoc_ex : ∀ l : List Nat, l ≠ [] → ∃ c x, l = c ++ [x] := by
  intro l
  induction l with
  | nil => intro h; exact absurd rfl h
  | cons v r ih =>
    intro _
    by_cases e : r = []
    · exact ⟨[], v, by rw [e]; rfl⟩
    · obtain ⟨c, x, h⟩ := ih e
      exact ⟨v :: c, x, by rw [h]; rfl⟩
theorem lz_at {c : List Nat} {t : Nat} : (c = [] ∧ lz t c = t) ∨ (0 < c.length ∧ c[c.length - 1]? = some (lz t c)) := by
  by_cases e : c = []
  · exact Or.inl ⟨e, by rw [e]; rfl⟩
  · obtain ⟨d, x, h⟩ := snoc_ex c e
    right
    rw [h, lz_snoc, List.length_append]
    refine ⟨by simp, ?_⟩
    rw [List.getElem?_append_right (by simp)]
    simp
theorem f71_le {s : mS} (hP : P42 s) {a b c : Nat} (ha : a < 42) (hb : b < 42) (hc : c < 42) : ∃ v, f71 (nI a) (nI b) (nI c) s = some v ∧ (((Int32.toInt64 1) * v ≤ (0 : Int64)) ↔ ar (Xc s) (Yc s) a b c ≤ 0) := by
  obtain ⟨v, h1, h2⟩ := f71_eq hP ha hb hc
  refine ⟨v, h1, ?_⟩
  have e : (Int32.toInt64 1) * v = v := by
    have : (Int32.toInt64 1) = 1 := by decide
    rw [this, Int64.one_mul]
  rw [e, Int64.le_iff_toInt_le, h2.1]
  have : (0 : Int64).toInt = 0 := by decide
  omega
