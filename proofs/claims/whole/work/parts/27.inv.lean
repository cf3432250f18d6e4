/-! THE CLAIM OUT OF AN INVARIANT: what is left is about functions alone -/
def s0 : mS := (fun k => if k = 24 then mfill 1600 (-1) (fun _ => 0) else fun _ => 0, fun _ _ => 0, fun _ => 0, fun _ => 0)
theorem HL0_eq : HL0 = hp s0 [] := rfl
theorem msl_append (a b : mHp) : msl (a ++ b) = msl a + msl b := by simp [msl, List.map_append, List.sum_append]
theorem msl_hp0 (s : mS) : msl (hp s []) ≤ 9300 := by
  simp only [hp, msl, List.map, mslot, List.length]
  decide
theorem msl_hp (s : mS) (ex : mHp) : msl (hp s ex) ≤ 9300 + msl ex := by
  rw [show hp s ex = hp s [] ++ ex from rfl, msl_append]
  have := msl_hp0 s
  omega
theorem len_hp (s : mS) (ex : mHp) : (hp s ex).length = ex.length + 38 := by simp only [hp, List.length_cons]
def okE (e : mHp) : Prop := e.length ≤ 1 ∧ msl e ≤ 6
theorem okE_nil : okE [] := by unfold okE; decide
theorem okE_x (c : Nat) (hc : 10 ≤ c) : okE [.inr (c, [])] := ⟨Nat.le_refl _, by simp [msl, mslot, show ¬ c < 10 from by omega]⟩
theorem e_o157 {k : Nat} {v1 : Int32} {v2 : Int32} {s : mS} {r : Int32 × mS × mHp} (h : o157 k v1 v2 s = some r) : okE r.2.2 := by
  unfold o157 at h
  split at h
  · cases h; exact okE_nil
  · cases h; exact okE_x _ (by decide)
  · cases h; exact okE_x _ (by decide)
  · cases h
theorem e_o158 {k : Nat} {v1 : Int32} {v2 : Int32} {s : mS} {r : Int32 × mS × mHp} (h : o158 k v1 v2 s = some r) : okE r.2.2 := by
  unfold o158 at h
  split at h
  · cases h; exact okE_nil
  · cases h; exact okE_x _ (by decide)
  · cases h
theorem e_o159 {k : Nat} {v1 : Int32} {v2 : Int32} {s : mS} {r : Int32 × mS × mHp} (h : o159 k v1 v2 s = some r) : okE r.2.2 := by
  unfold o159 at h
  split at h
  · cases h; exact okE_nil
  · cases h; exact okE_x _ (by decide)
  · cases h
theorem e_o160 {v1 : Int32} {v2 : Int32} {s : mS} {r : Int32 × mS × mHp} (h : o160 v1 v2 s = some r) : okE r.2.2 := by
  unfold o160 at h
  split at h
  · cases h; exact okE_nil
  · cases h; exact okE_x _ (by decide)
  · cases h
theorem e_o161 {v1 : Int32} {v2 : Int32} {s : mS} {r : Int32 × mS × mHp} (h : o161 v1 v2 s = some r) : okE r.2.2 := by
  unfold o161 at h
  split at h
  · cases h; exact okE_nil
  · cases h; exact okE_x _ (by decide)
  · cases h
theorem e_o162 {v1 : Int32} {v2 : Int32} {s : mS} {r : Int32 × mS × mHp} (h : o162 v1 v2 s = some r) : okE r.2.2 := by
  unfold o162 at h
  split at h
  · cases h; exact okE_nil
  · cases h; exact okE_x _ (by decide)
  · cases h
theorem e_o163 {v1 : Int32} {v2 : Int32} {v3 : Int32} {s : mS} {r : Int32 × mS × mHp} (h : o163 v1 v2 v3 s = some r) : okE r.2.2 := by
  unfold o163 at h
  split at h
  · cases h; exact okE_nil
  · cases h; exact okE_x _ (by decide)
  · cases h
theorem e_o164 {v1 : Int32} {v2 : Int32} {v3 : Int32} {v4 : Int32} {s : mS} {r : Int32 × mS × mHp} (h : o164 v1 v2 v3 v4 s = some r) : okE r.2.2 := by
  unfold o164 at h
  split at h
  · cases h; exact okE_nil
  · cases h; exact okE_x _ (by decide)
  · cases h
theorem e_o165 {k : Nat} {v1 : Int32} {v2 : Int32} {s : mS} {r : Int32 × mS × mHp} (h : o165 k v1 v2 s = some r) : okE r.2.2 := by
  unfold o165 at h
  split at h
  · cases h; exact okE_nil
  · cases h; exact okE_x _ (by decide)
  · cases h
theorem e_o166 {k : Nat} {v1 : Int32} {v2 : Int32} {v3 : Int32} {v4 : Int32} {s : mS} {r : Int32 × mS × mHp} (h : o166 k v1 v2 v3 v4 s = some r) : okE r.2.2 := by
  unfold o166 at h
  split at h
  · cases h; exact okE_nil
  · cases h; exact okE_x _ (by decide)
  · cases h
theorem e_g0 {k : Nat} {x1 : Int32} {x2 : Int32} {s : mS} {q : mS × mHp} (h : g0 k x1 x2 s = some q) : okE q.2 := by
  unfold g0 at h
  obtain ⟨q1, e0, h⟩ := bd_some h
  obtain ⟨q3, e1, h⟩ := bd_some h
  obtain ⟨q5, e2, h⟩ := bd_some h
  rcases ite_some h with ⟨_, h⟩ | ⟨_, h⟩
  · skip
    rcases ite_some h with ⟨_, h⟩ | ⟨_, h⟩
    · skip
      cases h; exact e_o157 e0
    · skip
      rcases ite_some h with ⟨_, h⟩ | ⟨_, h⟩
      · skip
        cases h; exact e_o157 e0
      · skip
        cases h
  · skip
    cases h
theorem e_g1 {k : Nat} {x1 : Int32} {x2 : Int32} {s : mS} {q : mS × mHp} (h : g1 k x1 x2 s = some q) : okE q.2 := by
  unfold g1 at h
  obtain ⟨q1, e0, h⟩ := bd_some h
  obtain ⟨q3, e1, h⟩ := bd_some h
  obtain ⟨q5, e2, h⟩ := bd_some h
  rcases ite_some h with ⟨_, h⟩ | ⟨_, h⟩
  · skip
    rcases ite_some h with ⟨_, h⟩ | ⟨_, h⟩
    · skip
      cases h; exact e_o158 e0
    · skip
      rcases ite_some h with ⟨_, h⟩ | ⟨_, h⟩
      · skip
        rcases ite_some h with ⟨_, h⟩ | ⟨_, h⟩
        · skip
          cases h; exact e_o158 e0
        · skip
          cases h
      · skip
        rcases ite_some h with ⟨_, h⟩ | ⟨_, h⟩
        · skip
          cases h; exact e_o158 e0
        · skip
          cases h
  · skip
    cases h
theorem e_g2 {k : Nat} {x1 : Int32} {x2 : Int32} {s : mS} {q : mS × mHp} (h : g2 k x1 x2 s = some q) : okE q.2 := by
  unfold g2 at h
  obtain ⟨q1, e0, h⟩ := bd_some h
  obtain ⟨q3, e1, h⟩ := bd_some h
  obtain ⟨q5, e2, h⟩ := bd_some h
  rcases ite_some h with ⟨_, h⟩ | ⟨_, h⟩
  · skip
    rcases ite_some h with ⟨_, h⟩ | ⟨_, h⟩
    · skip
      cases h; exact e_o159 e0
    · skip
      rcases ite_some h with ⟨_, h⟩ | ⟨_, h⟩
      · skip
        rcases ite_some h with ⟨_, h⟩ | ⟨_, h⟩
        · skip
          cases h; exact e_o159 e0
        · skip
          cases h
      · skip
        rcases ite_some h with ⟨_, h⟩ | ⟨_, h⟩
        · skip
          cases h; exact e_o159 e0
        · skip
          cases h
  · skip
    cases h
theorem e_g3 {k : Nat} {s : mS} {q : mS × mHp} (h : g3 k s = some q) : okE q.2 := by
  unfold g3 at h
  obtain ⟨q1, e0, h⟩ := bd_some h
  obtain ⟨q3, e1, h⟩ := bd_some h
  rcases ite_some h with ⟨_, h⟩ | ⟨_, h⟩
  · skip
    cases h; exact okE_nil
  · skip
    cases h
theorem e_g4 {k : Nat} {x1 : Int32} {s : mS} {q : mS × mHp} (h : g4 k x1 s = some q) : okE q.2 := by
  unfold g4 at h
  obtain ⟨q1, e0, h⟩ := bd_some h
  obtain ⟨q3, e1, h⟩ := bd_some h
  rcases ite_some h with ⟨_, h⟩ | ⟨_, h⟩
  · skip
    cases h; exact okE_nil
  · skip
    cases h
theorem e_g5 {k : Nat} {x1 : Int32} {x2 : Int32} {s : mS} {q : mS × mHp} (h : g5 k x1 x2 s = some q) : okE q.2 := by
  unfold g5 at h
  obtain ⟨q1, e0, h⟩ := bd_some h
  obtain ⟨q3, e1, h⟩ := bd_some h
  obtain ⟨q5, e2, h⟩ := bd_some h
  rcases ite_some h with ⟨_, h⟩ | ⟨_, h⟩
  · skip
    rcases ite_some h with ⟨_, h⟩ | ⟨_, h⟩
    · skip
      cases h; exact e_o160 e0
    · skip
      rcases ite_some h with ⟨_, h⟩ | ⟨_, h⟩
      · skip
        cases h; exact e_o160 e0
      · skip
        cases h
  · skip
    cases h
theorem e_g6 {k : Nat} {x1 : Int32} {x2 : Int32} {s : mS} {q : mS × mHp} (h : g6 k x1 x2 s = some q) : okE q.2 := by
  unfold g6 at h
  obtain ⟨q1, e0, h⟩ := bd_some h
  obtain ⟨q3, e1, h⟩ := bd_some h
  obtain ⟨q5, e2, h⟩ := bd_some h
  rcases ite_some h with ⟨_, h⟩ | ⟨_, h⟩
  · skip
    rcases ite_some h with ⟨_, h⟩ | ⟨_, h⟩
    · skip
      cases h; exact e_o161 e0
    · skip
      rcases ite_some h with ⟨_, h⟩ | ⟨_, h⟩
      · skip
        cases h; exact e_o161 e0
      · skip
        cases h
  · skip
    cases h
theorem e_g7 {k : Nat} {x1 : Int32} {x2 : Int32} {s : mS} {q : mS × mHp} (h : g7 k x1 x2 s = some q) : okE q.2 := by
  unfold g7 at h
  obtain ⟨q1, e0, h⟩ := bd_some h
  obtain ⟨q3, e1, h⟩ := bd_some h
  obtain ⟨q5, e2, h⟩ := bd_some h
  rcases ite_some h with ⟨_, h⟩ | ⟨_, h⟩
  · skip
    rcases ite_some h with ⟨_, h⟩ | ⟨_, h⟩
    · skip
      cases h; exact e_o162 e0
    · skip
      rcases ite_some h with ⟨_, h⟩ | ⟨_, h⟩
      · skip
        cases h; exact e_o162 e0
      · skip
        cases h
  · skip
    cases h
theorem e_g8 {x1 : Int32} {x2 : Int32} {x3 : Int32} {s : mS} {q : mS × mHp} (h : g8 x1 x2 x3 s = some q) : okE q.2 := by
  unfold g8 at h
  obtain ⟨q1, e0, h⟩ := bd_some h
  obtain ⟨q3, e1, h⟩ := bd_some h
  obtain ⟨q5, e2, h⟩ := bd_some h
  rcases ite_some h with ⟨_, h⟩ | ⟨_, h⟩
  · skip
    rcases ite_some h with ⟨_, h⟩ | ⟨_, h⟩
    · skip
      cases h; exact e_o163 e0
    · skip
      rcases ite_some h with ⟨_, h⟩ | ⟨_, h⟩
      · skip
        cases h; exact e_o163 e0
      · skip
        cases h
  · skip
    cases h
theorem e_g9 {x1 : Int32} {x2 : Int32} {x3 : Int32} {x4 : Int32} {s : mS} {q : mS × mHp} (h : g9 x1 x2 x3 x4 s = some q) : okE q.2 := by
  unfold g9 at h
  obtain ⟨q1, e0, h⟩ := bd_some h
  obtain ⟨q3, e1, h⟩ := bd_some h
  obtain ⟨q5, e2, h⟩ := bd_some h
  rcases ite_some h with ⟨_, h⟩ | ⟨_, h⟩
  · skip
    rcases ite_some h with ⟨_, h⟩ | ⟨_, h⟩
    · skip
      cases h; exact e_o164 e0
    · skip
      rcases ite_some h with ⟨_, h⟩ | ⟨_, h⟩
      · skip
        cases h; exact e_o164 e0
      · skip
        cases h
  · skip
    cases h
theorem e_g10 {k : Nat} {x1 : Int32} {x2 : Int32} {s : mS} {q : mS × mHp} (h : g10 k x1 x2 s = some q) : okE q.2 := by
  unfold g10 at h
  obtain ⟨q1, e0, h⟩ := bd_some h
  obtain ⟨q3, e1, h⟩ := bd_some h
  obtain ⟨q5, e2, h⟩ := bd_some h
  rcases ite_some h with ⟨_, h⟩ | ⟨_, h⟩
  · skip
    rcases ite_some h with ⟨_, h⟩ | ⟨_, h⟩
    · skip
      cases h; exact e_o165 e0
    · skip
      rcases ite_some h with ⟨_, h⟩ | ⟨_, h⟩
      · skip
        cases h; exact e_o165 e0
      · skip
        cases h
  · skip
    cases h
theorem e_g11 {k : Nat} {x1 : Int32} {x2 : Int32} {x3 : Int32} {x4 : Int32} {s : mS} {q : mS × mHp} (h : g11 k x1 x2 x3 x4 s = some q) : okE q.2 := by
  unfold g11 at h
  obtain ⟨q1, e0, h⟩ := bd_some h
  obtain ⟨q3, e1, h⟩ := bd_some h
  obtain ⟨q5, e2, h⟩ := bd_some h
  rcases ite_some h with ⟨_, h⟩ | ⟨_, h⟩
  · skip
    rcases ite_some h with ⟨_, h⟩ | ⟨_, h⟩
    · skip
      cases h; exact e_o166 e0
    · skip
      rcases ite_some h with ⟨_, h⟩ | ⟨_, h⟩
      · skip
        cases h; exact e_o166 e0
      · skip
        cases h
  · skip
    cases h
theorem e_g12 {x1 : Int32} {s : mS} {q : mS × mHp} (h : g12 x1 s = some q) : okE q.2 := by
  unfold g12 at h
  obtain ⟨q1, e0, h⟩ := bd_some h
  obtain ⟨q3, e1, h⟩ := bd_some h
  rcases ite_some h with ⟨_, h⟩ | ⟨_, h⟩
  · skip
    cases h; exact okE_nil
  · skip
    cases h
theorem e_g13 {x1 : Int32} {s : mS} {q : mS × mHp} (h : g13 x1 s = some q) : okE q.2 := by
  unfold g13 at h
  obtain ⟨q1, e0, h⟩ := bd_some h
  obtain ⟨q3, e1, h⟩ := bd_some h
  rcases ite_some h with ⟨_, h⟩ | ⟨_, h⟩
  · skip
    cases h; exact okE_nil
  · skip
    cases h
theorem e_lawG {k : Nat} {x0 x1 x2 x3 x4 : Int32} {s : mS} {q : mS × mHp} (h : lawG k x0 x1 x2 x3 x4 s = some q) : okE q.2 := by
  unfold lawG at h
  rcases ite_some h with ⟨_, h⟩ | ⟨_, h⟩
  · exact e_g0 h
  rcases ite_some h with ⟨_, h⟩ | ⟨_, h⟩
  · exact e_g1 h
  rcases ite_some h with ⟨_, h⟩ | ⟨_, h⟩
  · exact e_g2 h
  rcases ite_some h with ⟨_, h⟩ | ⟨_, h⟩
  · exact e_g3 h
  rcases ite_some h with ⟨_, h⟩ | ⟨_, h⟩
  · exact e_g4 h
  rcases ite_some h with ⟨_, h⟩ | ⟨_, h⟩
  · exact e_g5 h
  rcases ite_some h with ⟨_, h⟩ | ⟨_, h⟩
  · exact e_g6 h
  rcases ite_some h with ⟨_, h⟩ | ⟨_, h⟩
  · exact e_g7 h
  rcases ite_some h with ⟨_, h⟩ | ⟨_, h⟩
  · exact e_g8 h
  rcases ite_some h with ⟨_, h⟩ | ⟨_, h⟩
  · exact e_g9 h
  rcases ite_some h with ⟨_, h⟩ | ⟨_, h⟩
  · exact e_g10 h
  rcases ite_some h with ⟨_, h⟩ | ⟨_, h⟩
  · exact e_g11 h
  rcases ite_some h with ⟨_, h⟩ | ⟨_, h⟩
  · exact e_g12 h
  rcases ite_some h with ⟨_, h⟩ | ⟨_, h⟩
  · exact e_g13 h
  cases h; exact okE_nil
theorem law_end {L n : Nat} (hL : L ≤ 2560) (hn : n ≤ 2565) (h : L < n + 5) : Int32.ofNat L - 5 < nI n := by
  by_cases h5 : 5 ≤ L
  · rw [show Int32.ofNat L - 5 = nI (L - 5) from by
      have h1 : L = (L - 5) + 5 := by omega
      rw [show Int32.ofNat L = nI L from rfl]
      conv => lhs; rw [h1]
      rw [← nI_add, show (5 : Int32) = nI 5 from by decide]
      exact Int32.add_sub_cancel _ _, ← Int32.not_le]
    exact nI_ge (by omega) (by omega)
  · have h1 : Int32.ofNat L - 5 < 0 := (by decide : ∀ L, L < 5 → Int32.ofNat L - 5 < 0) L (by omega)
    have h2 : (0 : Int32) ≤ nI n := by
      have := nI_le (a := 0) (b := n) (by omega) (by omega)
      exact this
    exact Int32.lt_of_lt_of_le h1 h2
theorem law_loop {Inv : mS → Prop} (hstep : ∀ (s : mS) (x0 x1 x2 x3 x4 : Int32), Inv s → ∃ k q, lawG k x0 x1 x2 x3 x4 s = some q ∧ Inv q.1) {L : Nat} {f : Nat → Int32} (hL : L ≤ 2560) : ∀ (m n : Nat) (s : mS) (ex : mHp), L + 5 - n ≤ m → n ≤ L + 4 → Inv s → 5 * ex.length ≤ n → msl ex ≤ 6 * ex.length →
    ∃ s' ex', Run (L, f) 171 (23, [(0, .ref 0), (1, .ref 16), (2, .ref 42), (3, .ref 53), (4, .int (nI n))], [], hp s ex) (.inl (some (.int 1)), hp s' ex') ∧ 5 * ex'.length ≤ L + 4 ∧ msl ex' ≤ 6 * ex'.length := by
  intro m
  induction m with
  | zero => intro n s ex h1 h2; omega
  | succ m ih =>
    intro n s ex h1 h2 hI h3 h4
    by_cases hn : n + 5 ≤ L
    · obtain ⟨k, q, hq, hI'⟩ := hstep s (f n) (f (n + 1)) (f (n + 2)) (f (n + 3)) (f (n + 4)) hI
      have he := e_lawG hq
      obtain ⟨s', ex', hr, a, b⟩ := ih (n + 5) q.1 (ex ++ q.2) (by omega) (by omega) hI' (by rw [List.length_append]; have := he.1; omega) (by
        rw [msl_append, List.length_append]
        by_cases hz : q.2.length = 0
        · have : q.2 = [] := List.eq_nil_of_length_eq_zero hz
          rw [this]
          have e0 : msl [] = 0 := rfl
          rw [e0]
          simp only [List.length_nil]
          omega
        · have h5 := he.1
          have h6 := he.2
          omega)
      exact ⟨s', ex', t_lawG hn hL hq hr, a, b⟩
    · exact ⟨s, ex, law_out (S := (L, f)) (tl := []) (law_end hL (by omega) (by omega)), by omega, h4⟩
theorem law_inv {Inv : mS → Prop} (h0 : Inv s0) (hstep : ∀ (s : mS) (x0 x1 x2 x3 x4 : Int32), Inv s → ∃ k q, lawG k x0 x1 x2 x3 x4 s = some q ∧ Inv q.1) {L : Nat} (f : Nat → Int32) (hL : L ≤ 2560) : ∃ h', Run (L, f) 171 (0, [(0, .ref 0)], [], []) (.inl (some (.int 1)), h') ∧ h'.length ≤ 1068 ∧ msl h' ≤ 17378 := by
  obtain ⟨s', ex', hr, a, b⟩ := law_loop hstep (f := f) hL (L + 5) 0 s0 [] (by omega) (by omega) h0 (by simp) (by simp [msl])
  refine ⟨hp s' ex', law_entry (by rw [HL0_eq]; exact hr), ?_, ?_⟩
  · rw [len_hp]; omega
  · have := msl_hp s' ex'; omega
