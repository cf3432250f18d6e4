/-! the beginning, and every case of the law -/
theorem inv0 : Inv s0 := by
  have noT : ∀ {x y z : Nat}, ¬ Tr (Xc s0) (Yc s0) 0 noE x y z := fun k => k.1
  have e0 : (0 : Int32).toInt = 0 := by decide
  have n0 : nlk noE = 0 := by
    unfold nlk
    have := cnt_le (P := fun z : Nat × Nat => noE z.1 z.2 ∧ z.2 < z.1) (Q := fun _ => False) (prs 40) (fun z _ k => k.1)
    have e : cntP (prs 40) (fun _ => False) = 0 := by
      unfold cntP
      rw [List.length_eq_zero_iff, List.filter_eq_nil_iff]
      intro a _ q
      exact @of_decide_eq_true False (Classical.propDecidable _) q
    omega
  have b0 : ∀ y, bL 0 y = false := fun y => by unfold bL; simp
  have X0 : ∀ j, Xc s0 j = 0 := fun j => e0
  have Y0 : ∀ j, Yc s0 j = 0 := fun j => e0
  have hc : CX s0 0 noE := by
    refine ⟨fun j hj => ?_, rfl, by omega, fun i j hi => by omega, ⟨fun a b k => k.elim, fun a b k => k.elim, fun a b c d k => k.elim, fun a b ha => by omega⟩, fun x y hx hy => ⟨fun z k => absurd k noT, fun _ => ?_⟩⟩
    · rw [X0, Y0]; decide
    · show mfill 1600 (-1) (fun _ => 0) (40 * x + y) = -1
      unfold mfill
      rw [if_pos (by omega)]
  have hs : SU s0 [] := by
    refine ⟨rfl, trivial, List.nodup_nil, fun c hc => absurd hc List.not_mem_nil, fun x y hx hy => ?_⟩
    show bL 0 y = true ↔ _
    rw [b0]
    exact ⟨fun k => (by cases k), fun k => absurd k.2 List.not_mem_nil⟩
  have hn : NM s0 0 noE := ⟨[], ⟨List.Pairwise.nil, fun c => ⟨fun k => absurd k List.not_mem_nil, fun ⟨_, w, k, _⟩ => absurd k noT⟩⟩, rfl, fun i c z k => by simp at k⟩
  have hl : LKc s0 noE := by
    refine ⟨fun x y k => k.elim, fun x y hx hy => ?_⟩
    show bL 0 y = true ↔ _
    rw [b0]
    exact ⟨fun k => (by cases k), fun k => False.elim k⟩
  refine ⟨⟨0, noE, noE, ⟨⟨hc, hs, hn, hl, fun x y k => k.elim, fun x y _ z w k => absurd k noT⟩, ?_⟩, fun j hj => ?_, rfl, fun x y hx hy => ⟨fun k => k.elim, fun _ => rfl⟩, Or.inl rfl⟩, 0, 0, by omega, by omega, rfl, rfl, fun i hi => absurd hi (Nat.not_lt_zero _), rfl, rfl, fun i hi => absurd hi (Nat.not_lt_zero _)⟩
  · rw [n0]; rfl
  · show (0 : Int64) = (0 : Int32).toInt64 ∧ (0 : Int64) = (0 : Int32).toInt64
    decide
theorem law_step (s : mS) (x0 x1 x2 x3 x4 : Int32) (h : Inv s) : ∃ k q, lawG k x0 x1 x2 x3 x4 s = some q ∧ Inv q.1 := by
  unfold lawG
  by_cases c0 : x0 &&& 15 = 0
  · simp only [if_pos c0]; exact step0 h x1 x2
  simp only [if_neg c0]
  by_cases c1 : x0 &&& 15 = 1
  · simp only [if_pos c1]; exact step1 h x1 x2
  simp only [if_neg c1]
  by_cases c2 : x0 &&& 15 = 2
  · simp only [if_pos c2]; exact step2 h x1 x2
  simp only [if_neg c2]
  by_cases c3 : x0 &&& 15 = 3
  · simp only [if_pos c3]; exact step3 h
  simp only [if_neg c3]
  by_cases c4 : x0 &&& 15 = 4
  · simp only [if_pos c4]; exact step4 h x1
  simp only [if_neg c4]
  by_cases c5 : x0 &&& 15 = 5
  · simp only [if_pos c5]; exact step5 h x1 x2
  simp only [if_neg c5]
  by_cases c6 : x0 &&& 15 = 6
  · simp only [if_pos c6]; exact step6 h x1 x2
  simp only [if_neg c6]
  by_cases c7 : x0 &&& 15 = 7
  · simp only [if_pos c7]; exact step7 h x1 x2
  simp only [if_neg c7]
  by_cases c8 : x0 &&& 15 = 8
  · simp only [if_pos c8]; exact ⟨0, step8 h x1 x2 x3⟩
  simp only [if_neg c8]
  by_cases c9 : x0 &&& 15 = 9
  · simp only [if_pos c9]; exact ⟨0, step9 h x1 x2 x3 x4⟩
  simp only [if_neg c9]
  by_cases c10 : x0 &&& 15 = 10
  · simp only [if_pos c10]; exact step10 h x1 x2
  simp only [if_neg c10]
  by_cases c11 : x0 &&& 15 = 11
  · simp only [if_pos c11]; exact step11 h x1 x2 x3 x4
  simp only [if_neg c11]
  by_cases c12 : x0 &&& 15 = 12
  · simp only [if_pos c12]; exact ⟨0, step12 h x1⟩
  simp only [if_neg c12]
  by_cases c13 : x0 &&& 15 = 13
  · simp only [if_pos c13]; exact ⟨0, step13 h x1⟩
  simp only [if_neg c13]
  exact ⟨0, (s, []), rfl, h⟩
theorem law_all {L : Nat} (f : Nat → Int32) (hL : L ≤ 2560) : ∃ h', Run (L, f) 171 (0, [(0, .ref 0)], [], []) (.inl (some (.int 1)), h') ∧ h'.length ≤ 1068 ∧ msl h' ≤ 17378 := law_inv inv0 law_step f hL
