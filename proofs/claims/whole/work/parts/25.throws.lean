/-! the methods that throw: .inr c: an exception of the class c of mcl; nothing was written then -/
def bx {α β : Type} (x : Option (α ⊕ Nat)) (k : α → Option (β ⊕ Nat)) : Option (β ⊕ Nat) := x.bind fun q => match q with
  | .inl a => k a
  | .inr c => some (.inr c)
theorem bx_some {α β : Type} {x : Option (α ⊕ Nat)} {k : α → Option (β ⊕ Nat)} {r : β ⊕ Nat} (h : bx x k = some r) : (∃ a, x = some (.inl a) ∧ k a = some r) ∨ (∃ c, x = some (.inr c) ∧ some (.inr c) = some r) := by
  cases x with
  | none => cases h
  | some q =>
    cases q with
    | inl a => exact Or.inl ⟨a, rfl, h⟩
    | inr c => exact Or.inr ⟨c, rfl, h⟩
theorem QT {M pc : Nat} {ls : mL} {st : List Value} {s : mS} {ex : mHp} {idx is ic ci : Nat} (q : Nat) (d0 : decode (mCode M) pc = .ok (.new idx, 3)) (d3 : decode (mCode M) (pc + 3) = .ok (.dup, 1)) (d4 : decode (mCode M) (pc + 4) = .ok (.ldc is, 2)) (d6 : decode (mCode M) (pc + 6) = .ok (.invokespecial ic, 3)) (d9 : decode (mCode M) (pc + 9) = .ok (.athrow, 1)) (ho : mOwn M = 8) (hf : (idx, is, ic, ci, q) ∈ mThrT) (hhd : mHand M = []) (hfr : 6 ≤ mFr M) (hlo : mcats st + 82 ≤ mLo M) : RunsP M (pc, ls, st, hp s ex) (.inr (ex.length + 54), hp s (ex ++ [.inr (ci, [])])) := Q_thr q d0 d3 d4 d6 d9 ho hf hhd hfr hlo
theorem hgx (s : mS) (ex : mHp) (c : Nat) : mget (hp s (ex ++ [.inr (c, [])])) (ex.length + 54) = some (.inr (c, [])) := by
  have h : (hp s (ex ++ [.inr (c, [])])) = hp s ex ++ [.inr (c, [])] := rfl
  unfold mget
  rw [if_neg (by omega), h, List.getElem?_append_right (by show (hp s ex).length ≤ _; simp only [hp, List.length_cons]; omega)]
  have e : ex.length + 54 - 16 - (hp s ex).length = 0 := by simp only [hp, List.length_cons]; omega
  rw [e]; rfl
theorem tq_f66 {ex : mHp}  {s : mS} {r : Int32} (h : f66 s = some r) : RunsP 66 (0, [(0, .ref 17)], [], hp s ex) (.inl (some (.int r)), hp s ex) := by
  unfold f66 at h
  refine Q_p d66_0 rfl rfl ?_
  refine Q_get d66_1 (Or.inl (List.mem_of_getElem? (i := 6) rfl)) (hg17 _ _) rfl ?_
  cases h
  exact Q_iret d66_4 rfl rfl
theorem tq_f46 {ex : mHp}  {s : mS} {r : Int32} (h : f46 s = some r) : RunsP 46 (0, [(0, .ref 23)], [], hp s ex) (.inl (some (.int r)), hp s ex) := by
  unfold f46 at h
  refine Q_p d46_0 rfl rfl ?_
  refine Q_get d46_1 (Or.inl (List.mem_of_getElem? (i := 15) rfl)) (hg23 _ _) rfl ?_
  cases h
  exact Q_iret d46_4 rfl rfl
theorem tq_f71 {ex : mHp} {v1 : Int32} {v2 : Int32} {v3 : Int32} {s : mS} {r : Int64} (h : f71 v1 v2 v3 s = some r) : RunsP 71 (0, [(0, .ref 17), (1, .int v1), (2, .int v2), (3, .int v3)], [], hp s ex) (.inl (some (.long r)), hp s ex) := by
  unfold f71 at h
  refine Q_p d71_0 rfl rfl ?_
  refine Q_get d71_1 (Or.inl (List.mem_of_getElem? (i := 3) rfl)) (hg17 _ _) rfl ?_
  refine Q_p d71_4 rfl rfl ?_
  obtain ⟨c1, h⟩ := rdI_some h
  refine Q_ild d71_5 (hg18 _ _) c1 ?_
  refine Q_p d71_6 rfl rfl ?_
  refine Q_get d71_7 (Or.inl (List.mem_of_getElem? (i := 3) rfl)) (hg17 _ _) rfl ?_
  refine Q_p d71_10 rfl rfl ?_
  obtain ⟨c2, h⟩ := rdI_some h
  refine Q_ild d71_11 (hg18 _ _) c2 ?_
  refine Q_p d71_12 rfl rfl ?_
  refine Q_p d71_13 rfl rfl ?_
  refine Q_p (ls' := [(0, .ref 17), (1, .int v1), (2, .int v2), (3, .int v3), (4, .long (Int32.toInt64 ((s.1 18 (Int32.toNatClampNeg v2)) - (s.1 18 (Int32.toNatClampNeg v1)))))]) d71_14 rfl rfl ?_
  refine Q_p d71_16 rfl rfl ?_
  refine Q_get d71_17 (Or.inl (List.mem_of_getElem? (i := 4) rfl)) (hg17 _ _) rfl ?_
  refine Q_p d71_20 rfl rfl ?_
  obtain ⟨c3, h⟩ := rdI_some h
  refine Q_ild d71_21 (hg19 _ _) c3 ?_
  refine Q_p d71_22 rfl rfl ?_
  refine Q_get d71_23 (Or.inl (List.mem_of_getElem? (i := 4) rfl)) (hg17 _ _) rfl ?_
  refine Q_p d71_26 rfl rfl ?_
  obtain ⟨c4, h⟩ := rdI_some h
  refine Q_ild d71_27 (hg19 _ _) c4 ?_
  refine Q_p d71_28 rfl rfl ?_
  refine Q_p d71_29 rfl rfl ?_
  refine Q_p (ls' := [(0, .ref 17), (1, .int v1), (2, .int v2), (3, .int v3), (4, .long (Int32.toInt64 ((s.1 18 (Int32.toNatClampNeg v2)) - (s.1 18 (Int32.toNatClampNeg v1))))), (6, .long (Int32.toInt64 ((s.1 19 (Int32.toNatClampNeg v2)) - (s.1 19 (Int32.toNatClampNeg v1)))))]) d71_30 rfl rfl ?_
  refine Q_p d71_32 rfl rfl ?_
  refine Q_get d71_33 (Or.inl (List.mem_of_getElem? (i := 3) rfl)) (hg17 _ _) rfl ?_
  refine Q_p d71_36 rfl rfl ?_
  obtain ⟨c5, h⟩ := rdI_some h
  refine Q_ild d71_37 (hg18 _ _) c5 ?_
  refine Q_p d71_38 rfl rfl ?_
  refine Q_get d71_39 (Or.inl (List.mem_of_getElem? (i := 3) rfl)) (hg17 _ _) rfl ?_
  refine Q_p d71_42 rfl rfl ?_
  obtain ⟨c6, h⟩ := rdI_some h
  refine Q_ild d71_43 (hg18 _ _) c6 ?_
  refine Q_p d71_44 rfl rfl ?_
  refine Q_p d71_45 rfl rfl ?_
  refine Q_p (ls' := [(0, .ref 17), (1, .int v1), (2, .int v2), (3, .int v3), (4, .long (Int32.toInt64 ((s.1 18 (Int32.toNatClampNeg v2)) - (s.1 18 (Int32.toNatClampNeg v1))))), (6, .long (Int32.toInt64 ((s.1 19 (Int32.toNatClampNeg v2)) - (s.1 19 (Int32.toNatClampNeg v1))))), (8, .long (Int32.toInt64 ((s.1 18 (Int32.toNatClampNeg v3)) - (s.1 18 (Int32.toNatClampNeg v1)))))]) d71_46 rfl rfl ?_
  refine Q_p d71_48 rfl rfl ?_
  refine Q_get d71_49 (Or.inl (List.mem_of_getElem? (i := 4) rfl)) (hg17 _ _) rfl ?_
  refine Q_p d71_52 rfl rfl ?_
  obtain ⟨c7, h⟩ := rdI_some h
  refine Q_ild d71_53 (hg19 _ _) c7 ?_
  refine Q_p d71_54 rfl rfl ?_
  refine Q_get d71_55 (Or.inl (List.mem_of_getElem? (i := 4) rfl)) (hg17 _ _) rfl ?_
  refine Q_p d71_58 rfl rfl ?_
  obtain ⟨c8, h⟩ := rdI_some h
  refine Q_ild d71_59 (hg19 _ _) c8 ?_
  refine Q_p d71_60 rfl rfl ?_
  refine Q_p d71_61 rfl rfl ?_
  refine Q_p (ls' := [(0, .ref 17), (1, .int v1), (2, .int v2), (3, .int v3), (4, .long (Int32.toInt64 ((s.1 18 (Int32.toNatClampNeg v2)) - (s.1 18 (Int32.toNatClampNeg v1))))), (6, .long (Int32.toInt64 ((s.1 19 (Int32.toNatClampNeg v2)) - (s.1 19 (Int32.toNatClampNeg v1))))), (8, .long (Int32.toInt64 ((s.1 18 (Int32.toNatClampNeg v3)) - (s.1 18 (Int32.toNatClampNeg v1))))), (10, .long (Int32.toInt64 ((s.1 19 (Int32.toNatClampNeg v3)) - (s.1 19 (Int32.toNatClampNeg v1)))))]) d71_62 rfl rfl ?_
  refine Q_p d71_64 rfl rfl ?_
  refine Q_p d71_66 rfl rfl ?_
  refine Q_p d71_68 rfl rfl ?_
  refine Q_p d71_69 rfl rfl ?_
  refine Q_p d71_71 rfl rfl ?_
  refine Q_p d71_73 rfl rfl ?_
  refine Q_p d71_74 rfl rfl ?_
  cases h
  exact Q_lret d71_75 rfl
theorem tq_f98 {ex : mHp} {v0 : Int64} {s : mS} {r : Int32} (h : f98 v0 s = some r) : RunsP 98 (0, [(0, .long v0)], [], hp s ex) (.inl (some (.int r)), hp s ex) := by
  unfold f98 at h
  refine Q_p d98_0 rfl rfl ?_
  refine Q_lc (v := 0) d98_1 (by decide) ?_
  refine Q_p d98_2 rfl rfl ?_
  rcases ite_some h with ⟨c1, h⟩ | ⟨c1, h⟩
  · refine Q_br 10 d98_3 (mb_t (b := ((lg_cmp v0 0) ≤ (0 : Int32))) (lgc_le.mpr c1)) rfl ?_
    refine Q_p d98_10 rfl rfl ?_
    refine Q_lc (v := 0) d98_11 (by decide) ?_
    refine Q_p d98_12 rfl rfl ?_
    rcases ite_some h with ⟨c2, h⟩ | ⟨c2, h⟩
    · refine Q_br 20 d98_13 (mb_t (b := ((0 : Int32) ≤ (lg_cmp v0 0))) (lgc_ge.mpr c2)) rfl ?_
      refine Q_ic (v := 0) d98_20 (by decide) ?_
      cases h
      exact Q_iret d98_21 rfl rfl
    · refine Q_nb d98_13 rfl (mb_f (b := ((0 : Int32) ≤ (lg_cmp v0 0))) (fun q => c2 (lgc_ge.mp q))) ?_
      refine Q_ic (v := (-1)) d98_16 (by decide) ?_
      refine Q_br 21 d98_17 rfl rfl ?_
      cases h
      exact Q_iret d98_21 rfl rfl
  · refine Q_nb d98_3 rfl (mb_f (b := ((lg_cmp v0 0) ≤ (0 : Int32))) (fun q => c1 (lgc_le.mp q))) ?_
    refine Q_ic (v := 1) d98_6 (by decide) ?_
    refine Q_br 21 d98_7 rfl rfl ?_
    cases h
    exact Q_iret d98_21 rfl rfl
theorem tq_f73 {ex : mHp} {v1 : Int32} {v2 : Int32} {v3 : Int32} {s : mS} {r : Int32} (h : f73 v1 v2 v3 s = some r) : RunsP 73 (0, [(0, .ref 17), (1, .int v1), (2, .int v2), (3, .int v3)], [], hp s ex) (.inl (some (.int r)), hp s ex) := by
  unfold f73 at h
  refine Q_p d73_0 rfl rfl ?_
  refine Q_p d73_1 rfl rfl ?_
  refine Q_p d73_2 rfl rfl ?_
  refine Q_p d73_3 rfl rfl ?_
  obtain ⟨q1, e2, h⟩ := bd_some h
  refine Q_cm [.int v1, .int v2, .int v3] d73_4 (List.mem_of_getElem? (i := 37) rfl) rfl ⟨by decide, by decide, Nat.le_of_ble_eq_true rfl, rfl, mcd71⟩ rfl rfl (Nat.le_of_ble_eq_true rfl) (hg17 _ _) rfl (tq_f71 e2) ?_
  obtain ⟨q3, e4, h⟩ := bd_some h
  refine Q_cs [.long q1] d73_7 (List.mem_of_getElem? (i := 45) rfl) rfl ⟨by decide, by decide, Nat.le_of_ble_eq_true rfl, rfl, mcd98⟩ rfl rfl (Nat.le_of_ble_eq_true rfl) (tq_f98 e4) ?_
  cases h
  exact Q_iret d73_10 rfl rfl
theorem d96_0 : decode (mCode 96) 0 = .ok (.aload_n 0, 1) := by decide +kernel
theorem d96_1 : decode (mCode 96) 1 = .ok (.iload_n 1, 1) := by decide +kernel
theorem d96_2 : decode (mCode 96) 2 = .ok (.iload_n 2, 1) := by decide +kernel
theorem d96_3 : decode (mCode 96) 3 = .ok (.invokevirtual 50, 3) := by decide +kernel
theorem d96_6 : decode (mCode 96) 6 = .ok (.aload_n 0, 1) := by decide +kernel
theorem d96_7 : decode (mCode 96) 7 = .ok (.getfield 22, 3) := by decide +kernel
theorem d96_10 : decode (mCode 96) 10 = .ok (.invokevirtual 54, 3) := by decide +kernel
theorem d96_13 : decode (mCode 96) 13 = .ok (.istore_n 3, 1) := by decide +kernel
theorem d96_14 : decode (mCode 96) 14 = .ok (.iload_n 3, 1) := by decide +kernel
theorem d96_15 : decode (mCode 96) 15 = .ok (.bipush 40, 2) := by decide +kernel
theorem d96_17 : decode (mCode 96) 17 = .ok (.if_icmp .ne 13, 3) := by decide +kernel
theorem d96_20 : decode (mCode 96) 20 = .ok (.new 58, 3) := by decide +kernel
theorem d96_23 : decode (mCode 96) 23 = .ok (.dup, 1) := by decide +kernel
theorem d96_24 : decode (mCode 96) 24 = .ok (.ldc 60, 2) := by decide +kernel
theorem d96_26 : decode (mCode 96) 26 = .ok (.invokespecial 62, 3) := by decide +kernel
theorem d96_29 : decode (mCode 96) 29 = .ok (.athrow, 1) := by decide +kernel
theorem d96_30 : decode (mCode 96) 30 = .ok (.aload_n 0, 1) := by decide +kernel
theorem d96_31 : decode (mCode 96) 31 = .ok (.getfield 22, 3) := by decide +kernel
theorem d96_34 : decode (mCode 96) 34 = .ok (.iload_n 3, 1) := by decide +kernel
theorem d96_35 : decode (mCode 96) 35 = .ok (.iload_n 1, 1) := by decide +kernel
theorem d96_36 : decode (mCode 96) 36 = .ok (.iload_n 2, 1) := by decide +kernel
theorem d96_37 : decode (mCode 96) 37 = .ok (.invokevirtual 65, 3) := by decide +kernel
theorem d96_40 : decode (mCode 96) 40 = .ok (.aload_n 0, 1) := by decide +kernel
theorem d96_41 : decode (mCode 96) 41 = .ok (.getfield 22, 3) := by decide +kernel
theorem d96_44 : decode (mCode 96) 44 = .ok (.iload_n 3, 1) := by decide +kernel
theorem d96_45 : decode (mCode 96) 45 = .ok (.invokevirtual 69, 3) := by decide +kernel
theorem d96_48 : decode (mCode 96) 48 = .ok (.iconst (-1), 1) := by decide +kernel
theorem d96_49 : decode (mCode 96) 49 = .ok (.if_icmp .ne 14, 3) := by decide +kernel
theorem d96_52 : decode (mCode 96) 52 = .ok (.aload_n 0, 1) := by decide +kernel
theorem d96_53 : decode (mCode 96) 53 = .ok (.getfield 26, 3) := by decide +kernel
theorem d96_56 : decode (mCode 96) 56 = .ok (.iload_n 3, 1) := by decide +kernel
theorem d96_57 : decode (mCode 96) 57 = .ok (.invokevirtual 73, 3) := by decide +kernel
theorem d96_60 : decode (mCode 96) 60 = .ok (.ifCond .eq 5, 3) := by decide +kernel
theorem d96_63 : decode (mCode 96) 63 = .ok (.iconst (-1), 1) := by decide +kernel
theorem d96_64 : decode (mCode 96) 64 = .ok (.ireturn, 1) := by decide +kernel
theorem d96_65 : decode (mCode 96) 65 = .ok (.aload_n 0, 1) := by decide +kernel
theorem d96_66 : decode (mCode 96) 66 = .ok (.getfield 22, 3) := by decide +kernel
theorem d96_69 : decode (mCode 96) 69 = .ok (.invokevirtual 77, 3) := by decide +kernel
theorem d96_72 : decode (mCode 96) 72 = .ok (.aload_n 0, 1) := by decide +kernel
theorem d96_73 : decode (mCode 96) 73 = .ok (.getfield 39, 3) := by decide +kernel
theorem d96_76 : decode (mCode 96) 76 = .ok (.iload_n 3, 1) := by decide +kernel
theorem d96_77 : decode (mCode 96) 77 = .ok (.invokevirtual 80, 3) := by decide +kernel
theorem d96_80 : decode (mCode 96) 80 = .ok (.iload_n 3, 1) := by decide +kernel
theorem d96_81 : decode (mCode 96) 81 = .ok (.ireturn, 1) := by decide +kernel
theorem d97_0 : decode (mCode 97) 0 = .ok (.iload_n 1, 1) := by decide +kernel
theorem d97_1 : decode (mCode 97) 1 = .ok (.ldc 166, 2) := by decide +kernel
theorem d97_3 : decode (mCode 97) 3 = .ok (.if_icmp .lt 21, 3) := by decide +kernel
theorem d97_6 : decode (mCode 97) 6 = .ok (.iload_n 1, 1) := by decide +kernel
theorem d97_7 : decode (mCode 97) 7 = .ok (.ldc 167, 2) := by decide +kernel
theorem d97_9 : decode (mCode 97) 9 = .ok (.if_icmp .gt 15, 3) := by decide +kernel
theorem d97_12 : decode (mCode 97) 12 = .ok (.iload_n 2, 1) := by decide +kernel
theorem d97_13 : decode (mCode 97) 13 = .ok (.ldc 166, 2) := by decide +kernel
theorem d97_15 : decode (mCode 97) 15 = .ok (.if_icmp .lt 9, 3) := by decide +kernel
theorem d97_18 : decode (mCode 97) 18 = .ok (.iload_n 2, 1) := by decide +kernel
theorem d97_19 : decode (mCode 97) 19 = .ok (.ldc 167, 2) := by decide +kernel
theorem d97_21 : decode (mCode 97) 21 = .ok (.if_icmp .le 13, 3) := by decide +kernel
theorem d97_24 : decode (mCode 97) 24 = .ok (.new 142, 3) := by decide +kernel
theorem d97_27 : decode (mCode 97) 27 = .ok (.dup, 1) := by decide +kernel
theorem d97_28 : decode (mCode 97) 28 = .ok (.ldc 168, 2) := by decide +kernel
theorem d97_30 : decode (mCode 97) 30 = .ok (.invokespecial 146, 3) := by decide +kernel
theorem d97_33 : decode (mCode 97) 33 = .ok (.athrow, 1) := by decide +kernel
theorem d97_34 : decode (mCode 97) 34 = .ok (.return_, 1) := by decide +kernel
theorem d100_0 : decode (mCode 100) 0 = .ok (.aload_n 0, 1) := by decide +kernel
theorem d100_1 : decode (mCode 100) 1 = .ok (.iload_n 1, 1) := by decide +kernel
theorem d100_2 : decode (mCode 100) 2 = .ok (.iload_n 2, 1) := by decide +kernel
theorem d100_3 : decode (mCode 100) 3 = .ok (.invokevirtual 84, 3) := by decide +kernel
theorem d100_6 : decode (mCode 100) 6 = .ok (.aload_n 0, 1) := by decide +kernel
theorem d100_7 : decode (mCode 100) 7 = .ok (.getfield 26, 3) := by decide +kernel
theorem d100_10 : decode (mCode 100) 10 = .ok (.iload_n 1, 1) := by decide +kernel
theorem d100_11 : decode (mCode 100) 11 = .ok (.iload_n 2, 1) := by decide +kernel
theorem d100_12 : decode (mCode 100) 12 = .ok (.invokevirtual 87, 3) := by decide +kernel
theorem d100_15 : decode (mCode 100) 15 = .ok (.ifCond .eq 5, 3) := by decide +kernel
theorem d100_18 : decode (mCode 100) 18 = .ok (.iconst 1, 1) := by decide +kernel
theorem d100_19 : decode (mCode 100) 19 = .ok (.ireturn, 1) := by decide +kernel
theorem d100_20 : decode (mCode 100) 20 = .ok (.aload_n 0, 1) := by decide +kernel
theorem d100_21 : decode (mCode 100) 21 = .ok (.getfield 22, 3) := by decide +kernel
theorem d100_24 : decode (mCode 100) 24 = .ok (.iload_n 1, 1) := by decide +kernel
theorem d100_25 : decode (mCode 100) 25 = .ok (.iload_n 2, 1) := by decide +kernel
theorem d100_26 : decode (mCode 100) 26 = .ok (.invokevirtual 91, 3) := by decide +kernel
theorem d100_29 : decode (mCode 100) 29 = .ok (.ifCond .ne 15, 3) := by decide +kernel
theorem d100_32 : decode (mCode 100) 32 = .ok (.aload_n 0, 1) := by decide +kernel
theorem d100_33 : decode (mCode 100) 33 = .ok (.getfield 26, 3) := by decide +kernel
theorem d100_36 : decode (mCode 100) 36 = .ok (.iload_n 1, 1) := by decide +kernel
theorem d100_37 : decode (mCode 100) 37 = .ok (.iload_n 2, 1) := by decide +kernel
theorem d100_38 : decode (mCode 100) 38 = .ok (.invokevirtual 94, 3) := by decide +kernel
theorem d100_41 : decode (mCode 100) 41 = .ok (.ifCond .eq 5, 3) := by decide +kernel
theorem d100_44 : decode (mCode 100) 44 = .ok (.iconst 0, 1) := by decide +kernel
theorem d100_45 : decode (mCode 100) 45 = .ok (.ireturn, 1) := by decide +kernel
theorem d100_46 : decode (mCode 100) 46 = .ok (.aload_n 0, 1) := by decide +kernel
theorem d100_47 : decode (mCode 100) 47 = .ok (.getfield 26, 3) := by decide +kernel
theorem d100_50 : decode (mCode 100) 50 = .ok (.iload_n 1, 1) := by decide +kernel
theorem d100_51 : decode (mCode 100) 51 = .ok (.iload_n 2, 1) := by decide +kernel
theorem d100_52 : decode (mCode 100) 52 = .ok (.invokevirtual 97, 3) := by decide +kernel
theorem d100_55 : decode (mCode 100) 55 = .ok (.aload_n 0, 1) := by decide +kernel
theorem d100_56 : decode (mCode 100) 56 = .ok (.getfield 39, 3) := by decide +kernel
theorem d100_59 : decode (mCode 100) 59 = .ok (.iload_n 1, 1) := by decide +kernel
theorem d100_60 : decode (mCode 100) 60 = .ok (.iload_n 2, 1) := by decide +kernel
theorem d100_61 : decode (mCode 100) 61 = .ok (.invokevirtual 100, 3) := by decide +kernel
theorem d100_64 : decode (mCode 100) 64 = .ok (.iconst 1, 1) := by decide +kernel
theorem d100_65 : decode (mCode 100) 65 = .ok (.ireturn, 1) := by decide +kernel
theorem d101_0 : decode (mCode 101) 0 = .ok (.aload_n 0, 1) := by decide +kernel
theorem d101_1 : decode (mCode 101) 1 = .ok (.iload_n 1, 1) := by decide +kernel
theorem d101_2 : decode (mCode 101) 2 = .ok (.invokevirtual 135, 3) := by decide +kernel
theorem d101_5 : decode (mCode 101) 5 = .ok (.aload_n 0, 1) := by decide +kernel
theorem d101_6 : decode (mCode 101) 6 = .ok (.iload_n 2, 1) := by decide +kernel
theorem d101_7 : decode (mCode 101) 7 = .ok (.invokevirtual 135, 3) := by decide +kernel
theorem d101_10 : decode (mCode 101) 10 = .ok (.iload_n 1, 1) := by decide +kernel
theorem d101_11 : decode (mCode 101) 11 = .ok (.iload_n 2, 1) := by decide +kernel
theorem d101_12 : decode (mCode 101) 12 = .ok (.if_icmp .ne 13, 3) := by decide +kernel
theorem d101_15 : decode (mCode 101) 15 = .ok (.new 142, 3) := by decide +kernel
theorem d101_18 : decode (mCode 101) 18 = .ok (.dup, 1) := by decide +kernel
theorem d101_19 : decode (mCode 101) 19 = .ok (.ldc 172, 2) := by decide +kernel
theorem d101_21 : decode (mCode 101) 21 = .ok (.invokespecial 146, 3) := by decide +kernel
theorem d101_24 : decode (mCode 101) 24 = .ok (.athrow, 1) := by decide +kernel
theorem d101_25 : decode (mCode 101) 25 = .ok (.return_, 1) := by decide +kernel
theorem d102_0 : decode (mCode 102) 0 = .ok (.iload_n 1, 1) := by decide +kernel
theorem d102_1 : decode (mCode 102) 1 = .ok (.ifCond .lt 14, 3) := by decide +kernel
theorem d102_4 : decode (mCode 102) 4 = .ok (.iload_n 1, 1) := by decide +kernel
theorem d102_5 : decode (mCode 102) 5 = .ok (.aload_n 0, 1) := by decide +kernel
theorem d102_6 : decode (mCode 102) 6 = .ok (.getfield 22, 3) := by decide +kernel
theorem d102_9 : decode (mCode 102) 9 = .ok (.invokevirtual 54, 3) := by decide +kernel
theorem d102_12 : decode (mCode 102) 12 = .ok (.if_icmp .lt 13, 3) := by decide +kernel
theorem d102_15 : decode (mCode 102) 15 = .ok (.new 142, 3) := by decide +kernel
theorem d102_18 : decode (mCode 102) 18 = .ok (.dup, 1) := by decide +kernel
theorem d102_19 : decode (mCode 102) 19 = .ok (.ldc 170, 2) := by decide +kernel
theorem d102_21 : decode (mCode 102) 21 = .ok (.invokespecial 146, 3) := by decide +kernel
theorem d102_24 : decode (mCode 102) 24 = .ok (.athrow, 1) := by decide +kernel
theorem d102_25 : decode (mCode 102) 25 = .ok (.return_, 1) := by decide +kernel
theorem d103_0 : decode (mCode 103) 0 = .ok (.aload_n 0, 1) := by decide +kernel
theorem d103_1 : decode (mCode 103) 1 = .ok (.iload_n 1, 1) := by decide +kernel
theorem d103_2 : decode (mCode 103) 2 = .ok (.iload_n 2, 1) := by decide +kernel
theorem d103_3 : decode (mCode 103) 3 = .ok (.invokevirtual 84, 3) := by decide +kernel
theorem d103_6 : decode (mCode 103) 6 = .ok (.aload_n 0, 1) := by decide +kernel
theorem d103_7 : decode (mCode 103) 7 = .ok (.getfield 26, 3) := by decide +kernel
theorem d103_10 : decode (mCode 103) 10 = .ok (.iload_n 1, 1) := by decide +kernel
theorem d103_11 : decode (mCode 103) 11 = .ok (.iload_n 2, 1) := by decide +kernel
theorem d103_12 : decode (mCode 103) 12 = .ok (.invokevirtual 87, 3) := by decide +kernel
theorem d103_15 : decode (mCode 103) 15 = .ok (.ifCond .ne 5, 3) := by decide +kernel
theorem d103_18 : decode (mCode 103) 18 = .ok (.iconst 0, 1) := by decide +kernel
theorem d103_19 : decode (mCode 103) 19 = .ok (.ireturn, 1) := by decide +kernel
theorem d103_20 : decode (mCode 103) 20 = .ok (.aload_n 0, 1) := by decide +kernel
theorem d103_21 : decode (mCode 103) 21 = .ok (.getfield 26, 3) := by decide +kernel
theorem d103_24 : decode (mCode 103) 24 = .ok (.iload_n 1, 1) := by decide +kernel
theorem d103_25 : decode (mCode 103) 25 = .ok (.iload_n 2, 1) := by decide +kernel
theorem d103_26 : decode (mCode 103) 26 = .ok (.invokevirtual 103, 3) := by decide +kernel
theorem d103_29 : decode (mCode 103) 29 = .ok (.aload_n 0, 1) := by decide +kernel
theorem d103_30 : decode (mCode 103) 30 = .ok (.getfield 39, 3) := by decide +kernel
theorem d103_33 : decode (mCode 103) 33 = .ok (.iload_n 1, 1) := by decide +kernel
theorem d103_34 : decode (mCode 103) 34 = .ok (.iload_n 2, 1) := by decide +kernel
theorem d103_35 : decode (mCode 103) 35 = .ok (.invokevirtual 106, 3) := by decide +kernel
theorem d103_38 : decode (mCode 103) 38 = .ok (.iconst 1, 1) := by decide +kernel
theorem d103_39 : decode (mCode 103) 39 = .ok (.ireturn, 1) := by decide +kernel
theorem d104_0 : decode (mCode 104) 0 = .ok (.aload_n 0, 1) := by decide +kernel
theorem d104_1 : decode (mCode 104) 1 = .ok (.iload_n 1, 1) := by decide +kernel
theorem d104_2 : decode (mCode 104) 2 = .ok (.iload_n 2, 1) := by decide +kernel
theorem d104_3 : decode (mCode 104) 3 = .ok (.invokevirtual 122, 3) := by decide +kernel
theorem d104_6 : decode (mCode 104) 6 = .ok (.aload_n 0, 1) := by decide +kernel
theorem d104_7 : decode (mCode 104) 7 = .ok (.getfield 30, 3) := by decide +kernel
theorem d104_10 : decode (mCode 104) 10 = .ok (.iload_n 1, 1) := by decide +kernel
theorem d104_11 : decode (mCode 104) 11 = .ok (.iload_n 2, 1) := by decide +kernel
theorem d104_12 : decode (mCode 104) 12 = .ok (.invokevirtual 125, 3) := by decide +kernel
theorem d104_15 : decode (mCode 104) 15 = .ok (.ireturn, 1) := by decide +kernel
theorem d105_0 : decode (mCode 105) 0 = .ok (.iload_n 1, 1) := by decide +kernel
theorem d105_1 : decode (mCode 105) 1 = .ok (.ifCond .lt 23, 3) := by decide +kernel
theorem d105_4 : decode (mCode 105) 4 = .ok (.iload_n 1, 1) := by decide +kernel
theorem d105_5 : decode (mCode 105) 5 = .ok (.aload_n 0, 1) := by decide +kernel
theorem d105_6 : decode (mCode 105) 6 = .ok (.getfield 30, 3) := by decide +kernel
theorem d105_9 : decode (mCode 105) 9 = .ok (.invokevirtual 115, 3) := by decide +kernel
theorem d105_12 : decode (mCode 105) 12 = .ok (.if_icmp .ge 12, 3) := by decide +kernel
theorem d105_15 : decode (mCode 105) 15 = .ok (.iload_n 2, 1) := by decide +kernel
theorem d105_16 : decode (mCode 105) 16 = .ok (.ifCond .lt 8, 3) := by decide +kernel
theorem d105_19 : decode (mCode 105) 19 = .ok (.iload_n 2, 1) := by decide +kernel
theorem d105_20 : decode (mCode 105) 20 = .ok (.iconst 2, 1) := by decide +kernel
theorem d105_21 : decode (mCode 105) 21 = .ok (.if_icmp .le 13, 3) := by decide +kernel
theorem d105_24 : decode (mCode 105) 24 = .ok (.new 174, 3) := by decide +kernel
theorem d105_27 : decode (mCode 105) 27 = .ok (.dup, 1) := by decide +kernel
theorem d105_28 : decode (mCode 105) 28 = .ok (.ldc 176, 2) := by decide +kernel
theorem d105_30 : decode (mCode 105) 30 = .ok (.invokespecial 178, 3) := by decide +kernel
theorem d105_33 : decode (mCode 105) 33 = .ok (.athrow, 1) := by decide +kernel
theorem d105_34 : decode (mCode 105) 34 = .ok (.return_, 1) := by decide +kernel
theorem d106_0 : decode (mCode 106) 0 = .ok (.aload_n 0, 1) := by decide +kernel
theorem d106_1 : decode (mCode 106) 1 = .ok (.iload_n 1, 1) := by decide +kernel
theorem d106_2 : decode (mCode 106) 2 = .ok (.iload_n 2, 1) := by decide +kernel
theorem d106_3 : decode (mCode 106) 3 = .ok (.invokevirtual 122, 3) := by decide +kernel
theorem d106_6 : decode (mCode 106) 6 = .ok (.aload_n 0, 1) := by decide +kernel
theorem d106_7 : decode (mCode 106) 7 = .ok (.getfield 30, 3) := by decide +kernel
theorem d106_10 : decode (mCode 106) 10 = .ok (.iload_n 1, 1) := by decide +kernel
theorem d106_11 : decode (mCode 106) 11 = .ok (.iload_n 2, 1) := by decide +kernel
theorem d106_12 : decode (mCode 106) 12 = .ok (.invokevirtual 129, 3) := by decide +kernel
theorem d106_15 : decode (mCode 106) 15 = .ok (.ireturn, 1) := by decide +kernel
theorem d107_0 : decode (mCode 107) 0 = .ok (.aload_n 0, 1) := by decide +kernel
theorem d107_1 : decode (mCode 107) 1 = .ok (.iload_n 1, 1) := by decide +kernel
theorem d107_2 : decode (mCode 107) 2 = .ok (.iload_n 2, 1) := by decide +kernel
theorem d107_3 : decode (mCode 107) 3 = .ok (.invokevirtual 84, 3) := by decide +kernel
theorem d107_6 : decode (mCode 107) 6 = .ok (.aload_n 0, 1) := by decide +kernel
theorem d107_7 : decode (mCode 107) 7 = .ok (.getfield 30, 3) := by decide +kernel
theorem d107_10 : decode (mCode 107) 10 = .ok (.iload_n 1, 1) := by decide +kernel
theorem d107_11 : decode (mCode 107) 11 = .ok (.iload_n 2, 1) := by decide +kernel
theorem d107_12 : decode (mCode 107) 12 = .ok (.invokevirtual 132, 3) := by decide +kernel
theorem d107_15 : decode (mCode 107) 15 = .ok (.ifCond .ne 5, 3) := by decide +kernel
theorem d107_18 : decode (mCode 107) 18 = .ok (.iconst 0, 1) := by decide +kernel
theorem d107_19 : decode (mCode 107) 19 = .ok (.ireturn, 1) := by decide +kernel
theorem d107_20 : decode (mCode 107) 20 = .ok (.aload_n 0, 1) := by decide +kernel
theorem d107_21 : decode (mCode 107) 21 = .ok (.getfield 26, 3) := by decide +kernel
theorem d107_24 : decode (mCode 107) 24 = .ok (.iload_n 1, 1) := by decide +kernel
theorem d107_25 : decode (mCode 107) 25 = .ok (.iload_n 2, 1) := by decide +kernel
theorem d107_26 : decode (mCode 107) 26 = .ok (.invokevirtual 87, 3) := by decide +kernel
theorem d107_29 : decode (mCode 107) 29 = .ok (.ifCond .eq 7, 3) := by decide +kernel
theorem d107_32 : decode (mCode 107) 32 = .ok (.iconst 2, 1) := by decide +kernel
theorem d107_33 : decode (mCode 107) 33 = .ok (.goto 4, 3) := by decide +kernel
theorem d107_36 : decode (mCode 107) 36 = .ok (.iconst 1, 1) := by decide +kernel
theorem d107_37 : decode (mCode 107) 37 = .ok (.ireturn, 1) := by decide +kernel
theorem d108_0 : decode (mCode 108) 0 = .ok (.aload_n 0, 1) := by decide +kernel
theorem d108_1 : decode (mCode 108) 1 = .ok (.iload_n 1, 1) := by decide +kernel
theorem d108_2 : decode (mCode 108) 2 = .ok (.invokevirtual 135, 3) := by decide +kernel
theorem d108_5 : decode (mCode 108) 5 = .ok (.aload_n 0, 1) := by decide +kernel
theorem d108_6 : decode (mCode 108) 6 = .ok (.iload_n 2, 1) := by decide +kernel
theorem d108_7 : decode (mCode 108) 7 = .ok (.invokevirtual 135, 3) := by decide +kernel
theorem d108_10 : decode (mCode 108) 10 = .ok (.aload_n 0, 1) := by decide +kernel
theorem d108_11 : decode (mCode 108) 11 = .ok (.iload_n 3, 1) := by decide +kernel
theorem d108_12 : decode (mCode 108) 12 = .ok (.invokevirtual 135, 3) := by decide +kernel
theorem d108_15 : decode (mCode 108) 15 = .ok (.aload_n 0, 1) := by decide +kernel
theorem d108_16 : decode (mCode 108) 16 = .ok (.getfield 22, 3) := by decide +kernel
theorem d108_19 : decode (mCode 108) 19 = .ok (.iload_n 1, 1) := by decide +kernel
theorem d108_20 : decode (mCode 108) 20 = .ok (.iload_n 2, 1) := by decide +kernel
theorem d108_21 : decode (mCode 108) 21 = .ok (.iload_n 3, 1) := by decide +kernel
theorem d108_22 : decode (mCode 108) 22 = .ok (.invokevirtual 138, 3) := by decide +kernel
theorem d108_25 : decode (mCode 108) 25 = .ok (.ireturn, 1) := by decide +kernel
theorem d109_0 : decode (mCode 109) 0 = .ok (.aload_n 0, 1) := by decide +kernel
theorem d109_1 : decode (mCode 109) 1 = .ok (.iload_n 1, 1) := by decide +kernel
theorem d109_2 : decode (mCode 109) 2 = .ok (.invokevirtual 135, 3) := by decide +kernel
theorem d109_5 : decode (mCode 109) 5 = .ok (.aload_n 0, 1) := by decide +kernel
theorem d109_6 : decode (mCode 109) 6 = .ok (.iload_n 2, 1) := by decide +kernel
theorem d109_7 : decode (mCode 109) 7 = .ok (.invokevirtual 135, 3) := by decide +kernel
theorem d109_10 : decode (mCode 109) 10 = .ok (.aload_n 0, 1) := by decide +kernel
theorem d109_11 : decode (mCode 109) 11 = .ok (.iload_n 3, 1) := by decide +kernel
theorem d109_12 : decode (mCode 109) 12 = .ok (.invokevirtual 135, 3) := by decide +kernel
theorem d109_15 : decode (mCode 109) 15 = .ok (.aload_n 0, 1) := by decide +kernel
theorem d109_16 : decode (mCode 109) 16 = .ok (.iload 4, 2) := by decide +kernel
theorem d109_18 : decode (mCode 109) 18 = .ok (.invokevirtual 135, 3) := by decide +kernel
theorem d109_21 : decode (mCode 109) 21 = .ok (.aload_n 0, 1) := by decide +kernel
theorem d109_22 : decode (mCode 109) 22 = .ok (.getfield 22, 3) := by decide +kernel
theorem d109_25 : decode (mCode 109) 25 = .ok (.iload_n 1, 1) := by decide +kernel
theorem d109_26 : decode (mCode 109) 26 = .ok (.iload_n 2, 1) := by decide +kernel
theorem d109_27 : decode (mCode 109) 27 = .ok (.iload_n 3, 1) := by decide +kernel
theorem d109_28 : decode (mCode 109) 28 = .ok (.invokevirtual 138, 3) := by decide +kernel
theorem d109_31 : decode (mCode 109) 31 = .ok (.istore 5, 2) := by decide +kernel
theorem d109_33 : decode (mCode 109) 33 = .ok (.iload 5, 2) := by decide +kernel
theorem d109_35 : decode (mCode 109) 35 = .ok (.ifCond .ne 13, 3) := by decide +kernel
theorem d109_38 : decode (mCode 109) 38 = .ok (.new 142, 3) := by decide +kernel
theorem d109_41 : decode (mCode 109) 41 = .ok (.dup, 1) := by decide +kernel
theorem d109_42 : decode (mCode 109) 42 = .ok (.ldc 144, 2) := by decide +kernel
theorem d109_44 : decode (mCode 109) 44 = .ok (.invokespecial 146, 3) := by decide +kernel
theorem d109_47 : decode (mCode 109) 47 = .ok (.athrow, 1) := by decide +kernel
theorem d109_48 : decode (mCode 109) 48 = .ok (.iload 5, 2) := by decide +kernel
theorem d109_50 : decode (mCode 109) 50 = .ok (.aload_n 0, 1) := by decide +kernel
theorem d109_51 : decode (mCode 109) 51 = .ok (.getfield 22, 3) := by decide +kernel
theorem d109_54 : decode (mCode 109) 54 = .ok (.iload_n 1, 1) := by decide +kernel
theorem d109_55 : decode (mCode 109) 55 = .ok (.iload_n 2, 1) := by decide +kernel
theorem d109_56 : decode (mCode 109) 56 = .ok (.iload_n 3, 1) := by decide +kernel
theorem d109_57 : decode (mCode 109) 57 = .ok (.iload 4, 2) := by decide +kernel
theorem d109_59 : decode (mCode 109) 59 = .ok (.invokevirtual 147, 3) := by decide +kernel
theorem d109_62 : decode (mCode 109) 62 = .ok (.imul, 1) := by decide +kernel
theorem d109_63 : decode (mCode 109) 63 = .ok (.ireturn, 1) := by decide +kernel
theorem d110_0 : decode (mCode 110) 0 = .ok (.aload_n 0, 1) := by decide +kernel
theorem d110_1 : decode (mCode 110) 1 = .ok (.iload_n 1, 1) := by decide +kernel
theorem d110_2 : decode (mCode 110) 2 = .ok (.iload_n 2, 1) := by decide +kernel
theorem d110_3 : decode (mCode 110) 3 = .ok (.invokevirtual 50, 3) := by decide +kernel
theorem d110_6 : decode (mCode 110) 6 = .ok (.aload_n 0, 1) := by decide +kernel
theorem d110_7 : decode (mCode 110) 7 = .ok (.getfield 22, 3) := by decide +kernel
theorem d110_10 : decode (mCode 110) 10 = .ok (.bipush 40, 2) := by decide +kernel
theorem d110_12 : decode (mCode 110) 12 = .ok (.iload_n 1, 1) := by decide +kernel
theorem d110_13 : decode (mCode 110) 13 = .ok (.iload_n 2, 1) := by decide +kernel
theorem d110_14 : decode (mCode 110) 14 = .ok (.invokevirtual 65, 3) := by decide +kernel
theorem d110_17 : decode (mCode 110) 17 = .ok (.aload_n 0, 1) := by decide +kernel
theorem d110_18 : decode (mCode 110) 18 = .ok (.getfield 30, 3) := by decide +kernel
theorem d110_21 : decode (mCode 110) 21 = .ok (.bipush 40, 2) := by decide +kernel
theorem d110_23 : decode (mCode 110) 23 = .ok (.invokevirtual 151, 3) := by decide +kernel
theorem d110_26 : decode (mCode 110) 26 = .ok (.ireturn, 1) := by decide +kernel
theorem d111_0 : decode (mCode 111) 0 = .ok (.aload_n 0, 1) := by decide +kernel
theorem d111_1 : decode (mCode 111) 1 = .ok (.iload_n 1, 1) := by decide +kernel
theorem d111_2 : decode (mCode 111) 2 = .ok (.iload_n 2, 1) := by decide +kernel
theorem d111_3 : decode (mCode 111) 3 = .ok (.invokevirtual 50, 3) := by decide +kernel
theorem d111_6 : decode (mCode 111) 6 = .ok (.aload_n 0, 1) := by decide +kernel
theorem d111_7 : decode (mCode 111) 7 = .ok (.iload_n 3, 1) := by decide +kernel
theorem d111_8 : decode (mCode 111) 8 = .ok (.iload 4, 2) := by decide +kernel
theorem d111_10 : decode (mCode 111) 10 = .ok (.invokevirtual 50, 3) := by decide +kernel
theorem d111_13 : decode (mCode 111) 13 = .ok (.aload_n 0, 1) := by decide +kernel
theorem d111_14 : decode (mCode 111) 14 = .ok (.getfield 22, 3) := by decide +kernel
theorem d111_17 : decode (mCode 111) 17 = .ok (.bipush 40, 2) := by decide +kernel
theorem d111_19 : decode (mCode 111) 19 = .ok (.iload_n 1, 1) := by decide +kernel
theorem d111_20 : decode (mCode 111) 20 = .ok (.iload_n 2, 1) := by decide +kernel
theorem d111_21 : decode (mCode 111) 21 = .ok (.invokevirtual 65, 3) := by decide +kernel
theorem d111_24 : decode (mCode 111) 24 = .ok (.aload_n 0, 1) := by decide +kernel
theorem d111_25 : decode (mCode 111) 25 = .ok (.getfield 22, 3) := by decide +kernel
theorem d111_28 : decode (mCode 111) 28 = .ok (.bipush 41, 2) := by decide +kernel
theorem d111_30 : decode (mCode 111) 30 = .ok (.iload_n 3, 1) := by decide +kernel
theorem d111_31 : decode (mCode 111) 31 = .ok (.iload 4, 2) := by decide +kernel
theorem d111_33 : decode (mCode 111) 33 = .ok (.invokevirtual 65, 3) := by decide +kernel
theorem d111_36 : decode (mCode 111) 36 = .ok (.aload_n 0, 1) := by decide +kernel
theorem d111_37 : decode (mCode 111) 37 = .ok (.getfield 30, 3) := by decide +kernel
theorem d111_40 : decode (mCode 111) 40 = .ok (.bipush 40, 2) := by decide +kernel
theorem d111_42 : decode (mCode 111) 42 = .ok (.invokevirtual 151, 3) := by decide +kernel
theorem d111_45 : decode (mCode 111) 45 = .ok (.istore 5, 2) := by decide +kernel
theorem d111_47 : decode (mCode 111) 47 = .ok (.aload_n 0, 1) := by decide +kernel
theorem d111_48 : decode (mCode 111) 48 = .ok (.getfield 30, 3) := by decide +kernel
theorem d111_51 : decode (mCode 111) 51 = .ok (.bipush 41, 2) := by decide +kernel
theorem d111_53 : decode (mCode 111) 53 = .ok (.invokevirtual 151, 3) := by decide +kernel
theorem d111_56 : decode (mCode 111) 56 = .ok (.istore 6, 2) := by decide +kernel
theorem d111_58 : decode (mCode 111) 58 = .ok (.iload 5, 2) := by decide +kernel
theorem d111_60 : decode (mCode 111) 60 = .ok (.iconst (-1), 1) := by decide +kernel
theorem d111_61 : decode (mCode 111) 61 = .ok (.if_icmp .eq 23, 3) := by decide +kernel
theorem d111_64 : decode (mCode 111) 64 = .ok (.iload 6, 2) := by decide +kernel
theorem d111_66 : decode (mCode 111) 66 = .ok (.iconst (-1), 1) := by decide +kernel
theorem d111_67 : decode (mCode 111) 67 = .ok (.if_icmp .eq 17, 3) := by decide +kernel
theorem d111_70 : decode (mCode 111) 70 = .ok (.aload_n 0, 1) := by decide +kernel
theorem d111_71 : decode (mCode 111) 71 = .ok (.getfield 46, 3) := by decide +kernel
theorem d111_74 : decode (mCode 111) 74 = .ok (.iload 5, 2) := by decide +kernel
theorem d111_76 : decode (mCode 111) 76 = .ok (.iload 6, 2) := by decide +kernel
theorem d111_78 : decode (mCode 111) 78 = .ok (.invokevirtual 154, 3) := by decide +kernel
theorem d111_81 : decode (mCode 111) 81 = .ok (.ifCond .ne 5, 3) := by decide +kernel
theorem d111_84 : decode (mCode 111) 84 = .ok (.iconst (-1), 1) := by decide +kernel
theorem d111_85 : decode (mCode 111) 85 = .ok (.ireturn, 1) := by decide +kernel
theorem d111_86 : decode (mCode 111) 86 = .ok (.aload_n 0, 1) := by decide +kernel
theorem d111_87 : decode (mCode 111) 87 = .ok (.getfield 46, 3) := by decide +kernel
theorem d111_90 : decode (mCode 111) 90 = .ok (.invokevirtual 157, 3) := by decide +kernel
theorem d111_93 : decode (mCode 111) 93 = .ok (.ireturn, 1) := by decide +kernel
def f97 (v1 : Int32) (v2 : Int32) (s : mS) : Option ((Unit) ⊕ Nat) :=
  (if (v1 < (-536870911 : Int32)) then
    some (.inr 10)
  else
    (if ((536870911 : Int32) < v1) then
      some (.inr 10)
    else
      (if (v2 < (-536870911 : Int32)) then
        some (.inr 10)
      else
        (if (v2 ≤ (536870911 : Int32)) then
          some (.inl ())
        else
          some (.inr 10)))))
theorem t_f97_n {S : mE} {ex : mHp} {v1 : Int32} {v2 : Int32} {s : mS} {r : Unit} (h : f97 v1 v2 s = some (.inl r)) : Run S 97 (0, [(0, .ref 16), (1, .int v1), (2, .int v2)], [], hp s ex) (.inl none, hp s ex) := by
  unfold f97 at h
  rcases ite_some h with ⟨c1, h⟩ | ⟨c1, h⟩
  · skip
    cases h
  · skip
    rcases ite_some h with ⟨c2, h⟩ | ⟨c2, h⟩
    · skip
      cases h
    · skip
      rcases ite_some h with ⟨c3, h⟩ | ⟨c3, h⟩
      · skip
        cases h
      · skip
        rcases ite_some h with ⟨c4, h⟩ | ⟨c4, h⟩
        · skip
          cases h
          refine R_p d97_0 rfl rfl ?_
          refine R_ci (v := (-536870911)) 369 d97_1 (List.mem_of_getElem? (i := 0) rfl) ?_
          refine R_nb d97_3 rfl (mb_f (b := (v1 < (-536870911 : Int32))) c1) ?_
          refine R_p d97_6 rfl rfl ?_
          refine R_ci (v := 536870911) 370 d97_7 (List.mem_of_getElem? (i := 1) rfl) ?_
          refine R_nb d97_9 rfl (mb_f (b := ((536870911 : Int32) < v1)) c2) ?_
          refine R_p d97_12 rfl rfl ?_
          refine R_ci (v := (-536870911)) 369 d97_13 (List.mem_of_getElem? (i := 0) rfl) ?_
          refine R_nb d97_15 rfl (mb_f (b := (v2 < (-536870911 : Int32))) c3) ?_
          refine R_p d97_18 rfl rfl ?_
          refine R_ci (v := 536870911) 370 d97_19 (List.mem_of_getElem? (i := 1) rfl) ?_
          refine R_br 34 d97_21 (mb_t (b := (v2 ≤ (536870911 : Int32))) c4) rfl ?_
          exact R_vret d97_34 rfl rfl
        · skip
          cases h
theorem t_f97_x {S : mE} {ex : mHp} {v1 : Int32} {v2 : Int32} {s : mS} {c : Nat} (h : f97 v1 v2 s = some (.inr c)) : Run S 97 (0, [(0, .ref 16), (1, .int v1), (2, .int v2)], [], hp s ex) (.inr (ex.length + 54), hp s (ex ++ [.inr (c, [])])) ∨ RunsP 97 (0, [(0, .ref 16), (1, .int v1), (2, .int v2)], [], hp s ex) (.inr (ex.length + 54), hp s (ex ++ [.inr (c, [])])) := by
  unfold f97 at h
  rcases ite_some h with ⟨c1, h⟩ | ⟨c1, h⟩
  · skip
    cases h
    refine Or.inr ?_
    refine Q_p d97_0 rfl rfl ?_
    refine Q_ci (v := (-536870911)) 369 d97_1 (List.mem_of_getElem? (i := 0) rfl) ?_
    refine Q_br 24 d97_3 (mb_t (b := (v1 < (-536870911 : Int32))) c1) rfl ?_
    exact QT 1 d97_24 d97_27 d97_28 d97_30 d97_33 rfl (List.mem_of_getElem? (i := 2) rfl) rfl (by decide) (Nat.le_of_ble_eq_true rfl)
  · skip
    rcases ite_some h with ⟨c2, h⟩ | ⟨c2, h⟩
    · skip
      cases h
      refine Or.inr ?_
      refine Q_p d97_0 rfl rfl ?_
      refine Q_ci (v := (-536870911)) 369 d97_1 (List.mem_of_getElem? (i := 0) rfl) ?_
      refine Q_nb d97_3 rfl (mb_f (b := (v1 < (-536870911 : Int32))) c1) ?_
      refine Q_p d97_6 rfl rfl ?_
      refine Q_ci (v := 536870911) 370 d97_7 (List.mem_of_getElem? (i := 1) rfl) ?_
      refine Q_br 24 d97_9 (mb_t (b := ((536870911 : Int32) < v1)) c2) rfl ?_
      exact QT 1 d97_24 d97_27 d97_28 d97_30 d97_33 rfl (List.mem_of_getElem? (i := 2) rfl) rfl (by decide) (Nat.le_of_ble_eq_true rfl)
    · skip
      rcases ite_some h with ⟨c3, h⟩ | ⟨c3, h⟩
      · skip
        cases h
        refine Or.inr ?_
        refine Q_p d97_0 rfl rfl ?_
        refine Q_ci (v := (-536870911)) 369 d97_1 (List.mem_of_getElem? (i := 0) rfl) ?_
        refine Q_nb d97_3 rfl (mb_f (b := (v1 < (-536870911 : Int32))) c1) ?_
        refine Q_p d97_6 rfl rfl ?_
        refine Q_ci (v := 536870911) 370 d97_7 (List.mem_of_getElem? (i := 1) rfl) ?_
        refine Q_nb d97_9 rfl (mb_f (b := ((536870911 : Int32) < v1)) c2) ?_
        refine Q_p d97_12 rfl rfl ?_
        refine Q_ci (v := (-536870911)) 369 d97_13 (List.mem_of_getElem? (i := 0) rfl) ?_
        refine Q_br 24 d97_15 (mb_t (b := (v2 < (-536870911 : Int32))) c3) rfl ?_
        exact QT 1 d97_24 d97_27 d97_28 d97_30 d97_33 rfl (List.mem_of_getElem? (i := 2) rfl) rfl (by decide) (Nat.le_of_ble_eq_true rfl)
      · skip
        rcases ite_some h with ⟨c4, h⟩ | ⟨c4, h⟩
        · skip
          cases h
        · skip
          cases h
          refine Or.inr ?_
          refine Q_p d97_0 rfl rfl ?_
          refine Q_ci (v := (-536870911)) 369 d97_1 (List.mem_of_getElem? (i := 0) rfl) ?_
          refine Q_nb d97_3 rfl (mb_f (b := (v1 < (-536870911 : Int32))) c1) ?_
          refine Q_p d97_6 rfl rfl ?_
          refine Q_ci (v := 536870911) 370 d97_7 (List.mem_of_getElem? (i := 1) rfl) ?_
          refine Q_nb d97_9 rfl (mb_f (b := ((536870911 : Int32) < v1)) c2) ?_
          refine Q_p d97_12 rfl rfl ?_
          refine Q_ci (v := (-536870911)) 369 d97_13 (List.mem_of_getElem? (i := 0) rfl) ?_
          refine Q_nb d97_15 rfl (mb_f (b := (v2 < (-536870911 : Int32))) c3) ?_
          refine Q_p d97_18 rfl rfl ?_
          refine Q_ci (v := 536870911) 370 d97_19 (List.mem_of_getElem? (i := 1) rfl) ?_
          refine Q_nb d97_21 rfl (mb_f (b := (v2 ≤ (536870911 : Int32))) c4) ?_
          exact QT 1 d97_24 d97_27 d97_28 d97_30 d97_33 rfl (List.mem_of_getElem? (i := 2) rfl) rfl (by decide) (Nat.le_of_ble_eq_true rfl)
theorem tq_f97_n {ex : mHp} {v1 : Int32} {v2 : Int32} {s : mS} {r : Unit} (h : f97 v1 v2 s = some (.inl r)) : RunsP 97 (0, [(0, .ref 16), (1, .int v1), (2, .int v2)], [], hp s ex) (.inl none, hp s ex) := by
  unfold f97 at h
  rcases ite_some h with ⟨c1, h⟩ | ⟨c1, h⟩
  · skip
    cases h
  · skip
    rcases ite_some h with ⟨c2, h⟩ | ⟨c2, h⟩
    · skip
      cases h
    · skip
      rcases ite_some h with ⟨c3, h⟩ | ⟨c3, h⟩
      · skip
        cases h
      · skip
        rcases ite_some h with ⟨c4, h⟩ | ⟨c4, h⟩
        · skip
          cases h
          refine Q_p d97_0 rfl rfl ?_
          refine Q_ci (v := (-536870911)) 369 d97_1 (List.mem_of_getElem? (i := 0) rfl) ?_
          refine Q_nb d97_3 rfl (mb_f (b := (v1 < (-536870911 : Int32))) c1) ?_
          refine Q_p d97_6 rfl rfl ?_
          refine Q_ci (v := 536870911) 370 d97_7 (List.mem_of_getElem? (i := 1) rfl) ?_
          refine Q_nb d97_9 rfl (mb_f (b := ((536870911 : Int32) < v1)) c2) ?_
          refine Q_p d97_12 rfl rfl ?_
          refine Q_ci (v := (-536870911)) 369 d97_13 (List.mem_of_getElem? (i := 0) rfl) ?_
          refine Q_nb d97_15 rfl (mb_f (b := (v2 < (-536870911 : Int32))) c3) ?_
          refine Q_p d97_18 rfl rfl ?_
          refine Q_ci (v := 536870911) 370 d97_19 (List.mem_of_getElem? (i := 1) rfl) ?_
          refine Q_br 34 d97_21 (mb_t (b := (v2 ≤ (536870911 : Int32))) c4) rfl ?_
          exact Q_vret d97_34 rfl
        · skip
          cases h
def f102 (v1 : Int32) (s : mS) : Option ((Unit) ⊕ Nat) :=
  (if (v1 < (0 : Int32)) then
    some (.inr 10)
  else
    (f66 s).bind fun q2 => (if (v1 < q2) then
      some (.inl ())
    else
      some (.inr 10)))
theorem t_f102_n {S : mE} {ex : mHp} {v1 : Int32} {s : mS} {r : Unit} (h : f102 v1 s = some (.inl r)) : Run S 102 (0, [(0, .ref 16), (1, .int v1)], [], hp s ex) (.inl none, hp s ex) := by
  unfold f102 at h
  rcases ite_some h with ⟨c1, h⟩ | ⟨c1, h⟩
  · skip
    cases h
  · skip
    obtain ⟨q2, e3, h⟩ := bd_some h
    rcases ite_some h with ⟨c4, h⟩ | ⟨c4, h⟩
    · skip
      cases h
      refine R_p d102_0 rfl rfl ?_
      refine R_nb d102_1 rfl (mb_f (b := (v1 < (0 : Int32))) c1) ?_
      refine R_p d102_4 rfl rfl ?_
      refine R_p d102_5 rfl rfl ?_
      refine R_get d102_6 (Or.inl (List.mem_of_getElem? (i := 43) rfl)) (hg16 _ _) rfl ?_
      refine R_cm [] d102_9 (List.mem_of_getElem? (i := 11) rfl) rfl ⟨by decide, by decide, Nat.le_of_ble_eq_true rfl, rfl, mcd66⟩ rfl rfl (Nat.le_of_ble_eq_true rfl) (hg17 _ _) rfl (t_f66 e3) ?_
      refine R_br 25 d102_12 (mb_t (b := (v1 < q2)) c4) rfl ?_
      exact R_vret d102_25 rfl rfl
    · skip
      cases h
theorem t_f102_x {S : mE} {ex : mHp} {v1 : Int32} {s : mS} {c : Nat} (h : f102 v1 s = some (.inr c)) : Run S 102 (0, [(0, .ref 16), (1, .int v1)], [], hp s ex) (.inr (ex.length + 54), hp s (ex ++ [.inr (c, [])])) ∨ RunsP 102 (0, [(0, .ref 16), (1, .int v1)], [], hp s ex) (.inr (ex.length + 54), hp s (ex ++ [.inr (c, [])])) := by
  unfold f102 at h
  rcases ite_some h with ⟨c1, h⟩ | ⟨c1, h⟩
  · skip
    cases h
    refine Or.inr ?_
    refine Q_p d102_0 rfl rfl ?_
    refine Q_br 15 d102_1 (mb_t (b := (v1 < (0 : Int32))) c1) rfl ?_
    exact QT 3 d102_15 d102_18 d102_19 d102_21 d102_24 rfl (List.mem_of_getElem? (i := 3) rfl) rfl (by decide) (Nat.le_of_ble_eq_true rfl)
  · skip
    obtain ⟨q2, e3, h⟩ := bd_some h
    rcases ite_some h with ⟨c4, h⟩ | ⟨c4, h⟩
    · skip
      cases h
    · skip
      cases h
      refine Or.inr ?_
      refine Q_p d102_0 rfl rfl ?_
      refine Q_nb d102_1 rfl (mb_f (b := (v1 < (0 : Int32))) c1) ?_
      refine Q_p d102_4 rfl rfl ?_
      refine Q_p d102_5 rfl rfl ?_
      refine Q_get d102_6 (Or.inl (List.mem_of_getElem? (i := 43) rfl)) (hg16 _ _) rfl ?_
      refine Q_cm [] d102_9 (List.mem_of_getElem? (i := 11) rfl) rfl ⟨by decide, by decide, Nat.le_of_ble_eq_true rfl, rfl, mcd66⟩ rfl rfl (Nat.le_of_ble_eq_true rfl) (hg17 _ _) rfl (tq_f66 e3) ?_
      refine Q_nb d102_12 rfl (mb_f (b := (v1 < q2)) c4) ?_
      exact QT 3 d102_15 d102_18 d102_19 d102_21 d102_24 rfl (List.mem_of_getElem? (i := 3) rfl) rfl (by decide) (Nat.le_of_ble_eq_true rfl)
theorem tq_f102_n {ex : mHp} {v1 : Int32} {s : mS} {r : Unit} (h : f102 v1 s = some (.inl r)) : RunsP 102 (0, [(0, .ref 16), (1, .int v1)], [], hp s ex) (.inl none, hp s ex) := by
  unfold f102 at h
  rcases ite_some h with ⟨c1, h⟩ | ⟨c1, h⟩
  · skip
    cases h
  · skip
    obtain ⟨q2, e3, h⟩ := bd_some h
    rcases ite_some h with ⟨c4, h⟩ | ⟨c4, h⟩
    · skip
      cases h
      refine Q_p d102_0 rfl rfl ?_
      refine Q_nb d102_1 rfl (mb_f (b := (v1 < (0 : Int32))) c1) ?_
      refine Q_p d102_4 rfl rfl ?_
      refine Q_p d102_5 rfl rfl ?_
      refine Q_get d102_6 (Or.inl (List.mem_of_getElem? (i := 43) rfl)) (hg16 _ _) rfl ?_
      refine Q_cm [] d102_9 (List.mem_of_getElem? (i := 11) rfl) rfl ⟨by decide, by decide, Nat.le_of_ble_eq_true rfl, rfl, mcd66⟩ rfl rfl (Nat.le_of_ble_eq_true rfl) (hg17 _ _) rfl (tq_f66 e3) ?_
      refine Q_br 25 d102_12 (mb_t (b := (v1 < q2)) c4) rfl ?_
      exact Q_vret d102_25 rfl
    · skip
      cases h
def f105 (v1 : Int32) (v2 : Int32) (s : mS) : Option ((Unit) ⊕ Nat) :=
  (if (v1 < (0 : Int32)) then
    some (.inr 12)
  else
    (f46 s).bind fun q2 => (if (q2 ≤ v1) then
      some (.inr 12)
    else
      (if (v2 < (0 : Int32)) then
        some (.inr 12)
      else
        (if (v2 ≤ (2 : Int32)) then
          some (.inl ())
        else
          some (.inr 12)))))
theorem t_f105_n {S : mE} {ex : mHp} {v1 : Int32} {v2 : Int32} {s : mS} {r : Unit} (h : f105 v1 v2 s = some (.inl r)) : Run S 105 (0, [(0, .ref 16), (1, .int v1), (2, .int v2)], [], hp s ex) (.inl none, hp s ex) := by
  unfold f105 at h
  rcases ite_some h with ⟨c1, h⟩ | ⟨c1, h⟩
  · skip
    cases h
  · skip
    obtain ⟨q2, e3, h⟩ := bd_some h
    rcases ite_some h with ⟨c4, h⟩ | ⟨c4, h⟩
    · skip
      cases h
    · skip
      rcases ite_some h with ⟨c5, h⟩ | ⟨c5, h⟩
      · skip
        cases h
      · skip
        rcases ite_some h with ⟨c6, h⟩ | ⟨c6, h⟩
        · skip
          cases h
          refine R_p d105_0 rfl rfl ?_
          refine R_nb d105_1 rfl (mb_f (b := (v1 < (0 : Int32))) c1) ?_
          refine R_p d105_4 rfl rfl ?_
          refine R_p d105_5 rfl rfl ?_
          refine R_get d105_6 (Or.inl (List.mem_of_getElem? (i := 45) rfl)) (hg16 _ _) rfl ?_
          refine R_cm [] d105_9 (List.mem_of_getElem? (i := 18) rfl) rfl ⟨by decide, by decide, Nat.le_of_ble_eq_true rfl, rfl, mcd46⟩ rfl rfl (Nat.le_of_ble_eq_true rfl) (hg23 _ _) rfl (t_f46 e3) ?_
          refine R_nb d105_12 rfl (mb_f (b := (q2 ≤ v1)) c4) ?_
          refine R_p d105_15 rfl rfl ?_
          refine R_nb d105_16 rfl (mb_f (b := (v2 < (0 : Int32))) c5) ?_
          refine R_p d105_19 rfl rfl ?_
          refine R_ic (v := 2) d105_20 (by decide) ?_
          refine R_br 34 d105_21 (mb_t (b := (v2 ≤ (2 : Int32))) c6) rfl ?_
          exact R_vret d105_34 rfl rfl
        · skip
          cases h
theorem t_f105_x {S : mE} {ex : mHp} {v1 : Int32} {v2 : Int32} {s : mS} {c : Nat} (h : f105 v1 v2 s = some (.inr c)) : Run S 105 (0, [(0, .ref 16), (1, .int v1), (2, .int v2)], [], hp s ex) (.inr (ex.length + 54), hp s (ex ++ [.inr (c, [])])) ∨ RunsP 105 (0, [(0, .ref 16), (1, .int v1), (2, .int v2)], [], hp s ex) (.inr (ex.length + 54), hp s (ex ++ [.inr (c, [])])) := by
  unfold f105 at h
  rcases ite_some h with ⟨c1, h⟩ | ⟨c1, h⟩
  · skip
    cases h
    refine Or.inr ?_
    refine Q_p d105_0 rfl rfl ?_
    refine Q_br 24 d105_1 (mb_t (b := (v1 < (0 : Int32))) c1) rfl ?_
    exact QT 5 d105_24 d105_27 d105_28 d105_30 d105_33 rfl (List.mem_of_getElem? (i := 5) rfl) rfl (by decide) (Nat.le_of_ble_eq_true rfl)
  · skip
    obtain ⟨q2, e3, h⟩ := bd_some h
    rcases ite_some h with ⟨c4, h⟩ | ⟨c4, h⟩
    · skip
      cases h
      refine Or.inr ?_
      refine Q_p d105_0 rfl rfl ?_
      refine Q_nb d105_1 rfl (mb_f (b := (v1 < (0 : Int32))) c1) ?_
      refine Q_p d105_4 rfl rfl ?_
      refine Q_p d105_5 rfl rfl ?_
      refine Q_get d105_6 (Or.inl (List.mem_of_getElem? (i := 45) rfl)) (hg16 _ _) rfl ?_
      refine Q_cm [] d105_9 (List.mem_of_getElem? (i := 18) rfl) rfl ⟨by decide, by decide, Nat.le_of_ble_eq_true rfl, rfl, mcd46⟩ rfl rfl (Nat.le_of_ble_eq_true rfl) (hg23 _ _) rfl (tq_f46 e3) ?_
      refine Q_br 24 d105_12 (mb_t (b := (q2 ≤ v1)) c4) rfl ?_
      exact QT 5 d105_24 d105_27 d105_28 d105_30 d105_33 rfl (List.mem_of_getElem? (i := 5) rfl) rfl (by decide) (Nat.le_of_ble_eq_true rfl)
    · skip
      rcases ite_some h with ⟨c5, h⟩ | ⟨c5, h⟩
      · skip
        cases h
        refine Or.inr ?_
        refine Q_p d105_0 rfl rfl ?_
        refine Q_nb d105_1 rfl (mb_f (b := (v1 < (0 : Int32))) c1) ?_
        refine Q_p d105_4 rfl rfl ?_
        refine Q_p d105_5 rfl rfl ?_
        refine Q_get d105_6 (Or.inl (List.mem_of_getElem? (i := 45) rfl)) (hg16 _ _) rfl ?_
        refine Q_cm [] d105_9 (List.mem_of_getElem? (i := 18) rfl) rfl ⟨by decide, by decide, Nat.le_of_ble_eq_true rfl, rfl, mcd46⟩ rfl rfl (Nat.le_of_ble_eq_true rfl) (hg23 _ _) rfl (tq_f46 e3) ?_
        refine Q_nb d105_12 rfl (mb_f (b := (q2 ≤ v1)) c4) ?_
        refine Q_p d105_15 rfl rfl ?_
        refine Q_br 24 d105_16 (mb_t (b := (v2 < (0 : Int32))) c5) rfl ?_
        exact QT 5 d105_24 d105_27 d105_28 d105_30 d105_33 rfl (List.mem_of_getElem? (i := 5) rfl) rfl (by decide) (Nat.le_of_ble_eq_true rfl)
      · skip
        rcases ite_some h with ⟨c6, h⟩ | ⟨c6, h⟩
        · skip
          cases h
        · skip
          cases h
          refine Or.inr ?_
          refine Q_p d105_0 rfl rfl ?_
          refine Q_nb d105_1 rfl (mb_f (b := (v1 < (0 : Int32))) c1) ?_
          refine Q_p d105_4 rfl rfl ?_
          refine Q_p d105_5 rfl rfl ?_
          refine Q_get d105_6 (Or.inl (List.mem_of_getElem? (i := 45) rfl)) (hg16 _ _) rfl ?_
          refine Q_cm [] d105_9 (List.mem_of_getElem? (i := 18) rfl) rfl ⟨by decide, by decide, Nat.le_of_ble_eq_true rfl, rfl, mcd46⟩ rfl rfl (Nat.le_of_ble_eq_true rfl) (hg23 _ _) rfl (tq_f46 e3) ?_
          refine Q_nb d105_12 rfl (mb_f (b := (q2 ≤ v1)) c4) ?_
          refine Q_p d105_15 rfl rfl ?_
          refine Q_nb d105_16 rfl (mb_f (b := (v2 < (0 : Int32))) c5) ?_
          refine Q_p d105_19 rfl rfl ?_
          refine Q_ic (v := 2) d105_20 (by decide) ?_
          refine Q_nb d105_21 rfl (mb_f (b := (v2 ≤ (2 : Int32))) c6) ?_
          exact QT 5 d105_24 d105_27 d105_28 d105_30 d105_33 rfl (List.mem_of_getElem? (i := 5) rfl) rfl (by decide) (Nat.le_of_ble_eq_true rfl)
def f101 (v1 : Int32) (v2 : Int32) (s : mS) : Option ((Unit) ⊕ Nat) :=
  bx (f102 v1 s) fun q1 => bx (f102 v2 s) fun q4 => (if (¬ v1 = v2) then
        some (.inl ())
      else
        some (.inr 10))
theorem t_f101_n {S : mE} {ex : mHp} {v1 : Int32} {v2 : Int32} {s : mS} {r : Unit} (h : f101 v1 v2 s = some (.inl r)) : Run S 101 (0, [(0, .ref 16), (1, .int v1), (2, .int v2)], [], hp s ex) (.inl none, hp s ex) := by
  unfold f101 at h
  rcases bx_some h with ⟨q1, e2, h⟩ | ⟨c3, e2, h⟩
  · skip
    rcases bx_some h with ⟨q4, e5, h⟩ | ⟨c6, e5, h⟩
    · skip
      rcases ite_some h with ⟨c7, h⟩ | ⟨c7, h⟩
      · skip
        cases h
        refine R_p d101_0 rfl rfl ?_
        refine R_p d101_1 rfl rfl ?_
        refine R_cm [.int v1] d101_2 (List.mem_of_getElem? (i := 86) rfl) rfl ⟨by decide, by decide, Nat.le_of_ble_eq_true rfl, rfl, mcd102⟩ rfl rfl (Nat.le_of_ble_eq_true rfl) (hg16 _ _) rfl (t_f102_n e2) ?_
        refine R_p d101_5 rfl rfl ?_
        refine R_p d101_6 rfl rfl ?_
        refine R_cm [.int v2] d101_7 (List.mem_of_getElem? (i := 86) rfl) rfl ⟨by decide, by decide, Nat.le_of_ble_eq_true rfl, rfl, mcd102⟩ rfl rfl (Nat.le_of_ble_eq_true rfl) (hg16 _ _) rfl (t_f102_n e5) ?_
        refine R_p d101_10 rfl rfl ?_
        refine R_p d101_11 rfl rfl ?_
        refine R_br 25 d101_12 (mb_t (b := (¬ v1 = v2)) c7) rfl ?_
        exact R_vret d101_25 rfl rfl
      · skip
        cases h
    · cases h
  · cases h
theorem t_f101_x {S : mE} {ex : mHp} {v1 : Int32} {v2 : Int32} {s : mS} {c : Nat} (h : f101 v1 v2 s = some (.inr c)) : Run S 101 (0, [(0, .ref 16), (1, .int v1), (2, .int v2)], [], hp s ex) (.inr (ex.length + 54), hp s (ex ++ [.inr (c, [])])) ∨ RunsP 101 (0, [(0, .ref 16), (1, .int v1), (2, .int v2)], [], hp s ex) (.inr (ex.length + 54), hp s (ex ++ [.inr (c, [])])) := by
  unfold f101 at h
  rcases bx_some h with ⟨q1, e2, h⟩ | ⟨c3, e2, h⟩
  · skip
    rcases bx_some h with ⟨q4, e5, h⟩ | ⟨c6, e5, h⟩
    · skip
      rcases ite_some h with ⟨c7, h⟩ | ⟨c7, h⟩
      · skip
        cases h
      · skip
        cases h
        refine Or.inr ?_
        refine Q_p d101_0 rfl rfl ?_
        refine Q_p d101_1 rfl rfl ?_
        refine Q_cm [.int v1] d101_2 (List.mem_of_getElem? (i := 86) rfl) rfl ⟨by decide, by decide, Nat.le_of_ble_eq_true rfl, rfl, mcd102⟩ rfl rfl (Nat.le_of_ble_eq_true rfl) (hg16 _ _) rfl (tq_f102_n e2) ?_
        refine Q_p d101_5 rfl rfl ?_
        refine Q_p d101_6 rfl rfl ?_
        refine Q_cm [.int v2] d101_7 (List.mem_of_getElem? (i := 86) rfl) rfl ⟨by decide, by decide, Nat.le_of_ble_eq_true rfl, rfl, mcd102⟩ rfl rfl (Nat.le_of_ble_eq_true rfl) (hg16 _ _) rfl (tq_f102_n e5) ?_
        refine Q_p d101_10 rfl rfl ?_
        refine Q_p d101_11 rfl rfl ?_
        refine Q_nb d101_12 rfl (mb_f (b := (¬ v1 = v2)) c7) ?_
        exact QT 4 d101_15 d101_18 d101_19 d101_21 d101_24 rfl (List.mem_of_getElem? (i := 4) rfl) rfl (by decide) (Nat.le_of_ble_eq_true rfl)
    · cases h
      refine Or.inl ?_
      refine R_p d101_0 rfl rfl ?_
      refine R_p d101_1 rfl rfl ?_
      refine R_cm [.int v1] d101_2 (List.mem_of_getElem? (i := 86) rfl) rfl ⟨by decide, by decide, Nat.le_of_ble_eq_true rfl, rfl, mcd102⟩ rfl rfl (Nat.le_of_ble_eq_true rfl) (hg16 _ _) rfl (t_f102_n e2) ?_
      refine R_p d101_5 rfl rfl ?_
      refine R_p d101_6 rfl rfl ?_
      exact R_tv [.int v2] d101_7 (List.mem_of_getElem? (i := 86) rfl) ⟨by decide, by decide, Nat.le_of_ble_eq_true rfl, mcd102⟩ rfl rfl (Nat.le_of_ble_eq_true rfl) (hg16 _ _) rfl rfl (t_f102_x e5)
  · cases h
    refine Or.inl ?_
    refine R_p d101_0 rfl rfl ?_
    refine R_p d101_1 rfl rfl ?_
    exact R_tv [.int v1] d101_2 (List.mem_of_getElem? (i := 86) rfl) ⟨by decide, by decide, Nat.le_of_ble_eq_true rfl, mcd102⟩ rfl rfl (Nat.le_of_ble_eq_true rfl) (hg16 _ _) rfl rfl (t_f102_x e2)
def f96 (k : Nat) (v1 : Int32) (v2 : Int32) (s : mS) : Option ((Int32 × mS) ⊕ Nat) :=
  bx (f97 v1 v2 s) fun q1 => (f66 s).bind fun q4 => (if (¬ q4 = (40 : Int32)) then
      (f68 q4 v1 v2 s).bind fun q7 => (f69 k q4 q7).bind fun q9 => (if (¬ q9 = (-1 : Int32)) then
        some (.inl ((-1 : Int32), q7))
      else
        (f38 k q4 q7).bind fun q12 => (if (q12 = (0 : Int32)) then
          (f72 q7).bind fun q15 => (f20 k q4 q15).bind fun q17 => some (.inl (q4, q17))
        else
          some (.inl ((-1 : Int32), q7))))
    else
      some (.inr 11))
theorem t_f96_n {S : mE} {ex : mHp} {k : Nat} {v1 : Int32} {v2 : Int32} {s : mS} {r : Int32 × mS} (h : f96 k v1 v2 s = some (.inl r)) : Run S 96 (0, [(0, .ref 16), (1, .int v1), (2, .int v2)], [], hp s ex) (.inl (some (.int r.1)), hp r.2 ex) := by
  unfold f96 at h
  rcases bx_some h with ⟨q1, e2, h⟩ | ⟨c3, e2, h⟩
  · skip
    obtain ⟨q4, e5, h⟩ := bd_some h
    rcases ite_some h with ⟨c6, h⟩ | ⟨c6, h⟩
    · skip
      obtain ⟨q7, e8, h⟩ := bd_some h
      obtain ⟨q9, e10, h⟩ := bd_some h
      rcases ite_some h with ⟨c11, h⟩ | ⟨c11, h⟩
      · skip
        cases h
        refine R_p d96_0 rfl rfl ?_
        refine R_p d96_1 rfl rfl ?_
        refine R_p d96_2 rfl rfl ?_
        refine R_cm [.int v1, .int v2] d96_3 (List.mem_of_getElem? (i := 30) rfl) rfl ⟨by decide, by decide, Nat.le_of_ble_eq_true rfl, rfl, mcd97⟩ rfl rfl (Nat.le_of_ble_eq_true rfl) (hg16 _ _) rfl (t_f97_n e2) ?_
        refine R_p d96_6 rfl rfl ?_
        refine R_get d96_7 (Or.inl (List.mem_of_getElem? (i := 43) rfl)) (hg16 _ _) rfl ?_
        refine R_cm [] d96_10 (List.mem_of_getElem? (i := 11) rfl) rfl ⟨by decide, by decide, Nat.le_of_ble_eq_true rfl, rfl, mcd66⟩ rfl rfl (Nat.le_of_ble_eq_true rfl) (hg17 _ _) rfl (t_f66 e5) ?_
        refine R_p (ls' := [(0, .ref 16), (1, .int v1), (2, .int v2), (3, .int q4)]) d96_13 rfl rfl ?_
        refine R_p d96_14 rfl rfl ?_
        refine R_bi (v := 40) d96_15 (by decide) ?_
        refine R_br 30 d96_17 (mb_t (b := (¬ q4 = (40 : Int32))) c6) rfl ?_
        refine R_p d96_30 rfl rfl ?_
        refine R_get d96_31 (Or.inl (List.mem_of_getElem? (i := 43) rfl)) (hg16 _ _) rfl ?_
        refine R_p d96_34 rfl rfl ?_
        refine R_p d96_35 rfl rfl ?_
        refine R_p d96_36 rfl rfl ?_
        refine R_cm [.int q4, .int v1, .int v2] d96_37 (List.mem_of_getElem? (i := 31) rfl) rfl ⟨by decide, by decide, Nat.le_of_ble_eq_true rfl, rfl, mcd68⟩ rfl rfl (Nat.le_of_ble_eq_true rfl) (hg17 _ _) rfl (t_f68 e8) ?_
        refine R_p d96_40 rfl rfl ?_
        refine R_get d96_41 (Or.inl (List.mem_of_getElem? (i := 43) rfl)) (hg16 _ _) rfl ?_
        refine R_p d96_44 rfl rfl ?_
        refine R_cm [.int q4] d96_45 (List.mem_of_getElem? (i := 32) rfl) rfl ⟨by decide, by decide, Nat.le_of_ble_eq_true rfl, rfl, mcd69⟩ rfl rfl (Nat.le_of_ble_eq_true rfl) (hg17 _ _) rfl (t_f69 e10) ?_
        refine R_ic (v := (-1)) d96_48 (by decide) ?_
        refine R_br 63 d96_49 (mb_t (b := (¬ q9 = (-1 : Int32))) c11) rfl ?_
        refine R_ic (v := (-1)) d96_63 (by decide) ?_
        exact R_iret d96_64 rfl rfl rfl
      · skip
        obtain ⟨q12, e13, h⟩ := bd_some h
        rcases ite_some h with ⟨c14, h⟩ | ⟨c14, h⟩
        · skip
          obtain ⟨q15, e16, h⟩ := bd_some h
          obtain ⟨q17, e18, h⟩ := bd_some h
          cases h
          refine R_p d96_0 rfl rfl ?_
          refine R_p d96_1 rfl rfl ?_
          refine R_p d96_2 rfl rfl ?_
          refine R_cm [.int v1, .int v2] d96_3 (List.mem_of_getElem? (i := 30) rfl) rfl ⟨by decide, by decide, Nat.le_of_ble_eq_true rfl, rfl, mcd97⟩ rfl rfl (Nat.le_of_ble_eq_true rfl) (hg16 _ _) rfl (t_f97_n e2) ?_
          refine R_p d96_6 rfl rfl ?_
          refine R_get d96_7 (Or.inl (List.mem_of_getElem? (i := 43) rfl)) (hg16 _ _) rfl ?_
          refine R_cm [] d96_10 (List.mem_of_getElem? (i := 11) rfl) rfl ⟨by decide, by decide, Nat.le_of_ble_eq_true rfl, rfl, mcd66⟩ rfl rfl (Nat.le_of_ble_eq_true rfl) (hg17 _ _) rfl (t_f66 e5) ?_
          refine R_p (ls' := [(0, .ref 16), (1, .int v1), (2, .int v2), (3, .int q4)]) d96_13 rfl rfl ?_
          refine R_p d96_14 rfl rfl ?_
          refine R_bi (v := 40) d96_15 (by decide) ?_
          refine R_br 30 d96_17 (mb_t (b := (¬ q4 = (40 : Int32))) c6) rfl ?_
          refine R_p d96_30 rfl rfl ?_
          refine R_get d96_31 (Or.inl (List.mem_of_getElem? (i := 43) rfl)) (hg16 _ _) rfl ?_
          refine R_p d96_34 rfl rfl ?_
          refine R_p d96_35 rfl rfl ?_
          refine R_p d96_36 rfl rfl ?_
          refine R_cm [.int q4, .int v1, .int v2] d96_37 (List.mem_of_getElem? (i := 31) rfl) rfl ⟨by decide, by decide, Nat.le_of_ble_eq_true rfl, rfl, mcd68⟩ rfl rfl (Nat.le_of_ble_eq_true rfl) (hg17 _ _) rfl (t_f68 e8) ?_
          refine R_p d96_40 rfl rfl ?_
          refine R_get d96_41 (Or.inl (List.mem_of_getElem? (i := 43) rfl)) (hg16 _ _) rfl ?_
          refine R_p d96_44 rfl rfl ?_
          refine R_cm [.int q4] d96_45 (List.mem_of_getElem? (i := 32) rfl) rfl ⟨by decide, by decide, Nat.le_of_ble_eq_true rfl, rfl, mcd69⟩ rfl rfl (Nat.le_of_ble_eq_true rfl) (hg17 _ _) rfl (t_f69 e10) ?_
          refine R_ic (v := (-1)) d96_48 (by decide) ?_
          refine R_nb d96_49 rfl (mb_f (b := (¬ q9 = (-1 : Int32))) c11) ?_
          refine R_p d96_52 rfl rfl ?_
          refine R_get d96_53 (Or.inl (List.mem_of_getElem? (i := 44) rfl)) (hg16 _ _) rfl ?_
          refine R_p d96_56 rfl rfl ?_
          refine R_cm [.int q4] d96_57 (List.mem_of_getElem? (i := 33) rfl) rfl ⟨by decide, by decide, Nat.le_of_ble_eq_true rfl, rfl, mcd38⟩ rfl rfl (Nat.le_of_ble_eq_true rfl) (hg21 _ _) rfl (t_f38 e13) ?_
          refine R_br 65 d96_60 (mb_t (b := (q12 = (0 : Int32))) c14) rfl ?_
          refine R_p d96_65 rfl rfl ?_
          refine R_get d96_66 (Or.inl (List.mem_of_getElem? (i := 43) rfl)) (hg16 _ _) rfl ?_
          refine R_cm [] d96_69 (List.mem_of_getElem? (i := 40) rfl) rfl ⟨by decide, by decide, Nat.le_of_ble_eq_true rfl, rfl, mcd72⟩ rfl rfl (Nat.le_of_ble_eq_true rfl) (hg17 _ _) rfl (t_f72 e16) ?_
          refine R_p d96_72 rfl rfl ?_
          refine R_get d96_73 (Or.inl (List.mem_of_getElem? (i := 46) rfl)) (hg16 _ _) rfl ?_
          refine R_p d96_76 rfl rfl ?_
          refine R_cm [.int q4] d96_77 (List.mem_of_getElem? (i := 41) rfl) rfl ⟨by decide, by decide, Nat.le_of_ble_eq_true rfl, rfl, mcd20⟩ rfl rfl (Nat.le_of_ble_eq_true rfl) (hg29 _ _) rfl (t_f20 e18) ?_
          refine R_p d96_80 rfl rfl ?_
          exact R_iret d96_81 rfl rfl rfl
        · skip
          cases h
          refine R_p d96_0 rfl rfl ?_
          refine R_p d96_1 rfl rfl ?_
          refine R_p d96_2 rfl rfl ?_
          refine R_cm [.int v1, .int v2] d96_3 (List.mem_of_getElem? (i := 30) rfl) rfl ⟨by decide, by decide, Nat.le_of_ble_eq_true rfl, rfl, mcd97⟩ rfl rfl (Nat.le_of_ble_eq_true rfl) (hg16 _ _) rfl (t_f97_n e2) ?_
          refine R_p d96_6 rfl rfl ?_
          refine R_get d96_7 (Or.inl (List.mem_of_getElem? (i := 43) rfl)) (hg16 _ _) rfl ?_
          refine R_cm [] d96_10 (List.mem_of_getElem? (i := 11) rfl) rfl ⟨by decide, by decide, Nat.le_of_ble_eq_true rfl, rfl, mcd66⟩ rfl rfl (Nat.le_of_ble_eq_true rfl) (hg17 _ _) rfl (t_f66 e5) ?_
          refine R_p (ls' := [(0, .ref 16), (1, .int v1), (2, .int v2), (3, .int q4)]) d96_13 rfl rfl ?_
          refine R_p d96_14 rfl rfl ?_
          refine R_bi (v := 40) d96_15 (by decide) ?_
          refine R_br 30 d96_17 (mb_t (b := (¬ q4 = (40 : Int32))) c6) rfl ?_
          refine R_p d96_30 rfl rfl ?_
          refine R_get d96_31 (Or.inl (List.mem_of_getElem? (i := 43) rfl)) (hg16 _ _) rfl ?_
          refine R_p d96_34 rfl rfl ?_
          refine R_p d96_35 rfl rfl ?_
          refine R_p d96_36 rfl rfl ?_
          refine R_cm [.int q4, .int v1, .int v2] d96_37 (List.mem_of_getElem? (i := 31) rfl) rfl ⟨by decide, by decide, Nat.le_of_ble_eq_true rfl, rfl, mcd68⟩ rfl rfl (Nat.le_of_ble_eq_true rfl) (hg17 _ _) rfl (t_f68 e8) ?_
          refine R_p d96_40 rfl rfl ?_
          refine R_get d96_41 (Or.inl (List.mem_of_getElem? (i := 43) rfl)) (hg16 _ _) rfl ?_
          refine R_p d96_44 rfl rfl ?_
          refine R_cm [.int q4] d96_45 (List.mem_of_getElem? (i := 32) rfl) rfl ⟨by decide, by decide, Nat.le_of_ble_eq_true rfl, rfl, mcd69⟩ rfl rfl (Nat.le_of_ble_eq_true rfl) (hg17 _ _) rfl (t_f69 e10) ?_
          refine R_ic (v := (-1)) d96_48 (by decide) ?_
          refine R_nb d96_49 rfl (mb_f (b := (¬ q9 = (-1 : Int32))) c11) ?_
          refine R_p d96_52 rfl rfl ?_
          refine R_get d96_53 (Or.inl (List.mem_of_getElem? (i := 44) rfl)) (hg16 _ _) rfl ?_
          refine R_p d96_56 rfl rfl ?_
          refine R_cm [.int q4] d96_57 (List.mem_of_getElem? (i := 33) rfl) rfl ⟨by decide, by decide, Nat.le_of_ble_eq_true rfl, rfl, mcd38⟩ rfl rfl (Nat.le_of_ble_eq_true rfl) (hg21 _ _) rfl (t_f38 e13) ?_
          refine R_nb d96_60 rfl (mb_f (b := (q12 = (0 : Int32))) c14) ?_
          refine R_ic (v := (-1)) d96_63 (by decide) ?_
          exact R_iret d96_64 rfl rfl rfl
    · skip
      cases h
  · cases h
theorem t_f96_x {S : mE} {ex : mHp} {k : Nat} {v1 : Int32} {v2 : Int32} {s : mS} {c : Nat} (h : f96 k v1 v2 s = some (.inr c)) : Run S 96 (0, [(0, .ref 16), (1, .int v1), (2, .int v2)], [], hp s ex) (.inr (ex.length + 54), hp s (ex ++ [.inr (c, [])])) ∨ RunsP 96 (0, [(0, .ref 16), (1, .int v1), (2, .int v2)], [], hp s ex) (.inr (ex.length + 54), hp s (ex ++ [.inr (c, [])])) := by
  unfold f96 at h
  rcases bx_some h with ⟨q1, e2, h⟩ | ⟨c3, e2, h⟩
  · skip
    obtain ⟨q4, e5, h⟩ := bd_some h
    rcases ite_some h with ⟨c6, h⟩ | ⟨c6, h⟩
    · skip
      obtain ⟨q7, e8, h⟩ := bd_some h
      obtain ⟨q9, e10, h⟩ := bd_some h
      rcases ite_some h with ⟨c11, h⟩ | ⟨c11, h⟩
      · skip
        cases h
      · skip
        obtain ⟨q12, e13, h⟩ := bd_some h
        rcases ite_some h with ⟨c14, h⟩ | ⟨c14, h⟩
        · skip
          obtain ⟨q15, e16, h⟩ := bd_some h
          obtain ⟨q17, e18, h⟩ := bd_some h
          cases h
        · skip
          cases h
    · skip
      cases h
      refine Or.inr ?_
      refine Q_p d96_0 rfl rfl ?_
      refine Q_p d96_1 rfl rfl ?_
      refine Q_p d96_2 rfl rfl ?_
      refine Q_cm [.int v1, .int v2] d96_3 (List.mem_of_getElem? (i := 30) rfl) rfl ⟨by decide, by decide, Nat.le_of_ble_eq_true rfl, rfl, mcd97⟩ rfl rfl (Nat.le_of_ble_eq_true rfl) (hg16 _ _) rfl (tq_f97_n e2) ?_
      refine Q_p d96_6 rfl rfl ?_
      refine Q_get d96_7 (Or.inl (List.mem_of_getElem? (i := 43) rfl)) (hg16 _ _) rfl ?_
      refine Q_cm [] d96_10 (List.mem_of_getElem? (i := 11) rfl) rfl ⟨by decide, by decide, Nat.le_of_ble_eq_true rfl, rfl, mcd66⟩ rfl rfl (Nat.le_of_ble_eq_true rfl) (hg17 _ _) rfl (tq_f66 e5) ?_
      refine Q_p (ls' := [(0, .ref 16), (1, .int v1), (2, .int v2), (3, .int q4)]) d96_13 rfl rfl ?_
      refine Q_p d96_14 rfl rfl ?_
      refine Q_bi (v := 40) d96_15 (by decide) ?_
      refine Q_nb d96_17 rfl (mb_f (b := (¬ q4 = (40 : Int32))) c6) ?_
      exact QT 2 d96_20 d96_23 d96_24 d96_26 d96_29 rfl (List.mem_of_getElem? (i := 0) rfl) rfl (by decide) (Nat.le_of_ble_eq_true rfl)
  · cases h
    refine Or.inl ?_
    refine R_p d96_0 rfl rfl ?_
    refine R_p d96_1 rfl rfl ?_
    refine R_p d96_2 rfl rfl ?_
    exact R_tv [.int v1, .int v2] d96_3 (List.mem_of_getElem? (i := 30) rfl) ⟨by decide, by decide, Nat.le_of_ble_eq_true rfl, mcd97⟩ rfl rfl (Nat.le_of_ble_eq_true rfl) (hg16 _ _) rfl rfl (t_f97_x e2)
def f100 (k : Nat) (v1 : Int32) (v2 : Int32) (s : mS) : Option ((Int32 × mS) ⊕ Nat) :=
  bx (f101 v1 v2 s) fun q1 => (f39 v1 v2 s).bind fun q4 => (if (q4 = (0 : Int32)) then
      (f77 k v1 v2 s).bind fun q7 => (if (¬ q7 = (0 : Int32)) then
        some (.inl ((0 : Int32), s))
      else
        (f40 k v1 v2 s).bind fun q10 => (if (q10 = (0 : Int32)) then
          (f42 v1 v2 s).bind fun q13 => (f28 k v1 v2 q13).bind fun q15 => some (.inl ((1 : Int32), q15))
        else
          some (.inl ((0 : Int32), s))))
    else
      some (.inl ((1 : Int32), s)))
theorem t_f100_n {S : mE} {ex : mHp} {k : Nat} {v1 : Int32} {v2 : Int32} {s : mS} {r : Int32 × mS} (h : f100 k v1 v2 s = some (.inl r)) : Run S 100 (0, [(0, .ref 16), (1, .int v1), (2, .int v2)], [], hp s ex) (.inl (some (.int r.1)), hp r.2 ex) := by
  unfold f100 at h
  rcases bx_some h with ⟨q1, e2, h⟩ | ⟨c3, e2, h⟩
  · skip
    obtain ⟨q4, e5, h⟩ := bd_some h
    rcases ite_some h with ⟨c6, h⟩ | ⟨c6, h⟩
    · skip
      obtain ⟨q7, e8, h⟩ := bd_some h
      rcases ite_some h with ⟨c9, h⟩ | ⟨c9, h⟩
      · skip
        cases h
        refine R_p d100_0 rfl rfl ?_
        refine R_p d100_1 rfl rfl ?_
        refine R_p d100_2 rfl rfl ?_
        refine R_cm [.int v1, .int v2] d100_3 (List.mem_of_getElem? (i := 85) rfl) rfl ⟨by decide, by decide, Nat.le_of_ble_eq_true rfl, rfl, mcd101⟩ rfl rfl (Nat.le_of_ble_eq_true rfl) (hg16 _ _) rfl (t_f101_n e2) ?_
        refine R_p d100_6 rfl rfl ?_
        refine R_get d100_7 (Or.inl (List.mem_of_getElem? (i := 44) rfl)) (hg16 _ _) rfl ?_
        refine R_p d100_10 rfl rfl ?_
        refine R_p d100_11 rfl rfl ?_
        refine R_cm [.int v1, .int v2] d100_12 (List.mem_of_getElem? (i := 87) rfl) rfl ⟨by decide, by decide, Nat.le_of_ble_eq_true rfl, rfl, mcd39⟩ rfl rfl (Nat.le_of_ble_eq_true rfl) (hg21 _ _) rfl (t_f39 e5) ?_
        refine R_br 20 d100_15 (mb_t (b := (q4 = (0 : Int32))) c6) rfl ?_
        refine R_p d100_20 rfl rfl ?_
        refine R_get d100_21 (Or.inl (List.mem_of_getElem? (i := 43) rfl)) (hg16 _ _) rfl ?_
        refine R_p d100_24 rfl rfl ?_
        refine R_p d100_25 rfl rfl ?_
        refine R_cm [.int v1, .int v2] d100_26 (List.mem_of_getElem? (i := 88) rfl) rfl ⟨by decide, by decide, Nat.le_of_ble_eq_true rfl, rfl, mcd77⟩ rfl rfl (Nat.le_of_ble_eq_true rfl) (hg17 _ _) rfl (t_f77 e8) ?_
        refine R_br 44 d100_29 (mb_t (b := (¬ q7 = (0 : Int32))) c9) rfl ?_
        refine R_ic (v := 0) d100_44 (by decide) ?_
        exact R_iret d100_45 rfl rfl rfl
      · skip
        obtain ⟨q10, e11, h⟩ := bd_some h
        rcases ite_some h with ⟨c12, h⟩ | ⟨c12, h⟩
        · skip
          obtain ⟨q13, e14, h⟩ := bd_some h
          obtain ⟨q15, e16, h⟩ := bd_some h
          cases h
          refine R_p d100_0 rfl rfl ?_
          refine R_p d100_1 rfl rfl ?_
          refine R_p d100_2 rfl rfl ?_
          refine R_cm [.int v1, .int v2] d100_3 (List.mem_of_getElem? (i := 85) rfl) rfl ⟨by decide, by decide, Nat.le_of_ble_eq_true rfl, rfl, mcd101⟩ rfl rfl (Nat.le_of_ble_eq_true rfl) (hg16 _ _) rfl (t_f101_n e2) ?_
          refine R_p d100_6 rfl rfl ?_
          refine R_get d100_7 (Or.inl (List.mem_of_getElem? (i := 44) rfl)) (hg16 _ _) rfl ?_
          refine R_p d100_10 rfl rfl ?_
          refine R_p d100_11 rfl rfl ?_
          refine R_cm [.int v1, .int v2] d100_12 (List.mem_of_getElem? (i := 87) rfl) rfl ⟨by decide, by decide, Nat.le_of_ble_eq_true rfl, rfl, mcd39⟩ rfl rfl (Nat.le_of_ble_eq_true rfl) (hg21 _ _) rfl (t_f39 e5) ?_
          refine R_br 20 d100_15 (mb_t (b := (q4 = (0 : Int32))) c6) rfl ?_
          refine R_p d100_20 rfl rfl ?_
          refine R_get d100_21 (Or.inl (List.mem_of_getElem? (i := 43) rfl)) (hg16 _ _) rfl ?_
          refine R_p d100_24 rfl rfl ?_
          refine R_p d100_25 rfl rfl ?_
          refine R_cm [.int v1, .int v2] d100_26 (List.mem_of_getElem? (i := 88) rfl) rfl ⟨by decide, by decide, Nat.le_of_ble_eq_true rfl, rfl, mcd77⟩ rfl rfl (Nat.le_of_ble_eq_true rfl) (hg17 _ _) rfl (t_f77 e8) ?_
          refine R_nb d100_29 rfl (mb_f (b := (¬ q7 = (0 : Int32))) c9) ?_
          refine R_p d100_32 rfl rfl ?_
          refine R_get d100_33 (Or.inl (List.mem_of_getElem? (i := 44) rfl)) (hg16 _ _) rfl ?_
          refine R_p d100_36 rfl rfl ?_
          refine R_p d100_37 rfl rfl ?_
          refine R_cm [.int v1, .int v2] d100_38 (List.mem_of_getElem? (i := 90) rfl) rfl ⟨by decide, by decide, Nat.le_of_ble_eq_true rfl, rfl, mcd40⟩ rfl rfl (Nat.le_of_ble_eq_true rfl) (hg21 _ _) rfl (t_f40 e11) ?_
          refine R_br 46 d100_41 (mb_t (b := (q10 = (0 : Int32))) c12) rfl ?_
          refine R_p d100_46 rfl rfl ?_
          refine R_get d100_47 (Or.inl (List.mem_of_getElem? (i := 44) rfl)) (hg16 _ _) rfl ?_
          refine R_p d100_50 rfl rfl ?_
          refine R_p d100_51 rfl rfl ?_
          refine R_cm [.int v1, .int v2] d100_52 (List.mem_of_getElem? (i := 93) rfl) rfl ⟨by decide, by decide, Nat.le_of_ble_eq_true rfl, rfl, mcd42⟩ rfl rfl (Nat.le_of_ble_eq_true rfl) (hg21 _ _) rfl (t_f42 e14) ?_
          refine R_p d100_55 rfl rfl ?_
          refine R_get d100_56 (Or.inl (List.mem_of_getElem? (i := 46) rfl)) (hg16 _ _) rfl ?_
          refine R_p d100_59 rfl rfl ?_
          refine R_p d100_60 rfl rfl ?_
          refine R_cm [.int v1, .int v2] d100_61 (List.mem_of_getElem? (i := 94) rfl) rfl ⟨by decide, by decide, Nat.le_of_ble_eq_true rfl, rfl, mcd28⟩ rfl rfl (Nat.le_of_ble_eq_true rfl) (hg29 _ _) rfl (t_f28 e16) ?_
          refine R_ic (v := 1) d100_64 (by decide) ?_
          exact R_iret d100_65 rfl rfl rfl
        · skip
          cases h
          refine R_p d100_0 rfl rfl ?_
          refine R_p d100_1 rfl rfl ?_
          refine R_p d100_2 rfl rfl ?_
          refine R_cm [.int v1, .int v2] d100_3 (List.mem_of_getElem? (i := 85) rfl) rfl ⟨by decide, by decide, Nat.le_of_ble_eq_true rfl, rfl, mcd101⟩ rfl rfl (Nat.le_of_ble_eq_true rfl) (hg16 _ _) rfl (t_f101_n e2) ?_
          refine R_p d100_6 rfl rfl ?_
          refine R_get d100_7 (Or.inl (List.mem_of_getElem? (i := 44) rfl)) (hg16 _ _) rfl ?_
          refine R_p d100_10 rfl rfl ?_
          refine R_p d100_11 rfl rfl ?_
          refine R_cm [.int v1, .int v2] d100_12 (List.mem_of_getElem? (i := 87) rfl) rfl ⟨by decide, by decide, Nat.le_of_ble_eq_true rfl, rfl, mcd39⟩ rfl rfl (Nat.le_of_ble_eq_true rfl) (hg21 _ _) rfl (t_f39 e5) ?_
          refine R_br 20 d100_15 (mb_t (b := (q4 = (0 : Int32))) c6) rfl ?_
          refine R_p d100_20 rfl rfl ?_
          refine R_get d100_21 (Or.inl (List.mem_of_getElem? (i := 43) rfl)) (hg16 _ _) rfl ?_
          refine R_p d100_24 rfl rfl ?_
          refine R_p d100_25 rfl rfl ?_
          refine R_cm [.int v1, .int v2] d100_26 (List.mem_of_getElem? (i := 88) rfl) rfl ⟨by decide, by decide, Nat.le_of_ble_eq_true rfl, rfl, mcd77⟩ rfl rfl (Nat.le_of_ble_eq_true rfl) (hg17 _ _) rfl (t_f77 e8) ?_
          refine R_nb d100_29 rfl (mb_f (b := (¬ q7 = (0 : Int32))) c9) ?_
          refine R_p d100_32 rfl rfl ?_
          refine R_get d100_33 (Or.inl (List.mem_of_getElem? (i := 44) rfl)) (hg16 _ _) rfl ?_
          refine R_p d100_36 rfl rfl ?_
          refine R_p d100_37 rfl rfl ?_
          refine R_cm [.int v1, .int v2] d100_38 (List.mem_of_getElem? (i := 90) rfl) rfl ⟨by decide, by decide, Nat.le_of_ble_eq_true rfl, rfl, mcd40⟩ rfl rfl (Nat.le_of_ble_eq_true rfl) (hg21 _ _) rfl (t_f40 e11) ?_
          refine R_nb d100_41 rfl (mb_f (b := (q10 = (0 : Int32))) c12) ?_
          refine R_ic (v := 0) d100_44 (by decide) ?_
          exact R_iret d100_45 rfl rfl rfl
    · skip
      cases h
      refine R_p d100_0 rfl rfl ?_
      refine R_p d100_1 rfl rfl ?_
      refine R_p d100_2 rfl rfl ?_
      refine R_cm [.int v1, .int v2] d100_3 (List.mem_of_getElem? (i := 85) rfl) rfl ⟨by decide, by decide, Nat.le_of_ble_eq_true rfl, rfl, mcd101⟩ rfl rfl (Nat.le_of_ble_eq_true rfl) (hg16 _ _) rfl (t_f101_n e2) ?_
      refine R_p d100_6 rfl rfl ?_
      refine R_get d100_7 (Or.inl (List.mem_of_getElem? (i := 44) rfl)) (hg16 _ _) rfl ?_
      refine R_p d100_10 rfl rfl ?_
      refine R_p d100_11 rfl rfl ?_
      refine R_cm [.int v1, .int v2] d100_12 (List.mem_of_getElem? (i := 87) rfl) rfl ⟨by decide, by decide, Nat.le_of_ble_eq_true rfl, rfl, mcd39⟩ rfl rfl (Nat.le_of_ble_eq_true rfl) (hg21 _ _) rfl (t_f39 e5) ?_
      refine R_nb d100_15 rfl (mb_f (b := (q4 = (0 : Int32))) c6) ?_
      refine R_ic (v := 1) d100_18 (by decide) ?_
      exact R_iret d100_19 rfl rfl rfl
  · cases h
theorem t_f100_x {S : mE} {ex : mHp} {k : Nat} {v1 : Int32} {v2 : Int32} {s : mS} {c : Nat} (h : f100 k v1 v2 s = some (.inr c)) : Run S 100 (0, [(0, .ref 16), (1, .int v1), (2, .int v2)], [], hp s ex) (.inr (ex.length + 54), hp s (ex ++ [.inr (c, [])])) ∨ RunsP 100 (0, [(0, .ref 16), (1, .int v1), (2, .int v2)], [], hp s ex) (.inr (ex.length + 54), hp s (ex ++ [.inr (c, [])])) := by
  unfold f100 at h
  rcases bx_some h with ⟨q1, e2, h⟩ | ⟨c3, e2, h⟩
  · skip
    obtain ⟨q4, e5, h⟩ := bd_some h
    rcases ite_some h with ⟨c6, h⟩ | ⟨c6, h⟩
    · skip
      obtain ⟨q7, e8, h⟩ := bd_some h
      rcases ite_some h with ⟨c9, h⟩ | ⟨c9, h⟩
      · skip
        cases h
      · skip
        obtain ⟨q10, e11, h⟩ := bd_some h
        rcases ite_some h with ⟨c12, h⟩ | ⟨c12, h⟩
        · skip
          obtain ⟨q13, e14, h⟩ := bd_some h
          obtain ⟨q15, e16, h⟩ := bd_some h
          cases h
        · skip
          cases h
    · skip
      cases h
  · cases h
    refine Or.inl ?_
    refine R_p d100_0 rfl rfl ?_
    refine R_p d100_1 rfl rfl ?_
    refine R_p d100_2 rfl rfl ?_
    exact R_tv [.int v1, .int v2] d100_3 (List.mem_of_getElem? (i := 85) rfl) ⟨by decide, by decide, Nat.le_of_ble_eq_true rfl, mcd101⟩ rfl rfl (Nat.le_of_ble_eq_true rfl) (hg16 _ _) rfl rfl (t_f101_x e2)
def f103 (k : Nat) (v1 : Int32) (v2 : Int32) (s : mS) : Option ((Int32 × mS) ⊕ Nat) :=
  bx (f101 v1 v2 s) fun q1 => (f39 v1 v2 s).bind fun q4 => (if (¬ q4 = (0 : Int32)) then
      (f43 v1 v2 s).bind fun q7 => (f34 k v1 v2 q7).bind fun q9 => some (.inl ((1 : Int32), q9))
    else
      some (.inl ((0 : Int32), s)))
theorem t_f103_n {S : mE} {ex : mHp} {k : Nat} {v1 : Int32} {v2 : Int32} {s : mS} {r : Int32 × mS} (h : f103 k v1 v2 s = some (.inl r)) : Run S 103 (0, [(0, .ref 16), (1, .int v1), (2, .int v2)], [], hp s ex) (.inl (some (.int r.1)), hp r.2 ex) := by
  unfold f103 at h
  rcases bx_some h with ⟨q1, e2, h⟩ | ⟨c3, e2, h⟩
  · skip
    obtain ⟨q4, e5, h⟩ := bd_some h
    rcases ite_some h with ⟨c6, h⟩ | ⟨c6, h⟩
    · skip
      obtain ⟨q7, e8, h⟩ := bd_some h
      obtain ⟨q9, e10, h⟩ := bd_some h
      cases h
      refine R_p d103_0 rfl rfl ?_
      refine R_p d103_1 rfl rfl ?_
      refine R_p d103_2 rfl rfl ?_
      refine R_cm [.int v1, .int v2] d103_3 (List.mem_of_getElem? (i := 85) rfl) rfl ⟨by decide, by decide, Nat.le_of_ble_eq_true rfl, rfl, mcd101⟩ rfl rfl (Nat.le_of_ble_eq_true rfl) (hg16 _ _) rfl (t_f101_n e2) ?_
      refine R_p d103_6 rfl rfl ?_
      refine R_get d103_7 (Or.inl (List.mem_of_getElem? (i := 44) rfl)) (hg16 _ _) rfl ?_
      refine R_p d103_10 rfl rfl ?_
      refine R_p d103_11 rfl rfl ?_
      refine R_cm [.int v1, .int v2] d103_12 (List.mem_of_getElem? (i := 87) rfl) rfl ⟨by decide, by decide, Nat.le_of_ble_eq_true rfl, rfl, mcd39⟩ rfl rfl (Nat.le_of_ble_eq_true rfl) (hg21 _ _) rfl (t_f39 e5) ?_
      refine R_br 20 d103_15 (mb_t (b := (¬ q4 = (0 : Int32))) c6) rfl ?_
      refine R_p d103_20 rfl rfl ?_
      refine R_get d103_21 (Or.inl (List.mem_of_getElem? (i := 44) rfl)) (hg16 _ _) rfl ?_
      refine R_p d103_24 rfl rfl ?_
      refine R_p d103_25 rfl rfl ?_
      refine R_cm [.int v1, .int v2] d103_26 (List.mem_of_getElem? (i := 106) rfl) rfl ⟨by decide, by decide, Nat.le_of_ble_eq_true rfl, rfl, mcd43⟩ rfl rfl (Nat.le_of_ble_eq_true rfl) (hg21 _ _) rfl (t_f43 e8) ?_
      refine R_p d103_29 rfl rfl ?_
      refine R_get d103_30 (Or.inl (List.mem_of_getElem? (i := 46) rfl)) (hg16 _ _) rfl ?_
      refine R_p d103_33 rfl rfl ?_
      refine R_p d103_34 rfl rfl ?_
      refine R_cm [.int v1, .int v2] d103_35 (List.mem_of_getElem? (i := 107) rfl) rfl ⟨by decide, by decide, Nat.le_of_ble_eq_true rfl, rfl, mcd34⟩ rfl rfl (Nat.le_of_ble_eq_true rfl) (hg29 _ _) rfl (t_f34 e10) ?_
      refine R_ic (v := 1) d103_38 (by decide) ?_
      exact R_iret d103_39 rfl rfl rfl
    · skip
      cases h
      refine R_p d103_0 rfl rfl ?_
      refine R_p d103_1 rfl rfl ?_
      refine R_p d103_2 rfl rfl ?_
      refine R_cm [.int v1, .int v2] d103_3 (List.mem_of_getElem? (i := 85) rfl) rfl ⟨by decide, by decide, Nat.le_of_ble_eq_true rfl, rfl, mcd101⟩ rfl rfl (Nat.le_of_ble_eq_true rfl) (hg16 _ _) rfl (t_f101_n e2) ?_
      refine R_p d103_6 rfl rfl ?_
      refine R_get d103_7 (Or.inl (List.mem_of_getElem? (i := 44) rfl)) (hg16 _ _) rfl ?_
      refine R_p d103_10 rfl rfl ?_
      refine R_p d103_11 rfl rfl ?_
      refine R_cm [.int v1, .int v2] d103_12 (List.mem_of_getElem? (i := 87) rfl) rfl ⟨by decide, by decide, Nat.le_of_ble_eq_true rfl, rfl, mcd39⟩ rfl rfl (Nat.le_of_ble_eq_true rfl) (hg21 _ _) rfl (t_f39 e5) ?_
      refine R_nb d103_15 rfl (mb_f (b := (¬ q4 = (0 : Int32))) c6) ?_
      refine R_ic (v := 0) d103_18 (by decide) ?_
      exact R_iret d103_19 rfl rfl rfl
  · cases h
theorem t_f103_x {S : mE} {ex : mHp} {k : Nat} {v1 : Int32} {v2 : Int32} {s : mS} {c : Nat} (h : f103 k v1 v2 s = some (.inr c)) : Run S 103 (0, [(0, .ref 16), (1, .int v1), (2, .int v2)], [], hp s ex) (.inr (ex.length + 54), hp s (ex ++ [.inr (c, [])])) ∨ RunsP 103 (0, [(0, .ref 16), (1, .int v1), (2, .int v2)], [], hp s ex) (.inr (ex.length + 54), hp s (ex ++ [.inr (c, [])])) := by
  unfold f103 at h
  rcases bx_some h with ⟨q1, e2, h⟩ | ⟨c3, e2, h⟩
  · skip
    obtain ⟨q4, e5, h⟩ := bd_some h
    rcases ite_some h with ⟨c6, h⟩ | ⟨c6, h⟩
    · skip
      obtain ⟨q7, e8, h⟩ := bd_some h
      obtain ⟨q9, e10, h⟩ := bd_some h
      cases h
    · skip
      cases h
  · cases h
    refine Or.inl ?_
    refine R_p d103_0 rfl rfl ?_
    refine R_p d103_1 rfl rfl ?_
    refine R_p d103_2 rfl rfl ?_
    exact R_tv [.int v1, .int v2] d103_3 (List.mem_of_getElem? (i := 85) rfl) ⟨by decide, by decide, Nat.le_of_ble_eq_true rfl, mcd101⟩ rfl rfl (Nat.le_of_ble_eq_true rfl) (hg16 _ _) rfl rfl (t_f101_x e2)
def f104 (v1 : Int32) (v2 : Int32) (s : mS) : Option ((Int32) ⊕ Nat) :=
  bx (f105 v1 v2 s) fun q1 => (f52 v1 v2 s).bind fun q4 => some (.inl q4)
theorem t_f104_n {S : mE} {ex : mHp} {v1 : Int32} {v2 : Int32} {s : mS} {r : Int32} (h : f104 v1 v2 s = some (.inl r)) : Run S 104 (0, [(0, .ref 16), (1, .int v1), (2, .int v2)], [], hp s ex) (.inl (some (.int r)), hp s ex) := by
  unfold f104 at h
  rcases bx_some h with ⟨q1, e2, h⟩ | ⟨c3, e2, h⟩
  · skip
    obtain ⟨q4, e5, h⟩ := bd_some h
    cases h
    refine R_p d104_0 rfl rfl ?_
    refine R_p d104_1 rfl rfl ?_
    refine R_p d104_2 rfl rfl ?_
    refine R_cm [.int v1, .int v2] d104_3 (List.mem_of_getElem? (i := 110) rfl) rfl ⟨by decide, by decide, Nat.le_of_ble_eq_true rfl, rfl, mcd105⟩ rfl rfl (Nat.le_of_ble_eq_true rfl) (hg16 _ _) rfl (t_f105_n e2) ?_
    refine R_p d104_6 rfl rfl ?_
    refine R_get d104_7 (Or.inl (List.mem_of_getElem? (i := 45) rfl)) (hg16 _ _) rfl ?_
    refine R_p d104_10 rfl rfl ?_
    refine R_p d104_11 rfl rfl ?_
    refine R_cm [.int v1, .int v2] d104_12 (List.mem_of_getElem? (i := 111) rfl) rfl ⟨by decide, by decide, Nat.le_of_ble_eq_true rfl, rfl, mcd52⟩ rfl rfl (Nat.le_of_ble_eq_true rfl) (hg23 _ _) rfl (t_f52 e5) ?_
    exact R_iret d104_15 rfl rfl rfl
  · cases h
theorem t_f104_x {S : mE} {ex : mHp} {v1 : Int32} {v2 : Int32} {s : mS} {c : Nat} (h : f104 v1 v2 s = some (.inr c)) : Run S 104 (0, [(0, .ref 16), (1, .int v1), (2, .int v2)], [], hp s ex) (.inr (ex.length + 54), hp s (ex ++ [.inr (c, [])])) ∨ RunsP 104 (0, [(0, .ref 16), (1, .int v1), (2, .int v2)], [], hp s ex) (.inr (ex.length + 54), hp s (ex ++ [.inr (c, [])])) := by
  unfold f104 at h
  rcases bx_some h with ⟨q1, e2, h⟩ | ⟨c3, e2, h⟩
  · skip
    obtain ⟨q4, e5, h⟩ := bd_some h
    cases h
  · cases h
    refine Or.inl ?_
    refine R_p d104_0 rfl rfl ?_
    refine R_p d104_1 rfl rfl ?_
    refine R_p d104_2 rfl rfl ?_
    exact R_tv [.int v1, .int v2] d104_3 (List.mem_of_getElem? (i := 110) rfl) ⟨by decide, by decide, Nat.le_of_ble_eq_true rfl, mcd105⟩ rfl rfl (Nat.le_of_ble_eq_true rfl) (hg16 _ _) rfl rfl (t_f105_x e2)
def f106 (v1 : Int32) (v2 : Int32) (s : mS) : Option ((Int32) ⊕ Nat) :=
  bx (f105 v1 v2 s) fun q1 => (f63 v1 v2 s).bind fun q4 => some (.inl q4)
theorem t_f106_n {S : mE} {ex : mHp} {v1 : Int32} {v2 : Int32} {s : mS} {r : Int32} (h : f106 v1 v2 s = some (.inl r)) : Run S 106 (0, [(0, .ref 16), (1, .int v1), (2, .int v2)], [], hp s ex) (.inl (some (.int r)), hp s ex) := by
  unfold f106 at h
  rcases bx_some h with ⟨q1, e2, h⟩ | ⟨c3, e2, h⟩
  · skip
    obtain ⟨q4, e5, h⟩ := bd_some h
    cases h
    refine R_p d106_0 rfl rfl ?_
    refine R_p d106_1 rfl rfl ?_
    refine R_p d106_2 rfl rfl ?_
    refine R_cm [.int v1, .int v2] d106_3 (List.mem_of_getElem? (i := 110) rfl) rfl ⟨by decide, by decide, Nat.le_of_ble_eq_true rfl, rfl, mcd105⟩ rfl rfl (Nat.le_of_ble_eq_true rfl) (hg16 _ _) rfl (t_f105_n e2) ?_
    refine R_p d106_6 rfl rfl ?_
    refine R_get d106_7 (Or.inl (List.mem_of_getElem? (i := 45) rfl)) (hg16 _ _) rfl ?_
    refine R_p d106_10 rfl rfl ?_
    refine R_p d106_11 rfl rfl ?_
    refine R_cm [.int v1, .int v2] d106_12 (List.mem_of_getElem? (i := 114) rfl) rfl ⟨by decide, by decide, Nat.le_of_ble_eq_true rfl, rfl, mcd63⟩ rfl rfl (Nat.le_of_ble_eq_true rfl) (hg23 _ _) rfl (t_f63 e5) ?_
    exact R_iret d106_15 rfl rfl rfl
  · cases h
theorem t_f106_x {S : mE} {ex : mHp} {v1 : Int32} {v2 : Int32} {s : mS} {c : Nat} (h : f106 v1 v2 s = some (.inr c)) : Run S 106 (0, [(0, .ref 16), (1, .int v1), (2, .int v2)], [], hp s ex) (.inr (ex.length + 54), hp s (ex ++ [.inr (c, [])])) ∨ RunsP 106 (0, [(0, .ref 16), (1, .int v1), (2, .int v2)], [], hp s ex) (.inr (ex.length + 54), hp s (ex ++ [.inr (c, [])])) := by
  unfold f106 at h
  rcases bx_some h with ⟨q1, e2, h⟩ | ⟨c3, e2, h⟩
  · skip
    obtain ⟨q4, e5, h⟩ := bd_some h
    cases h
  · cases h
    refine Or.inl ?_
    refine R_p d106_0 rfl rfl ?_
    refine R_p d106_1 rfl rfl ?_
    refine R_p d106_2 rfl rfl ?_
    exact R_tv [.int v1, .int v2] d106_3 (List.mem_of_getElem? (i := 110) rfl) ⟨by decide, by decide, Nat.le_of_ble_eq_true rfl, mcd105⟩ rfl rfl (Nat.le_of_ble_eq_true rfl) (hg16 _ _) rfl rfl (t_f105_x e2)
def f107 (v1 : Int32) (v2 : Int32) (s : mS) : Option ((Int32) ⊕ Nat) :=
  bx (f101 v1 v2 s) fun q1 => (f62 v1 v2 s).bind fun q4 => (if (¬ q4 = (0 : Int32)) then
      (f39 v1 v2 s).bind fun q7 => (if (q7 = (0 : Int32)) then
        some (.inl (1 : Int32))
      else
        some (.inl (2 : Int32)))
    else
      some (.inl (0 : Int32)))
theorem t_f107_n {S : mE} {ex : mHp} {v1 : Int32} {v2 : Int32} {s : mS} {r : Int32} (h : f107 v1 v2 s = some (.inl r)) : Run S 107 (0, [(0, .ref 16), (1, .int v1), (2, .int v2)], [], hp s ex) (.inl (some (.int r)), hp s ex) := by
  unfold f107 at h
  rcases bx_some h with ⟨q1, e2, h⟩ | ⟨c3, e2, h⟩
  · skip
    obtain ⟨q4, e5, h⟩ := bd_some h
    rcases ite_some h with ⟨c6, h⟩ | ⟨c6, h⟩
    · skip
      obtain ⟨q7, e8, h⟩ := bd_some h
      rcases ite_some h with ⟨c9, h⟩ | ⟨c9, h⟩
      · skip
        cases h
        refine R_p d107_0 rfl rfl ?_
        refine R_p d107_1 rfl rfl ?_
        refine R_p d107_2 rfl rfl ?_
        refine R_cm [.int v1, .int v2] d107_3 (List.mem_of_getElem? (i := 85) rfl) rfl ⟨by decide, by decide, Nat.le_of_ble_eq_true rfl, rfl, mcd101⟩ rfl rfl (Nat.le_of_ble_eq_true rfl) (hg16 _ _) rfl (t_f101_n e2) ?_
        refine R_p d107_6 rfl rfl ?_
        refine R_get d107_7 (Or.inl (List.mem_of_getElem? (i := 45) rfl)) (hg16 _ _) rfl ?_
        refine R_p d107_10 rfl rfl ?_
        refine R_p d107_11 rfl rfl ?_
        refine R_cm [.int v1, .int v2] d107_12 (List.mem_of_getElem? (i := 117) rfl) rfl ⟨by decide, by decide, Nat.le_of_ble_eq_true rfl, rfl, mcd62⟩ rfl rfl (Nat.le_of_ble_eq_true rfl) (hg23 _ _) rfl (t_f62 e5) ?_
        refine R_br 20 d107_15 (mb_t (b := (¬ q4 = (0 : Int32))) c6) rfl ?_
        refine R_p d107_20 rfl rfl ?_
        refine R_get d107_21 (Or.inl (List.mem_of_getElem? (i := 44) rfl)) (hg16 _ _) rfl ?_
        refine R_p d107_24 rfl rfl ?_
        refine R_p d107_25 rfl rfl ?_
        refine R_cm [.int v1, .int v2] d107_26 (List.mem_of_getElem? (i := 87) rfl) rfl ⟨by decide, by decide, Nat.le_of_ble_eq_true rfl, rfl, mcd39⟩ rfl rfl (Nat.le_of_ble_eq_true rfl) (hg21 _ _) rfl (t_f39 e8) ?_
        refine R_br 36 d107_29 (mb_t (b := (q7 = (0 : Int32))) c9) rfl ?_
        refine R_ic (v := 1) d107_36 (by decide) ?_
        exact R_iret d107_37 rfl rfl rfl
      · skip
        cases h
        refine R_p d107_0 rfl rfl ?_
        refine R_p d107_1 rfl rfl ?_
        refine R_p d107_2 rfl rfl ?_
        refine R_cm [.int v1, .int v2] d107_3 (List.mem_of_getElem? (i := 85) rfl) rfl ⟨by decide, by decide, Nat.le_of_ble_eq_true rfl, rfl, mcd101⟩ rfl rfl (Nat.le_of_ble_eq_true rfl) (hg16 _ _) rfl (t_f101_n e2) ?_
        refine R_p d107_6 rfl rfl ?_
        refine R_get d107_7 (Or.inl (List.mem_of_getElem? (i := 45) rfl)) (hg16 _ _) rfl ?_
        refine R_p d107_10 rfl rfl ?_
        refine R_p d107_11 rfl rfl ?_
        refine R_cm [.int v1, .int v2] d107_12 (List.mem_of_getElem? (i := 117) rfl) rfl ⟨by decide, by decide, Nat.le_of_ble_eq_true rfl, rfl, mcd62⟩ rfl rfl (Nat.le_of_ble_eq_true rfl) (hg23 _ _) rfl (t_f62 e5) ?_
        refine R_br 20 d107_15 (mb_t (b := (¬ q4 = (0 : Int32))) c6) rfl ?_
        refine R_p d107_20 rfl rfl ?_
        refine R_get d107_21 (Or.inl (List.mem_of_getElem? (i := 44) rfl)) (hg16 _ _) rfl ?_
        refine R_p d107_24 rfl rfl ?_
        refine R_p d107_25 rfl rfl ?_
        refine R_cm [.int v1, .int v2] d107_26 (List.mem_of_getElem? (i := 87) rfl) rfl ⟨by decide, by decide, Nat.le_of_ble_eq_true rfl, rfl, mcd39⟩ rfl rfl (Nat.le_of_ble_eq_true rfl) (hg21 _ _) rfl (t_f39 e8) ?_
        refine R_nb d107_29 rfl (mb_f (b := (q7 = (0 : Int32))) c9) ?_
        refine R_ic (v := 2) d107_32 (by decide) ?_
        refine R_br 37 d107_33 rfl rfl ?_
        exact R_iret d107_37 rfl rfl rfl
    · skip
      cases h
      refine R_p d107_0 rfl rfl ?_
      refine R_p d107_1 rfl rfl ?_
      refine R_p d107_2 rfl rfl ?_
      refine R_cm [.int v1, .int v2] d107_3 (List.mem_of_getElem? (i := 85) rfl) rfl ⟨by decide, by decide, Nat.le_of_ble_eq_true rfl, rfl, mcd101⟩ rfl rfl (Nat.le_of_ble_eq_true rfl) (hg16 _ _) rfl (t_f101_n e2) ?_
      refine R_p d107_6 rfl rfl ?_
      refine R_get d107_7 (Or.inl (List.mem_of_getElem? (i := 45) rfl)) (hg16 _ _) rfl ?_
      refine R_p d107_10 rfl rfl ?_
      refine R_p d107_11 rfl rfl ?_
      refine R_cm [.int v1, .int v2] d107_12 (List.mem_of_getElem? (i := 117) rfl) rfl ⟨by decide, by decide, Nat.le_of_ble_eq_true rfl, rfl, mcd62⟩ rfl rfl (Nat.le_of_ble_eq_true rfl) (hg23 _ _) rfl (t_f62 e5) ?_
      refine R_nb d107_15 rfl (mb_f (b := (¬ q4 = (0 : Int32))) c6) ?_
      refine R_ic (v := 0) d107_18 (by decide) ?_
      exact R_iret d107_19 rfl rfl rfl
  · cases h
theorem t_f107_x {S : mE} {ex : mHp} {v1 : Int32} {v2 : Int32} {s : mS} {c : Nat} (h : f107 v1 v2 s = some (.inr c)) : Run S 107 (0, [(0, .ref 16), (1, .int v1), (2, .int v2)], [], hp s ex) (.inr (ex.length + 54), hp s (ex ++ [.inr (c, [])])) ∨ RunsP 107 (0, [(0, .ref 16), (1, .int v1), (2, .int v2)], [], hp s ex) (.inr (ex.length + 54), hp s (ex ++ [.inr (c, [])])) := by
  unfold f107 at h
  rcases bx_some h with ⟨q1, e2, h⟩ | ⟨c3, e2, h⟩
  · skip
    obtain ⟨q4, e5, h⟩ := bd_some h
    rcases ite_some h with ⟨c6, h⟩ | ⟨c6, h⟩
    · skip
      obtain ⟨q7, e8, h⟩ := bd_some h
      rcases ite_some h with ⟨c9, h⟩ | ⟨c9, h⟩
      · skip
        cases h
      · skip
        cases h
    · skip
      cases h
  · cases h
    refine Or.inl ?_
    refine R_p d107_0 rfl rfl ?_
    refine R_p d107_1 rfl rfl ?_
    refine R_p d107_2 rfl rfl ?_
    exact R_tv [.int v1, .int v2] d107_3 (List.mem_of_getElem? (i := 85) rfl) ⟨by decide, by decide, Nat.le_of_ble_eq_true rfl, mcd101⟩ rfl rfl (Nat.le_of_ble_eq_true rfl) (hg16 _ _) rfl rfl (t_f101_x e2)
def f108 (v1 : Int32) (v2 : Int32) (v3 : Int32) (s : mS) : Option ((Int32) ⊕ Nat) :=
  bx (f102 v1 s) fun q1 => bx (f102 v2 s) fun q4 => bx (f102 v3 s) fun q7 => (f73 v1 v2 v3 s).bind fun q10 => some (.inl q10)
theorem t_f108_n {S : mE} {ex : mHp} {v1 : Int32} {v2 : Int32} {v3 : Int32} {s : mS} {r : Int32} (h : f108 v1 v2 v3 s = some (.inl r)) : Run S 108 (0, [(0, .ref 16), (1, .int v1), (2, .int v2), (3, .int v3)], [], hp s ex) (.inl (some (.int r)), hp s ex) := by
  unfold f108 at h
  rcases bx_some h with ⟨q1, e2, h⟩ | ⟨c3, e2, h⟩
  · skip
    rcases bx_some h with ⟨q4, e5, h⟩ | ⟨c6, e5, h⟩
    · skip
      rcases bx_some h with ⟨q7, e8, h⟩ | ⟨c9, e8, h⟩
      · skip
        obtain ⟨q10, e11, h⟩ := bd_some h
        cases h
        refine R_p d108_0 rfl rfl ?_
        refine R_p d108_1 rfl rfl ?_
        refine R_cm [.int v1] d108_2 (List.mem_of_getElem? (i := 86) rfl) rfl ⟨by decide, by decide, Nat.le_of_ble_eq_true rfl, rfl, mcd102⟩ rfl rfl (Nat.le_of_ble_eq_true rfl) (hg16 _ _) rfl (t_f102_n e2) ?_
        refine R_p d108_5 rfl rfl ?_
        refine R_p d108_6 rfl rfl ?_
        refine R_cm [.int v2] d108_7 (List.mem_of_getElem? (i := 86) rfl) rfl ⟨by decide, by decide, Nat.le_of_ble_eq_true rfl, rfl, mcd102⟩ rfl rfl (Nat.le_of_ble_eq_true rfl) (hg16 _ _) rfl (t_f102_n e5) ?_
        refine R_p d108_10 rfl rfl ?_
        refine R_p d108_11 rfl rfl ?_
        refine R_cm [.int v3] d108_12 (List.mem_of_getElem? (i := 86) rfl) rfl ⟨by decide, by decide, Nat.le_of_ble_eq_true rfl, rfl, mcd102⟩ rfl rfl (Nat.le_of_ble_eq_true rfl) (hg16 _ _) rfl (t_f102_n e8) ?_
        refine R_p d108_15 rfl rfl ?_
        refine R_get d108_16 (Or.inl (List.mem_of_getElem? (i := 43) rfl)) (hg16 _ _) rfl ?_
        refine R_p d108_19 rfl rfl ?_
        refine R_p d108_20 rfl rfl ?_
        refine R_p d108_21 rfl rfl ?_
        refine R_cm [.int v1, .int v2, .int v3] d108_22 (List.mem_of_getElem? (i := 120) rfl) rfl ⟨by decide, by decide, Nat.le_of_ble_eq_true rfl, rfl, mcd73⟩ rfl rfl (Nat.le_of_ble_eq_true rfl) (hg17 _ _) rfl (t_f73 e11) ?_
        exact R_iret d108_25 rfl rfl rfl
      · cases h
    · cases h
  · cases h
theorem t_f108_x {S : mE} {ex : mHp} {v1 : Int32} {v2 : Int32} {v3 : Int32} {s : mS} {c : Nat} (h : f108 v1 v2 v3 s = some (.inr c)) : Run S 108 (0, [(0, .ref 16), (1, .int v1), (2, .int v2), (3, .int v3)], [], hp s ex) (.inr (ex.length + 54), hp s (ex ++ [.inr (c, [])])) ∨ RunsP 108 (0, [(0, .ref 16), (1, .int v1), (2, .int v2), (3, .int v3)], [], hp s ex) (.inr (ex.length + 54), hp s (ex ++ [.inr (c, [])])) := by
  unfold f108 at h
  rcases bx_some h with ⟨q1, e2, h⟩ | ⟨c3, e2, h⟩
  · skip
    rcases bx_some h with ⟨q4, e5, h⟩ | ⟨c6, e5, h⟩
    · skip
      rcases bx_some h with ⟨q7, e8, h⟩ | ⟨c9, e8, h⟩
      · skip
        obtain ⟨q10, e11, h⟩ := bd_some h
        cases h
      · cases h
        refine Or.inl ?_
        refine R_p d108_0 rfl rfl ?_
        refine R_p d108_1 rfl rfl ?_
        refine R_cm [.int v1] d108_2 (List.mem_of_getElem? (i := 86) rfl) rfl ⟨by decide, by decide, Nat.le_of_ble_eq_true rfl, rfl, mcd102⟩ rfl rfl (Nat.le_of_ble_eq_true rfl) (hg16 _ _) rfl (t_f102_n e2) ?_
        refine R_p d108_5 rfl rfl ?_
        refine R_p d108_6 rfl rfl ?_
        refine R_cm [.int v2] d108_7 (List.mem_of_getElem? (i := 86) rfl) rfl ⟨by decide, by decide, Nat.le_of_ble_eq_true rfl, rfl, mcd102⟩ rfl rfl (Nat.le_of_ble_eq_true rfl) (hg16 _ _) rfl (t_f102_n e5) ?_
        refine R_p d108_10 rfl rfl ?_
        refine R_p d108_11 rfl rfl ?_
        exact R_tv [.int v3] d108_12 (List.mem_of_getElem? (i := 86) rfl) ⟨by decide, by decide, Nat.le_of_ble_eq_true rfl, mcd102⟩ rfl rfl (Nat.le_of_ble_eq_true rfl) (hg16 _ _) rfl rfl (t_f102_x e8)
    · cases h
      refine Or.inl ?_
      refine R_p d108_0 rfl rfl ?_
      refine R_p d108_1 rfl rfl ?_
      refine R_cm [.int v1] d108_2 (List.mem_of_getElem? (i := 86) rfl) rfl ⟨by decide, by decide, Nat.le_of_ble_eq_true rfl, rfl, mcd102⟩ rfl rfl (Nat.le_of_ble_eq_true rfl) (hg16 _ _) rfl (t_f102_n e2) ?_
      refine R_p d108_5 rfl rfl ?_
      refine R_p d108_6 rfl rfl ?_
      exact R_tv [.int v2] d108_7 (List.mem_of_getElem? (i := 86) rfl) ⟨by decide, by decide, Nat.le_of_ble_eq_true rfl, mcd102⟩ rfl rfl (Nat.le_of_ble_eq_true rfl) (hg16 _ _) rfl rfl (t_f102_x e5)
  · cases h
    refine Or.inl ?_
    refine R_p d108_0 rfl rfl ?_
    refine R_p d108_1 rfl rfl ?_
    exact R_tv [.int v1] d108_2 (List.mem_of_getElem? (i := 86) rfl) ⟨by decide, by decide, Nat.le_of_ble_eq_true rfl, mcd102⟩ rfl rfl (Nat.le_of_ble_eq_true rfl) (hg16 _ _) rfl rfl (t_f102_x e2)
def f109 (v1 : Int32) (v2 : Int32) (v3 : Int32) (v4 : Int32) (s : mS) : Option ((Int32 × mS) ⊕ Nat) :=
  bx (f102 v1 s) fun q1 => bx (f102 v2 s) fun q4 => bx (f102 v3 s) fun q7 => bx (f102 v4 s) fun q10 => (f73 v1 v2 v3 s).bind fun q13 => (if (¬ q13 = (0 : Int32)) then
            (f75 v1 v2 v3 v4 s).bind fun q16 => some (.inl ((q13 * q16.1), q16.2))
          else
            some (.inr 10))
theorem t_f109_n {S : mE} {ex : mHp} {v1 : Int32} {v2 : Int32} {v3 : Int32} {v4 : Int32} {s : mS} {r : Int32 × mS} (h : f109 v1 v2 v3 v4 s = some (.inl r)) : Run S 109 (0, [(0, .ref 16), (1, .int v1), (2, .int v2), (3, .int v3), (4, .int v4)], [], hp s ex) (.inl (some (.int r.1)), hp r.2 ex) := by
  unfold f109 at h
  rcases bx_some h with ⟨q1, e2, h⟩ | ⟨c3, e2, h⟩
  · skip
    rcases bx_some h with ⟨q4, e5, h⟩ | ⟨c6, e5, h⟩
    · skip
      rcases bx_some h with ⟨q7, e8, h⟩ | ⟨c9, e8, h⟩
      · skip
        rcases bx_some h with ⟨q10, e11, h⟩ | ⟨c12, e11, h⟩
        · skip
          obtain ⟨q13, e14, h⟩ := bd_some h
          rcases ite_some h with ⟨c15, h⟩ | ⟨c15, h⟩
          · skip
            obtain ⟨q16, e17, h⟩ := bd_some h
            cases h
            refine R_p d109_0 rfl rfl ?_
            refine R_p d109_1 rfl rfl ?_
            refine R_cm [.int v1] d109_2 (List.mem_of_getElem? (i := 86) rfl) rfl ⟨by decide, by decide, Nat.le_of_ble_eq_true rfl, rfl, mcd102⟩ rfl rfl (Nat.le_of_ble_eq_true rfl) (hg16 _ _) rfl (t_f102_n e2) ?_
            refine R_p d109_5 rfl rfl ?_
            refine R_p d109_6 rfl rfl ?_
            refine R_cm [.int v2] d109_7 (List.mem_of_getElem? (i := 86) rfl) rfl ⟨by decide, by decide, Nat.le_of_ble_eq_true rfl, rfl, mcd102⟩ rfl rfl (Nat.le_of_ble_eq_true rfl) (hg16 _ _) rfl (t_f102_n e5) ?_
            refine R_p d109_10 rfl rfl ?_
            refine R_p d109_11 rfl rfl ?_
            refine R_cm [.int v3] d109_12 (List.mem_of_getElem? (i := 86) rfl) rfl ⟨by decide, by decide, Nat.le_of_ble_eq_true rfl, rfl, mcd102⟩ rfl rfl (Nat.le_of_ble_eq_true rfl) (hg16 _ _) rfl (t_f102_n e8) ?_
            refine R_p d109_15 rfl rfl ?_
            refine R_p d109_16 rfl rfl ?_
            refine R_cm [.int v4] d109_18 (List.mem_of_getElem? (i := 86) rfl) rfl ⟨by decide, by decide, Nat.le_of_ble_eq_true rfl, rfl, mcd102⟩ rfl rfl (Nat.le_of_ble_eq_true rfl) (hg16 _ _) rfl (t_f102_n e11) ?_
            refine R_p d109_21 rfl rfl ?_
            refine R_get d109_22 (Or.inl (List.mem_of_getElem? (i := 43) rfl)) (hg16 _ _) rfl ?_
            refine R_p d109_25 rfl rfl ?_
            refine R_p d109_26 rfl rfl ?_
            refine R_p d109_27 rfl rfl ?_
            refine R_cm [.int v1, .int v2, .int v3] d109_28 (List.mem_of_getElem? (i := 120) rfl) rfl ⟨by decide, by decide, Nat.le_of_ble_eq_true rfl, rfl, mcd73⟩ rfl rfl (Nat.le_of_ble_eq_true rfl) (hg17 _ _) rfl (t_f73 e14) ?_
            refine R_p (ls' := [(0, .ref 16), (1, .int v1), (2, .int v2), (3, .int v3), (4, .int v4), (5, .int q13)]) d109_31 rfl rfl ?_
            refine R_p d109_33 rfl rfl ?_
            refine R_br 48 d109_35 (mb_t (b := (¬ q13 = (0 : Int32))) c15) rfl ?_
            refine R_p d109_48 rfl rfl ?_
            refine R_p d109_50 rfl rfl ?_
            refine R_get d109_51 (Or.inl (List.mem_of_getElem? (i := 43) rfl)) (hg16 _ _) rfl ?_
            refine R_p d109_54 rfl rfl ?_
            refine R_p d109_55 rfl rfl ?_
            refine R_p d109_56 rfl rfl ?_
            refine R_p d109_57 rfl rfl ?_
            refine R_cm [.int v1, .int v2, .int v3, .int v4] d109_59 (List.mem_of_getElem? (i := 123) rfl) rfl ⟨by decide, by decide, Nat.le_of_ble_eq_true rfl, rfl, mcd75⟩ rfl rfl (Nat.le_of_ble_eq_true rfl) (hg17 _ _) rfl (t_f75 e17) ?_
            refine R_p d109_62 rfl rfl ?_
            exact R_iret d109_63 rfl rfl rfl
          · skip
            cases h
        · cases h
      · cases h
    · cases h
  · cases h
theorem t_f109_x {S : mE} {ex : mHp} {v1 : Int32} {v2 : Int32} {v3 : Int32} {v4 : Int32} {s : mS} {c : Nat} (h : f109 v1 v2 v3 v4 s = some (.inr c)) : Run S 109 (0, [(0, .ref 16), (1, .int v1), (2, .int v2), (3, .int v3), (4, .int v4)], [], hp s ex) (.inr (ex.length + 54), hp s (ex ++ [.inr (c, [])])) ∨ RunsP 109 (0, [(0, .ref 16), (1, .int v1), (2, .int v2), (3, .int v3), (4, .int v4)], [], hp s ex) (.inr (ex.length + 54), hp s (ex ++ [.inr (c, [])])) := by
  unfold f109 at h
  rcases bx_some h with ⟨q1, e2, h⟩ | ⟨c3, e2, h⟩
  · skip
    rcases bx_some h with ⟨q4, e5, h⟩ | ⟨c6, e5, h⟩
    · skip
      rcases bx_some h with ⟨q7, e8, h⟩ | ⟨c9, e8, h⟩
      · skip
        rcases bx_some h with ⟨q10, e11, h⟩ | ⟨c12, e11, h⟩
        · skip
          obtain ⟨q13, e14, h⟩ := bd_some h
          rcases ite_some h with ⟨c15, h⟩ | ⟨c15, h⟩
          · skip
            obtain ⟨q16, e17, h⟩ := bd_some h
            cases h
          · skip
            cases h
            refine Or.inr ?_
            refine Q_p d109_0 rfl rfl ?_
            refine Q_p d109_1 rfl rfl ?_
            refine Q_cm [.int v1] d109_2 (List.mem_of_getElem? (i := 86) rfl) rfl ⟨by decide, by decide, Nat.le_of_ble_eq_true rfl, rfl, mcd102⟩ rfl rfl (Nat.le_of_ble_eq_true rfl) (hg16 _ _) rfl (tq_f102_n e2) ?_
            refine Q_p d109_5 rfl rfl ?_
            refine Q_p d109_6 rfl rfl ?_
            refine Q_cm [.int v2] d109_7 (List.mem_of_getElem? (i := 86) rfl) rfl ⟨by decide, by decide, Nat.le_of_ble_eq_true rfl, rfl, mcd102⟩ rfl rfl (Nat.le_of_ble_eq_true rfl) (hg16 _ _) rfl (tq_f102_n e5) ?_
            refine Q_p d109_10 rfl rfl ?_
            refine Q_p d109_11 rfl rfl ?_
            refine Q_cm [.int v3] d109_12 (List.mem_of_getElem? (i := 86) rfl) rfl ⟨by decide, by decide, Nat.le_of_ble_eq_true rfl, rfl, mcd102⟩ rfl rfl (Nat.le_of_ble_eq_true rfl) (hg16 _ _) rfl (tq_f102_n e8) ?_
            refine Q_p d109_15 rfl rfl ?_
            refine Q_p d109_16 rfl rfl ?_
            refine Q_cm [.int v4] d109_18 (List.mem_of_getElem? (i := 86) rfl) rfl ⟨by decide, by decide, Nat.le_of_ble_eq_true rfl, rfl, mcd102⟩ rfl rfl (Nat.le_of_ble_eq_true rfl) (hg16 _ _) rfl (tq_f102_n e11) ?_
            refine Q_p d109_21 rfl rfl ?_
            refine Q_get d109_22 (Or.inl (List.mem_of_getElem? (i := 43) rfl)) (hg16 _ _) rfl ?_
            refine Q_p d109_25 rfl rfl ?_
            refine Q_p d109_26 rfl rfl ?_
            refine Q_p d109_27 rfl rfl ?_
            refine Q_cm [.int v1, .int v2, .int v3] d109_28 (List.mem_of_getElem? (i := 120) rfl) rfl ⟨by decide, by decide, Nat.le_of_ble_eq_true rfl, rfl, mcd73⟩ rfl rfl (Nat.le_of_ble_eq_true rfl) (hg17 _ _) rfl (tq_f73 e14) ?_
            refine Q_p (ls' := [(0, .ref 16), (1, .int v1), (2, .int v2), (3, .int v3), (4, .int v4), (5, .int q13)]) d109_31 rfl rfl ?_
            refine Q_p d109_33 rfl rfl ?_
            refine Q_nb d109_35 rfl (mb_f (b := (¬ q13 = (0 : Int32))) c15) ?_
            exact QT 6 d109_38 d109_41 d109_42 d109_44 d109_47 rfl (List.mem_of_getElem? (i := 1) rfl) rfl (by decide) (Nat.le_of_ble_eq_true rfl)
        · cases h
          refine Or.inl ?_
          refine R_p d109_0 rfl rfl ?_
          refine R_p d109_1 rfl rfl ?_
          refine R_cm [.int v1] d109_2 (List.mem_of_getElem? (i := 86) rfl) rfl ⟨by decide, by decide, Nat.le_of_ble_eq_true rfl, rfl, mcd102⟩ rfl rfl (Nat.le_of_ble_eq_true rfl) (hg16 _ _) rfl (t_f102_n e2) ?_
          refine R_p d109_5 rfl rfl ?_
          refine R_p d109_6 rfl rfl ?_
          refine R_cm [.int v2] d109_7 (List.mem_of_getElem? (i := 86) rfl) rfl ⟨by decide, by decide, Nat.le_of_ble_eq_true rfl, rfl, mcd102⟩ rfl rfl (Nat.le_of_ble_eq_true rfl) (hg16 _ _) rfl (t_f102_n e5) ?_
          refine R_p d109_10 rfl rfl ?_
          refine R_p d109_11 rfl rfl ?_
          refine R_cm [.int v3] d109_12 (List.mem_of_getElem? (i := 86) rfl) rfl ⟨by decide, by decide, Nat.le_of_ble_eq_true rfl, rfl, mcd102⟩ rfl rfl (Nat.le_of_ble_eq_true rfl) (hg16 _ _) rfl (t_f102_n e8) ?_
          refine R_p d109_15 rfl rfl ?_
          refine R_p d109_16 rfl rfl ?_
          exact R_tv [.int v4] d109_18 (List.mem_of_getElem? (i := 86) rfl) ⟨by decide, by decide, Nat.le_of_ble_eq_true rfl, mcd102⟩ rfl rfl (Nat.le_of_ble_eq_true rfl) (hg16 _ _) rfl rfl (t_f102_x e11)
      · cases h
        refine Or.inl ?_
        refine R_p d109_0 rfl rfl ?_
        refine R_p d109_1 rfl rfl ?_
        refine R_cm [.int v1] d109_2 (List.mem_of_getElem? (i := 86) rfl) rfl ⟨by decide, by decide, Nat.le_of_ble_eq_true rfl, rfl, mcd102⟩ rfl rfl (Nat.le_of_ble_eq_true rfl) (hg16 _ _) rfl (t_f102_n e2) ?_
        refine R_p d109_5 rfl rfl ?_
        refine R_p d109_6 rfl rfl ?_
        refine R_cm [.int v2] d109_7 (List.mem_of_getElem? (i := 86) rfl) rfl ⟨by decide, by decide, Nat.le_of_ble_eq_true rfl, rfl, mcd102⟩ rfl rfl (Nat.le_of_ble_eq_true rfl) (hg16 _ _) rfl (t_f102_n e5) ?_
        refine R_p d109_10 rfl rfl ?_
        refine R_p d109_11 rfl rfl ?_
        exact R_tv [.int v3] d109_12 (List.mem_of_getElem? (i := 86) rfl) ⟨by decide, by decide, Nat.le_of_ble_eq_true rfl, mcd102⟩ rfl rfl (Nat.le_of_ble_eq_true rfl) (hg16 _ _) rfl rfl (t_f102_x e8)
    · cases h
      refine Or.inl ?_
      refine R_p d109_0 rfl rfl ?_
      refine R_p d109_1 rfl rfl ?_
      refine R_cm [.int v1] d109_2 (List.mem_of_getElem? (i := 86) rfl) rfl ⟨by decide, by decide, Nat.le_of_ble_eq_true rfl, rfl, mcd102⟩ rfl rfl (Nat.le_of_ble_eq_true rfl) (hg16 _ _) rfl (t_f102_n e2) ?_
      refine R_p d109_5 rfl rfl ?_
      refine R_p d109_6 rfl rfl ?_
      exact R_tv [.int v2] d109_7 (List.mem_of_getElem? (i := 86) rfl) ⟨by decide, by decide, Nat.le_of_ble_eq_true rfl, mcd102⟩ rfl rfl (Nat.le_of_ble_eq_true rfl) (hg16 _ _) rfl rfl (t_f102_x e5)
  · cases h
    refine Or.inl ?_
    refine R_p d109_0 rfl rfl ?_
    refine R_p d109_1 rfl rfl ?_
    exact R_tv [.int v1] d109_2 (List.mem_of_getElem? (i := 86) rfl) ⟨by decide, by decide, Nat.le_of_ble_eq_true rfl, mcd102⟩ rfl rfl (Nat.le_of_ble_eq_true rfl) (hg16 _ _) rfl rfl (t_f102_x e2)
def f110 (k : Nat) (v1 : Int32) (v2 : Int32) (s : mS) : Option ((Int32 × mS) ⊕ Nat) :=
  bx (f97 v1 v2 s) fun q1 => (f68 (40 : Int32) v1 v2 s).bind fun q4 => (f50 k (40 : Int32) q4).bind fun q6 => some (.inl (q6, q4))
theorem t_f110_n {S : mE} {ex : mHp} {k : Nat} {v1 : Int32} {v2 : Int32} {s : mS} {r : Int32 × mS} (h : f110 k v1 v2 s = some (.inl r)) : Run S 110 (0, [(0, .ref 16), (1, .int v1), (2, .int v2)], [], hp s ex) (.inl (some (.int r.1)), hp r.2 ex) := by
  unfold f110 at h
  rcases bx_some h with ⟨q1, e2, h⟩ | ⟨c3, e2, h⟩
  · skip
    obtain ⟨q4, e5, h⟩ := bd_some h
    obtain ⟨q6, e7, h⟩ := bd_some h
    cases h
    refine R_p d110_0 rfl rfl ?_
    refine R_p d110_1 rfl rfl ?_
    refine R_p d110_2 rfl rfl ?_
    refine R_cm [.int v1, .int v2] d110_3 (List.mem_of_getElem? (i := 30) rfl) rfl ⟨by decide, by decide, Nat.le_of_ble_eq_true rfl, rfl, mcd97⟩ rfl rfl (Nat.le_of_ble_eq_true rfl) (hg16 _ _) rfl (t_f97_n e2) ?_
    refine R_p d110_6 rfl rfl ?_
    refine R_get d110_7 (Or.inl (List.mem_of_getElem? (i := 43) rfl)) (hg16 _ _) rfl ?_
    refine R_bi (v := 40) d110_10 (by decide) ?_
    refine R_p d110_12 rfl rfl ?_
    refine R_p d110_13 rfl rfl ?_
    refine R_cm [.int 40, .int v1, .int v2] d110_14 (List.mem_of_getElem? (i := 31) rfl) rfl ⟨by decide, by decide, Nat.le_of_ble_eq_true rfl, rfl, mcd68⟩ rfl rfl (Nat.le_of_ble_eq_true rfl) (hg17 _ _) rfl (t_f68 e5) ?_
    refine R_p d110_17 rfl rfl ?_
    refine R_get d110_18 (Or.inl (List.mem_of_getElem? (i := 45) rfl)) (hg16 _ _) rfl ?_
    refine R_bi (v := 40) d110_21 (by decide) ?_
    refine R_cm [.int 40] d110_23 (List.mem_of_getElem? (i := 126) rfl) rfl ⟨by decide, by decide, Nat.le_of_ble_eq_true rfl, rfl, mcd50⟩ rfl rfl (Nat.le_of_ble_eq_true rfl) (hg23 _ _) rfl (t_f50 e7) ?_
    exact R_iret d110_26 rfl rfl rfl
  · cases h
theorem t_f110_x {S : mE} {ex : mHp} {k : Nat} {v1 : Int32} {v2 : Int32} {s : mS} {c : Nat} (h : f110 k v1 v2 s = some (.inr c)) : Run S 110 (0, [(0, .ref 16), (1, .int v1), (2, .int v2)], [], hp s ex) (.inr (ex.length + 54), hp s (ex ++ [.inr (c, [])])) ∨ RunsP 110 (0, [(0, .ref 16), (1, .int v1), (2, .int v2)], [], hp s ex) (.inr (ex.length + 54), hp s (ex ++ [.inr (c, [])])) := by
  unfold f110 at h
  rcases bx_some h with ⟨q1, e2, h⟩ | ⟨c3, e2, h⟩
  · skip
    obtain ⟨q4, e5, h⟩ := bd_some h
    obtain ⟨q6, e7, h⟩ := bd_some h
    cases h
  · cases h
    refine Or.inl ?_
    refine R_p d110_0 rfl rfl ?_
    refine R_p d110_1 rfl rfl ?_
    refine R_p d110_2 rfl rfl ?_
    exact R_tv [.int v1, .int v2] d110_3 (List.mem_of_getElem? (i := 30) rfl) ⟨by decide, by decide, Nat.le_of_ble_eq_true rfl, mcd97⟩ rfl rfl (Nat.le_of_ble_eq_true rfl) (hg16 _ _) rfl rfl (t_f97_x e2)
def f111 (k : Nat) (v1 : Int32) (v2 : Int32) (v3 : Int32) (v4 : Int32) (s : mS) : Option ((Int32 × mS) ⊕ Nat) :=
  bx (f97 v1 v2 s) fun q1 => bx (f97 v3 v4 s) fun q4 => (f68 (40 : Int32) v1 v2 s).bind fun q7 => (f68 (41 : Int32) v3 v4 q7).bind fun q9 => (f50 k (40 : Int32) q9).bind fun q11 => (f50 k (41 : Int32) q9).bind fun q13 => (if (q11 = (-1 : Int32)) then
        some (.inl ((-1 : Int32), q9))
      else
        (if (q13 = (-1 : Int32)) then
          some (.inl ((-1 : Int32), q9))
        else
          (f81 k q11 q13 q9).bind fun q17 => (if (¬ q17.1 = (0 : Int32)) then
            (f84 k q17.2).bind fun q20 => some (.inl (q20.1, q20.2))
          else
            some (.inl ((-1 : Int32), q17.2)))))
theorem t_f111_n {S : mE} {ex : mHp} {k : Nat} {v1 : Int32} {v2 : Int32} {v3 : Int32} {v4 : Int32} {s : mS} {r : Int32 × mS} (h : f111 k v1 v2 v3 v4 s = some (.inl r)) : Run S 111 (0, [(0, .ref 16), (1, .int v1), (2, .int v2), (3, .int v3), (4, .int v4)], [], hp s ex) (.inl (some (.int r.1)), hp r.2 ex) := by
  unfold f111 at h
  rcases bx_some h with ⟨q1, e2, h⟩ | ⟨c3, e2, h⟩
  · skip
    rcases bx_some h with ⟨q4, e5, h⟩ | ⟨c6, e5, h⟩
    · skip
      obtain ⟨q7, e8, h⟩ := bd_some h
      obtain ⟨q9, e10, h⟩ := bd_some h
      obtain ⟨q11, e12, h⟩ := bd_some h
      obtain ⟨q13, e14, h⟩ := bd_some h
      rcases ite_some h with ⟨c15, h⟩ | ⟨c15, h⟩
      · skip
        cases h
        refine R_p d111_0 rfl rfl ?_
        refine R_p d111_1 rfl rfl ?_
        refine R_p d111_2 rfl rfl ?_
        refine R_cm [.int v1, .int v2] d111_3 (List.mem_of_getElem? (i := 30) rfl) rfl ⟨by decide, by decide, Nat.le_of_ble_eq_true rfl, rfl, mcd97⟩ rfl rfl (Nat.le_of_ble_eq_true rfl) (hg16 _ _) rfl (t_f97_n e2) ?_
        refine R_p d111_6 rfl rfl ?_
        refine R_p d111_7 rfl rfl ?_
        refine R_p d111_8 rfl rfl ?_
        refine R_cm [.int v3, .int v4] d111_10 (List.mem_of_getElem? (i := 30) rfl) rfl ⟨by decide, by decide, Nat.le_of_ble_eq_true rfl, rfl, mcd97⟩ rfl rfl (Nat.le_of_ble_eq_true rfl) (hg16 _ _) rfl (t_f97_n e5) ?_
        refine R_p d111_13 rfl rfl ?_
        refine R_get d111_14 (Or.inl (List.mem_of_getElem? (i := 43) rfl)) (hg16 _ _) rfl ?_
        refine R_bi (v := 40) d111_17 (by decide) ?_
        refine R_p d111_19 rfl rfl ?_
        refine R_p d111_20 rfl rfl ?_
        refine R_cm [.int 40, .int v1, .int v2] d111_21 (List.mem_of_getElem? (i := 31) rfl) rfl ⟨by decide, by decide, Nat.le_of_ble_eq_true rfl, rfl, mcd68⟩ rfl rfl (Nat.le_of_ble_eq_true rfl) (hg17 _ _) rfl (t_f68 e8) ?_
        refine R_p d111_24 rfl rfl ?_
        refine R_get d111_25 (Or.inl (List.mem_of_getElem? (i := 43) rfl)) (hg16 _ _) rfl ?_
        refine R_bi (v := 41) d111_28 (by decide) ?_
        refine R_p d111_30 rfl rfl ?_
        refine R_p d111_31 rfl rfl ?_
        refine R_cm [.int 41, .int v3, .int v4] d111_33 (List.mem_of_getElem? (i := 31) rfl) rfl ⟨by decide, by decide, Nat.le_of_ble_eq_true rfl, rfl, mcd68⟩ rfl rfl (Nat.le_of_ble_eq_true rfl) (hg17 _ _) rfl (t_f68 e10) ?_
        refine R_p d111_36 rfl rfl ?_
        refine R_get d111_37 (Or.inl (List.mem_of_getElem? (i := 45) rfl)) (hg16 _ _) rfl ?_
        refine R_bi (v := 40) d111_40 (by decide) ?_
        refine R_cm [.int 40] d111_42 (List.mem_of_getElem? (i := 126) rfl) rfl ⟨by decide, by decide, Nat.le_of_ble_eq_true rfl, rfl, mcd50⟩ rfl rfl (Nat.le_of_ble_eq_true rfl) (hg23 _ _) rfl (t_f50 e12) ?_
        refine R_p (ls' := [(0, .ref 16), (1, .int v1), (2, .int v2), (3, .int v3), (4, .int v4), (5, .int q11)]) d111_45 rfl rfl ?_
        refine R_p d111_47 rfl rfl ?_
        refine R_get d111_48 (Or.inl (List.mem_of_getElem? (i := 45) rfl)) (hg16 _ _) rfl ?_
        refine R_bi (v := 41) d111_51 (by decide) ?_
        refine R_cm [.int 41] d111_53 (List.mem_of_getElem? (i := 126) rfl) rfl ⟨by decide, by decide, Nat.le_of_ble_eq_true rfl, rfl, mcd50⟩ rfl rfl (Nat.le_of_ble_eq_true rfl) (hg23 _ _) rfl (t_f50 e14) ?_
        refine R_p (ls' := [(0, .ref 16), (1, .int v1), (2, .int v2), (3, .int v3), (4, .int v4), (5, .int q11), (6, .int q13)]) d111_56 rfl rfl ?_
        refine R_p d111_58 rfl rfl ?_
        refine R_ic (v := (-1)) d111_60 (by decide) ?_
        refine R_br 84 d111_61 (mb_t (b := (q11 = (-1 : Int32))) c15) rfl ?_
        refine R_ic (v := (-1)) d111_84 (by decide) ?_
        exact R_iret d111_85 rfl rfl rfl
      · skip
        rcases ite_some h with ⟨c16, h⟩ | ⟨c16, h⟩
        · skip
          cases h
          refine R_p d111_0 rfl rfl ?_
          refine R_p d111_1 rfl rfl ?_
          refine R_p d111_2 rfl rfl ?_
          refine R_cm [.int v1, .int v2] d111_3 (List.mem_of_getElem? (i := 30) rfl) rfl ⟨by decide, by decide, Nat.le_of_ble_eq_true rfl, rfl, mcd97⟩ rfl rfl (Nat.le_of_ble_eq_true rfl) (hg16 _ _) rfl (t_f97_n e2) ?_
          refine R_p d111_6 rfl rfl ?_
          refine R_p d111_7 rfl rfl ?_
          refine R_p d111_8 rfl rfl ?_
          refine R_cm [.int v3, .int v4] d111_10 (List.mem_of_getElem? (i := 30) rfl) rfl ⟨by decide, by decide, Nat.le_of_ble_eq_true rfl, rfl, mcd97⟩ rfl rfl (Nat.le_of_ble_eq_true rfl) (hg16 _ _) rfl (t_f97_n e5) ?_
          refine R_p d111_13 rfl rfl ?_
          refine R_get d111_14 (Or.inl (List.mem_of_getElem? (i := 43) rfl)) (hg16 _ _) rfl ?_
          refine R_bi (v := 40) d111_17 (by decide) ?_
          refine R_p d111_19 rfl rfl ?_
          refine R_p d111_20 rfl rfl ?_
          refine R_cm [.int 40, .int v1, .int v2] d111_21 (List.mem_of_getElem? (i := 31) rfl) rfl ⟨by decide, by decide, Nat.le_of_ble_eq_true rfl, rfl, mcd68⟩ rfl rfl (Nat.le_of_ble_eq_true rfl) (hg17 _ _) rfl (t_f68 e8) ?_
          refine R_p d111_24 rfl rfl ?_
          refine R_get d111_25 (Or.inl (List.mem_of_getElem? (i := 43) rfl)) (hg16 _ _) rfl ?_
          refine R_bi (v := 41) d111_28 (by decide) ?_
          refine R_p d111_30 rfl rfl ?_
          refine R_p d111_31 rfl rfl ?_
          refine R_cm [.int 41, .int v3, .int v4] d111_33 (List.mem_of_getElem? (i := 31) rfl) rfl ⟨by decide, by decide, Nat.le_of_ble_eq_true rfl, rfl, mcd68⟩ rfl rfl (Nat.le_of_ble_eq_true rfl) (hg17 _ _) rfl (t_f68 e10) ?_
          refine R_p d111_36 rfl rfl ?_
          refine R_get d111_37 (Or.inl (List.mem_of_getElem? (i := 45) rfl)) (hg16 _ _) rfl ?_
          refine R_bi (v := 40) d111_40 (by decide) ?_
          refine R_cm [.int 40] d111_42 (List.mem_of_getElem? (i := 126) rfl) rfl ⟨by decide, by decide, Nat.le_of_ble_eq_true rfl, rfl, mcd50⟩ rfl rfl (Nat.le_of_ble_eq_true rfl) (hg23 _ _) rfl (t_f50 e12) ?_
          refine R_p (ls' := [(0, .ref 16), (1, .int v1), (2, .int v2), (3, .int v3), (4, .int v4), (5, .int q11)]) d111_45 rfl rfl ?_
          refine R_p d111_47 rfl rfl ?_
          refine R_get d111_48 (Or.inl (List.mem_of_getElem? (i := 45) rfl)) (hg16 _ _) rfl ?_
          refine R_bi (v := 41) d111_51 (by decide) ?_
          refine R_cm [.int 41] d111_53 (List.mem_of_getElem? (i := 126) rfl) rfl ⟨by decide, by decide, Nat.le_of_ble_eq_true rfl, rfl, mcd50⟩ rfl rfl (Nat.le_of_ble_eq_true rfl) (hg23 _ _) rfl (t_f50 e14) ?_
          refine R_p (ls' := [(0, .ref 16), (1, .int v1), (2, .int v2), (3, .int v3), (4, .int v4), (5, .int q11), (6, .int q13)]) d111_56 rfl rfl ?_
          refine R_p d111_58 rfl rfl ?_
          refine R_ic (v := (-1)) d111_60 (by decide) ?_
          refine R_nb d111_61 rfl (mb_f (b := (q11 = (-1 : Int32))) c15) ?_
          refine R_p d111_64 rfl rfl ?_
          refine R_ic (v := (-1)) d111_66 (by decide) ?_
          refine R_br 84 d111_67 (mb_t (b := (q13 = (-1 : Int32))) c16) rfl ?_
          refine R_ic (v := (-1)) d111_84 (by decide) ?_
          exact R_iret d111_85 rfl rfl rfl
        · skip
          obtain ⟨q17, e18, h⟩ := bd_some h
          rcases ite_some h with ⟨c19, h⟩ | ⟨c19, h⟩
          · skip
            obtain ⟨q20, e21, h⟩ := bd_some h
            cases h
            refine R_p d111_0 rfl rfl ?_
            refine R_p d111_1 rfl rfl ?_
            refine R_p d111_2 rfl rfl ?_
            refine R_cm [.int v1, .int v2] d111_3 (List.mem_of_getElem? (i := 30) rfl) rfl ⟨by decide, by decide, Nat.le_of_ble_eq_true rfl, rfl, mcd97⟩ rfl rfl (Nat.le_of_ble_eq_true rfl) (hg16 _ _) rfl (t_f97_n e2) ?_
            refine R_p d111_6 rfl rfl ?_
            refine R_p d111_7 rfl rfl ?_
            refine R_p d111_8 rfl rfl ?_
            refine R_cm [.int v3, .int v4] d111_10 (List.mem_of_getElem? (i := 30) rfl) rfl ⟨by decide, by decide, Nat.le_of_ble_eq_true rfl, rfl, mcd97⟩ rfl rfl (Nat.le_of_ble_eq_true rfl) (hg16 _ _) rfl (t_f97_n e5) ?_
            refine R_p d111_13 rfl rfl ?_
            refine R_get d111_14 (Or.inl (List.mem_of_getElem? (i := 43) rfl)) (hg16 _ _) rfl ?_
            refine R_bi (v := 40) d111_17 (by decide) ?_
            refine R_p d111_19 rfl rfl ?_
            refine R_p d111_20 rfl rfl ?_
            refine R_cm [.int 40, .int v1, .int v2] d111_21 (List.mem_of_getElem? (i := 31) rfl) rfl ⟨by decide, by decide, Nat.le_of_ble_eq_true rfl, rfl, mcd68⟩ rfl rfl (Nat.le_of_ble_eq_true rfl) (hg17 _ _) rfl (t_f68 e8) ?_
            refine R_p d111_24 rfl rfl ?_
            refine R_get d111_25 (Or.inl (List.mem_of_getElem? (i := 43) rfl)) (hg16 _ _) rfl ?_
            refine R_bi (v := 41) d111_28 (by decide) ?_
            refine R_p d111_30 rfl rfl ?_
            refine R_p d111_31 rfl rfl ?_
            refine R_cm [.int 41, .int v3, .int v4] d111_33 (List.mem_of_getElem? (i := 31) rfl) rfl ⟨by decide, by decide, Nat.le_of_ble_eq_true rfl, rfl, mcd68⟩ rfl rfl (Nat.le_of_ble_eq_true rfl) (hg17 _ _) rfl (t_f68 e10) ?_
            refine R_p d111_36 rfl rfl ?_
            refine R_get d111_37 (Or.inl (List.mem_of_getElem? (i := 45) rfl)) (hg16 _ _) rfl ?_
            refine R_bi (v := 40) d111_40 (by decide) ?_
            refine R_cm [.int 40] d111_42 (List.mem_of_getElem? (i := 126) rfl) rfl ⟨by decide, by decide, Nat.le_of_ble_eq_true rfl, rfl, mcd50⟩ rfl rfl (Nat.le_of_ble_eq_true rfl) (hg23 _ _) rfl (t_f50 e12) ?_
            refine R_p (ls' := [(0, .ref 16), (1, .int v1), (2, .int v2), (3, .int v3), (4, .int v4), (5, .int q11)]) d111_45 rfl rfl ?_
            refine R_p d111_47 rfl rfl ?_
            refine R_get d111_48 (Or.inl (List.mem_of_getElem? (i := 45) rfl)) (hg16 _ _) rfl ?_
            refine R_bi (v := 41) d111_51 (by decide) ?_
            refine R_cm [.int 41] d111_53 (List.mem_of_getElem? (i := 126) rfl) rfl ⟨by decide, by decide, Nat.le_of_ble_eq_true rfl, rfl, mcd50⟩ rfl rfl (Nat.le_of_ble_eq_true rfl) (hg23 _ _) rfl (t_f50 e14) ?_
            refine R_p (ls' := [(0, .ref 16), (1, .int v1), (2, .int v2), (3, .int v3), (4, .int v4), (5, .int q11), (6, .int q13)]) d111_56 rfl rfl ?_
            refine R_p d111_58 rfl rfl ?_
            refine R_ic (v := (-1)) d111_60 (by decide) ?_
            refine R_nb d111_61 rfl (mb_f (b := (q11 = (-1 : Int32))) c15) ?_
            refine R_p d111_64 rfl rfl ?_
            refine R_ic (v := (-1)) d111_66 (by decide) ?_
            refine R_nb d111_67 rfl (mb_f (b := (q13 = (-1 : Int32))) c16) ?_
            refine R_p d111_70 rfl rfl ?_
            refine R_get d111_71 (Or.inl (List.mem_of_getElem? (i := 47) rfl)) (hg16 _ _) rfl ?_
            refine R_p d111_74 rfl rfl ?_
            refine R_p d111_76 rfl rfl ?_
            refine R_cm [.int q11, .int q13] d111_78 (List.mem_of_getElem? (i := 129) rfl) rfl ⟨by decide, by decide, Nat.le_of_ble_eq_true rfl, rfl, mcd81⟩ rfl rfl (Nat.le_of_ble_eq_true rfl) (hg32 _ _) rfl (t_f81 e18) ?_
            refine R_br 86 d111_81 (mb_t (b := (¬ q17.1 = (0 : Int32))) c19) rfl ?_
            refine R_p d111_86 rfl rfl ?_
            refine R_get d111_87 (Or.inl (List.mem_of_getElem? (i := 47) rfl)) (hg16 _ _) rfl ?_
            refine R_cm [] d111_90 (List.mem_of_getElem? (i := 136) rfl) rfl ⟨by decide, by decide, Nat.le_of_ble_eq_true rfl, rfl, mcd84⟩ rfl rfl (Nat.le_of_ble_eq_true rfl) (hg32 _ _) rfl (t_f84 e21) ?_
            exact R_iret d111_93 rfl rfl rfl
          · skip
            cases h
            refine R_p d111_0 rfl rfl ?_
            refine R_p d111_1 rfl rfl ?_
            refine R_p d111_2 rfl rfl ?_
            refine R_cm [.int v1, .int v2] d111_3 (List.mem_of_getElem? (i := 30) rfl) rfl ⟨by decide, by decide, Nat.le_of_ble_eq_true rfl, rfl, mcd97⟩ rfl rfl (Nat.le_of_ble_eq_true rfl) (hg16 _ _) rfl (t_f97_n e2) ?_
            refine R_p d111_6 rfl rfl ?_
            refine R_p d111_7 rfl rfl ?_
            refine R_p d111_8 rfl rfl ?_
            refine R_cm [.int v3, .int v4] d111_10 (List.mem_of_getElem? (i := 30) rfl) rfl ⟨by decide, by decide, Nat.le_of_ble_eq_true rfl, rfl, mcd97⟩ rfl rfl (Nat.le_of_ble_eq_true rfl) (hg16 _ _) rfl (t_f97_n e5) ?_
            refine R_p d111_13 rfl rfl ?_
            refine R_get d111_14 (Or.inl (List.mem_of_getElem? (i := 43) rfl)) (hg16 _ _) rfl ?_
            refine R_bi (v := 40) d111_17 (by decide) ?_
            refine R_p d111_19 rfl rfl ?_
            refine R_p d111_20 rfl rfl ?_
            refine R_cm [.int 40, .int v1, .int v2] d111_21 (List.mem_of_getElem? (i := 31) rfl) rfl ⟨by decide, by decide, Nat.le_of_ble_eq_true rfl, rfl, mcd68⟩ rfl rfl (Nat.le_of_ble_eq_true rfl) (hg17 _ _) rfl (t_f68 e8) ?_
            refine R_p d111_24 rfl rfl ?_
            refine R_get d111_25 (Or.inl (List.mem_of_getElem? (i := 43) rfl)) (hg16 _ _) rfl ?_
            refine R_bi (v := 41) d111_28 (by decide) ?_
            refine R_p d111_30 rfl rfl ?_
            refine R_p d111_31 rfl rfl ?_
            refine R_cm [.int 41, .int v3, .int v4] d111_33 (List.mem_of_getElem? (i := 31) rfl) rfl ⟨by decide, by decide, Nat.le_of_ble_eq_true rfl, rfl, mcd68⟩ rfl rfl (Nat.le_of_ble_eq_true rfl) (hg17 _ _) rfl (t_f68 e10) ?_
            refine R_p d111_36 rfl rfl ?_
            refine R_get d111_37 (Or.inl (List.mem_of_getElem? (i := 45) rfl)) (hg16 _ _) rfl ?_
            refine R_bi (v := 40) d111_40 (by decide) ?_
            refine R_cm [.int 40] d111_42 (List.mem_of_getElem? (i := 126) rfl) rfl ⟨by decide, by decide, Nat.le_of_ble_eq_true rfl, rfl, mcd50⟩ rfl rfl (Nat.le_of_ble_eq_true rfl) (hg23 _ _) rfl (t_f50 e12) ?_
            refine R_p (ls' := [(0, .ref 16), (1, .int v1), (2, .int v2), (3, .int v3), (4, .int v4), (5, .int q11)]) d111_45 rfl rfl ?_
            refine R_p d111_47 rfl rfl ?_
            refine R_get d111_48 (Or.inl (List.mem_of_getElem? (i := 45) rfl)) (hg16 _ _) rfl ?_
            refine R_bi (v := 41) d111_51 (by decide) ?_
            refine R_cm [.int 41] d111_53 (List.mem_of_getElem? (i := 126) rfl) rfl ⟨by decide, by decide, Nat.le_of_ble_eq_true rfl, rfl, mcd50⟩ rfl rfl (Nat.le_of_ble_eq_true rfl) (hg23 _ _) rfl (t_f50 e14) ?_
            refine R_p (ls' := [(0, .ref 16), (1, .int v1), (2, .int v2), (3, .int v3), (4, .int v4), (5, .int q11), (6, .int q13)]) d111_56 rfl rfl ?_
            refine R_p d111_58 rfl rfl ?_
            refine R_ic (v := (-1)) d111_60 (by decide) ?_
            refine R_nb d111_61 rfl (mb_f (b := (q11 = (-1 : Int32))) c15) ?_
            refine R_p d111_64 rfl rfl ?_
            refine R_ic (v := (-1)) d111_66 (by decide) ?_
            refine R_nb d111_67 rfl (mb_f (b := (q13 = (-1 : Int32))) c16) ?_
            refine R_p d111_70 rfl rfl ?_
            refine R_get d111_71 (Or.inl (List.mem_of_getElem? (i := 47) rfl)) (hg16 _ _) rfl ?_
            refine R_p d111_74 rfl rfl ?_
            refine R_p d111_76 rfl rfl ?_
            refine R_cm [.int q11, .int q13] d111_78 (List.mem_of_getElem? (i := 129) rfl) rfl ⟨by decide, by decide, Nat.le_of_ble_eq_true rfl, rfl, mcd81⟩ rfl rfl (Nat.le_of_ble_eq_true rfl) (hg32 _ _) rfl (t_f81 e18) ?_
            refine R_nb d111_81 rfl (mb_f (b := (¬ q17.1 = (0 : Int32))) c19) ?_
            refine R_ic (v := (-1)) d111_84 (by decide) ?_
            exact R_iret d111_85 rfl rfl rfl
    · cases h
  · cases h
theorem t_f111_x {S : mE} {ex : mHp} {k : Nat} {v1 : Int32} {v2 : Int32} {v3 : Int32} {v4 : Int32} {s : mS} {c : Nat} (h : f111 k v1 v2 v3 v4 s = some (.inr c)) : Run S 111 (0, [(0, .ref 16), (1, .int v1), (2, .int v2), (3, .int v3), (4, .int v4)], [], hp s ex) (.inr (ex.length + 54), hp s (ex ++ [.inr (c, [])])) ∨ RunsP 111 (0, [(0, .ref 16), (1, .int v1), (2, .int v2), (3, .int v3), (4, .int v4)], [], hp s ex) (.inr (ex.length + 54), hp s (ex ++ [.inr (c, [])])) := by
  unfold f111 at h
  rcases bx_some h with ⟨q1, e2, h⟩ | ⟨c3, e2, h⟩
  · skip
    rcases bx_some h with ⟨q4, e5, h⟩ | ⟨c6, e5, h⟩
    · skip
      obtain ⟨q7, e8, h⟩ := bd_some h
      obtain ⟨q9, e10, h⟩ := bd_some h
      obtain ⟨q11, e12, h⟩ := bd_some h
      obtain ⟨q13, e14, h⟩ := bd_some h
      rcases ite_some h with ⟨c15, h⟩ | ⟨c15, h⟩
      · skip
        cases h
      · skip
        rcases ite_some h with ⟨c16, h⟩ | ⟨c16, h⟩
        · skip
          cases h
        · skip
          obtain ⟨q17, e18, h⟩ := bd_some h
          rcases ite_some h with ⟨c19, h⟩ | ⟨c19, h⟩
          · skip
            obtain ⟨q20, e21, h⟩ := bd_some h
            cases h
          · skip
            cases h
    · cases h
      refine Or.inl ?_
      refine R_p d111_0 rfl rfl ?_
      refine R_p d111_1 rfl rfl ?_
      refine R_p d111_2 rfl rfl ?_
      refine R_cm [.int v1, .int v2] d111_3 (List.mem_of_getElem? (i := 30) rfl) rfl ⟨by decide, by decide, Nat.le_of_ble_eq_true rfl, rfl, mcd97⟩ rfl rfl (Nat.le_of_ble_eq_true rfl) (hg16 _ _) rfl (t_f97_n e2) ?_
      refine R_p d111_6 rfl rfl ?_
      refine R_p d111_7 rfl rfl ?_
      refine R_p d111_8 rfl rfl ?_
      exact R_tv [.int v3, .int v4] d111_10 (List.mem_of_getElem? (i := 30) rfl) ⟨by decide, by decide, Nat.le_of_ble_eq_true rfl, mcd97⟩ rfl rfl (Nat.le_of_ble_eq_true rfl) (hg16 _ _) rfl rfl (t_f97_x e5)
  · cases h
    refine Or.inl ?_
    refine R_p d111_0 rfl rfl ?_
    refine R_p d111_1 rfl rfl ?_
    refine R_p d111_2 rfl rfl ?_
    exact R_tv [.int v1, .int v2] d111_3 (List.mem_of_getElem? (i := 30) rfl) ⟨by decide, by decide, Nat.le_of_ble_eq_true rfl, mcd97⟩ rfl rfl (Nat.le_of_ble_eq_true rfl) (hg16 _ _) rfl rfl (t_f97_x e2)
