/-! constants as rows; the constructors, from the empty heap on, by program (wip/gen/c15.py) -/
section Consts
variable {S : mE} {M pc : Nat} {ls : mL} {st : List Value} {h : mHp} {r : mR}
theorem R_ic {n : Int} {v : Int32} (hd : decode (mCode M) pc = .ok (.iconst n, 1)) (hv : Int32.ofInt n = v) (k : Run S M (pc + 1, ls, .int v :: st, h) r) : Run S M (pc, ls, st, h) r := R_p hd rfl (by rw [← hv]; rfl) k
theorem R_bi {n : Int} {v : Int32} (hd : decode (mCode M) pc = .ok (.bipush n, 2)) (hv : (Int8.ofInt n).toInt32 = v) (k : Run S M (pc + 2, ls, .int v :: st, h) r) : Run S M (pc, ls, st, h) r := R_p hd rfl (by rw [← hv]; rfl) k
theorem R_si {n : Int} {v : Int32} (hd : decode (mCode M) pc = .ok (.sipush n, 3)) (hv : (Int16.ofInt n).toInt32 = v) (k : Run S M (pc + 3, ls, .int v :: st, h) r) : Run S M (pc, ls, st, h) r := R_p hd rfl (by rw [← hv]; rfl) k
theorem R_lc {n : Fin 2} {v : Int64} (hd : decode (mCode M) pc = .ok (.lconst n, 1)) (hv : Int64.ofNat n.val = v) (k : Run S M (pc + 1, ls, .long v :: st, h) r) : Run S M (pc, ls, st, h) r := R_p hd rfl (by rw [← hv]; rfl) k
theorem Q_ic {n : Int} {v : Int32} (hd : decode (mCode M) pc = .ok (.iconst n, 1)) (hv : Int32.ofInt n = v) (k : RunsP M (pc + 1, ls, .int v :: st, h) r) : RunsP M (pc, ls, st, h) r := Q_p hd rfl (by rw [← hv]; rfl) k
theorem Q_bi {n : Int} {v : Int32} (hd : decode (mCode M) pc = .ok (.bipush n, 2)) (hv : (Int8.ofInt n).toInt32 = v) (k : RunsP M (pc + 2, ls, .int v :: st, h) r) : RunsP M (pc, ls, st, h) r := Q_p hd rfl (by rw [← hv]; rfl) k
theorem Q_si {n : Int} {v : Int32} (hd : decode (mCode M) pc = .ok (.sipush n, 3)) (hv : (Int16.ofInt n).toInt32 = v) (k : RunsP M (pc + 3, ls, .int v :: st, h) r) : RunsP M (pc, ls, st, h) r := Q_p hd rfl (by rw [← hv]; rfl) k
theorem Q_lc {n : Fin 2} {v : Int64} (hd : decode (mCode M) pc = .ok (.lconst n, 1)) (hv : Int64.ofNat n.val = v) (k : RunsP M (pc + 1, ls, .long v :: st, h) r) : RunsP M (pc, ls, st, h) r := Q_p hd rfl (by rw [← hv]; rfl) k
theorem R_cc {st0 : List Value} {h' : mHp} {idx N kind w1 w2 w3 w4 w5 a ci : Nat} {fs : List Value} {v : Option Value} (As : List Value) (hd : decode (mCode M) pc = .ok (.invokespecial idx, 3)) (hf : (mOwn M, idx, N, kind, w1, w2, w3, w4, w5) ∈ mLnkT) (hkd : kind % 3 = 2) (hrm : mroom M N st) (hst : st0 = As.reverse ++ .ref a :: st) (har : As.length = mAr N) (hcw : mcats (.ref a :: As) ≤ mMaxL N) (hg : mget h a = some (.inr (ci, fs))) (hci : mOwn N = ci) (k0 : Run S N (0, lv_args 0 (.ref a :: As), [], h) (.inl v, h')) (k : Run S M (pc + 3, ls, v.toList ++ st, h') r) : Run S M (pc, ls, st0, h) r := R_cv As (by rw [if_pos hkd]; exact hd) hf (Or.inl hkd) hrm hst har hcw hg hci k0 k
theorem R_cm {st0 : List Value} {h' : mHp} {idx N kind w1 w2 w3 w4 w5 a ci : Nat} {fs : List Value} {v : Option Value} (As : List Value) (hd : decode (mCode M) pc = .ok (.invokevirtual idx, 3)) (hf : (mOwn M, idx, N, kind, w1, w2, w3, w4, w5) ∈ mLnkT) (hkd : kind % 3 = 0) (hrm : mroom M N st) (hst : st0 = As.reverse ++ .ref a :: st) (har : As.length = mAr N) (hcw : mcats (.ref a :: As) ≤ mMaxL N) (hg : mget h a = some (.inr (ci, fs))) (hci : mOwn N = ci) (k0 : Run S N (0, lv_args 0 (.ref a :: As), [], h) (.inl v, h')) (k : Run S M (pc + 3, ls, v.toList ++ st, h') r) : Run S M (pc, ls, st0, h) r := R_cv As (by rw [if_neg (by omega)]; exact hd) hf (Or.inr hkd) hrm hst har hcw hg hci k0 k
theorem Q_cm {st0 : List Value} {idx N kind w1 w2 w3 w4 w5 a ci : Nat} {fs : List Value} {v : Option Value} (As : List Value) (hd : decode (mCode M) pc = .ok (.invokevirtual idx, 3)) (hf : (mOwn M, idx, N, kind, w1, w2, w3, w4, w5) ∈ mLnkT) (hkd : kind % 3 = 0) (hrm : mroom M N st) (hst : st0 = As.reverse ++ .ref a :: st) (har : As.length = mAr N) (hcw : mcats (.ref a :: As) ≤ mMaxL N) (hg : mget h a = some (.inr (ci, fs))) (hci : mOwn N = ci) (k0 : RunsP N (0, lv_args 0 (.ref a :: As), [], h) (.inl v, h)) (k : RunsP M (pc + 3, ls, v.toList ++ st, h) r) : RunsP M (pc, ls, st0, h) r := Q_cv As (by rw [if_neg (by omega)]; exact hd) hf (Or.inr hkd) hrm hst har hcw hg hci k0 k
end Consts
theorem d0_0 : decode (mCode 0) 0 = .ok (.aload_n 0, 1) := by decide +kernel
theorem d0_1 : decode (mCode 0) 1 = .ok (.invokespecial 3, 3) := by decide +kernel
theorem d0_4 : decode (mCode 0) 4 = .ok (.aload_n 0, 1) := by decide +kernel
theorem d0_5 : decode (mCode 0) 5 = .ok (.bipush 77, 2) := by decide +kernel
theorem d0_7 : decode (mCode 0) 7 = .ok (.newarray .int, 2) := by decide +kernel
theorem d0_9 : decode (mCode 0) 9 = .ok (.putfield 9, 3) := by decide +kernel
theorem d0_12 : decode (mCode 0) 12 = .ok (.aload_n 0, 1) := by decide +kernel
theorem d0_13 : decode (mCode 0) 13 = .ok (.iload_n 1, 1) := by decide +kernel
theorem d0_14 : decode (mCode 0) 14 = .ok (.putfield 15, 3) := by decide +kernel
theorem d0_17 : decode (mCode 0) 17 = .ok (.return_, 1) := by decide +kernel
theorem d9_0 : decode (mCode 9) 0 = .ok (.aload_n 0, 1) := by decide +kernel
theorem d9_1 : decode (mCode 9) 1 = .ok (.invokespecial 3, 3) := by decide +kernel
theorem d9_4 : decode (mCode 9) 4 = .ok (.aload_n 0, 1) := by decide +kernel
theorem d9_5 : decode (mCode 9) 5 = .ok (.new 9, 3) := by decide +kernel
theorem d9_8 : decode (mCode 9) 8 = .ok (.dup, 1) := by decide +kernel
theorem d9_9 : decode (mCode 9) 9 = .ok (.iconst 1, 1) := by decide +kernel
theorem d9_10 : decode (mCode 9) 10 = .ok (.invokespecial 11, 3) := by decide +kernel
theorem d9_13 : decode (mCode 9) 13 = .ok (.putfield 14, 3) := by decide +kernel
theorem d9_16 : decode (mCode 9) 16 = .ok (.aload_n 0, 1) := by decide +kernel
theorem d9_17 : decode (mCode 9) 17 = .ok (.new 9, 3) := by decide +kernel
theorem d9_20 : decode (mCode 9) 20 = .ok (.dup, 1) := by decide +kernel
theorem d9_21 : decode (mCode 9) 21 = .ok (.iconst (-1), 1) := by decide +kernel
theorem d9_22 : decode (mCode 9) 22 = .ok (.invokespecial 11, 3) := by decide +kernel
theorem d9_25 : decode (mCode 9) 25 = .ok (.putfield 20, 3) := by decide +kernel
theorem d9_28 : decode (mCode 9) 28 = .ok (.aload_n 0, 1) := by decide +kernel
theorem d9_29 : decode (mCode 9) 29 = .ok (.bipush 77, 2) := by decide +kernel
theorem d9_31 : decode (mCode 9) 31 = .ok (.newarray .int, 2) := by decide +kernel
theorem d9_33 : decode (mCode 9) 33 = .ok (.putfield 23, 3) := by decide +kernel
theorem d9_36 : decode (mCode 9) 36 = .ok (.aload_n 0, 1) := by decide +kernel
theorem d9_37 : decode (mCode 9) 37 = .ok (.aload_n 1, 1) := by decide +kernel
theorem d9_38 : decode (mCode 9) 38 = .ok (.putfield 27, 3) := by decide +kernel
theorem d9_41 : decode (mCode 9) 41 = .ok (.return_, 1) := by decide +kernel
theorem d19_0 : decode (mCode 19) 0 = .ok (.aload_n 0, 1) := by decide +kernel
theorem d19_1 : decode (mCode 19) 1 = .ok (.invokespecial 3, 3) := by decide +kernel
theorem d19_4 : decode (mCode 19) 4 = .ok (.aload_n 0, 1) := by decide +kernel
theorem d19_5 : decode (mCode 19) 5 = .ok (.bipush 75, 2) := by decide +kernel
theorem d19_7 : decode (mCode 19) 7 = .ok (.newarray .int, 2) := by decide +kernel
theorem d19_9 : decode (mCode 19) 9 = .ok (.putfield 9, 3) := by decide +kernel
theorem d19_12 : decode (mCode 19) 12 = .ok (.aload_n 0, 1) := by decide +kernel
theorem d19_13 : decode (mCode 19) 13 = .ok (.bipush 75, 2) := by decide +kernel
theorem d19_15 : decode (mCode 19) 15 = .ok (.newarray .int, 2) := by decide +kernel
theorem d19_17 : decode (mCode 19) 17 = .ok (.putfield 15, 3) := by decide +kernel
theorem d19_20 : decode (mCode 19) 20 = .ok (.aload_n 0, 1) := by decide +kernel
theorem d19_21 : decode (mCode 19) 21 = .ok (.aload_n 1, 1) := by decide +kernel
theorem d19_22 : decode (mCode 19) 22 = .ok (.putfield 18, 3) := by decide +kernel
theorem d19_25 : decode (mCode 19) 25 = .ok (.aload_n 0, 1) := by decide +kernel
theorem d19_26 : decode (mCode 19) 26 = .ok (.aload_n 2, 1) := by decide +kernel
theorem d19_27 : decode (mCode 19) 27 = .ok (.putfield 22, 3) := by decide +kernel
theorem d19_30 : decode (mCode 19) 30 = .ok (.return_, 1) := by decide +kernel
theorem d35_0 : decode (mCode 35) 0 = .ok (.aload_n 0, 1) := by decide +kernel
theorem d35_1 : decode (mCode 35) 1 = .ok (.invokespecial 3, 3) := by decide +kernel
theorem d35_4 : decode (mCode 35) 4 = .ok (.aload_n 0, 1) := by decide +kernel
theorem d35_5 : decode (mCode 35) 5 = .ok (.bipush 40, 2) := by decide +kernel
theorem d35_7 : decode (mCode 35) 7 = .ok (.newarray .long, 2) := by decide +kernel
theorem d35_9 : decode (mCode 35) 9 = .ok (.putfield 9, 3) := by decide +kernel
theorem d35_12 : decode (mCode 35) 12 = .ok (.aload_n 0, 1) := by decide +kernel
theorem d35_13 : decode (mCode 35) 13 = .ok (.aload_n 1, 1) := by decide +kernel
theorem d35_14 : decode (mCode 35) 14 = .ok (.putfield 15, 3) := by decide +kernel
theorem d35_17 : decode (mCode 35) 17 = .ok (.return_, 1) := by decide +kernel
theorem d44_0 : decode (mCode 44) 0 = .ok (.aload_n 0, 1) := by decide +kernel
theorem d44_1 : decode (mCode 44) 1 = .ok (.invokespecial 3, 3) := by decide +kernel
theorem d44_4 : decode (mCode 44) 4 = .ok (.aload_n 0, 1) := by decide +kernel
theorem d44_5 : decode (mCode 44) 5 = .ok (.sipush 1600, 3) := by decide +kernel
theorem d44_8 : decode (mCode 44) 8 = .ok (.newarray .int, 2) := by decide +kernel
theorem d44_10 : decode (mCode 44) 10 = .ok (.putfield 9, 3) := by decide +kernel
theorem d44_13 : decode (mCode 44) 13 = .ok (.aload_n 0, 1) := by decide +kernel
theorem d44_14 : decode (mCode 44) 14 = .ok (.sipush 1600, 3) := by decide +kernel
theorem d44_17 : decode (mCode 44) 17 = .ok (.newarray .int, 2) := by decide +kernel
theorem d44_19 : decode (mCode 44) 19 = .ok (.putfield 15, 3) := by decide +kernel
theorem d44_22 : decode (mCode 44) 22 = .ok (.aload_n 0, 1) := by decide +kernel
theorem d44_23 : decode (mCode 44) 23 = .ok (.sipush 225, 3) := by decide +kernel
theorem d44_26 : decode (mCode 44) 26 = .ok (.newarray .int, 2) := by decide +kernel
theorem d44_28 : decode (mCode 44) 28 = .ok (.putfield 18, 3) := by decide +kernel
theorem d44_31 : decode (mCode 44) 31 = .ok (.aload_n 0, 1) := by decide +kernel
theorem d44_32 : decode (mCode 44) 32 = .ok (.sipush 800, 3) := by decide +kernel
theorem d44_35 : decode (mCode 44) 35 = .ok (.newarray .int, 2) := by decide +kernel
theorem d44_37 : decode (mCode 44) 37 = .ok (.putfield 21, 3) := by decide +kernel
theorem d44_40 : decode (mCode 44) 40 = .ok (.aload_n 0, 1) := by decide +kernel
theorem d44_41 : decode (mCode 44) 41 = .ok (.bipush 40, 2) := by decide +kernel
theorem d44_43 : decode (mCode 44) 43 = .ok (.newarray .long, 2) := by decide +kernel
theorem d44_45 : decode (mCode 44) 45 = .ok (.putfield 24, 3) := by decide +kernel
theorem d44_48 : decode (mCode 44) 48 = .ok (.aload_n 0, 1) := by decide +kernel
theorem d44_49 : decode (mCode 44) 49 = .ok (.aload_n 1, 1) := by decide +kernel
theorem d44_50 : decode (mCode 44) 50 = .ok (.putfield 28, 3) := by decide +kernel
theorem d44_53 : decode (mCode 44) 53 = .ok (.aload_n 0, 1) := by decide +kernel
theorem d44_54 : decode (mCode 44) 54 = .ok (.aload_n 2, 1) := by decide +kernel
theorem d44_55 : decode (mCode 44) 55 = .ok (.putfield 32, 3) := by decide +kernel
theorem d44_58 : decode (mCode 44) 58 = .ok (.aload_n 0, 1) := by decide +kernel
theorem d44_59 : decode (mCode 44) 59 = .ok (.getfield 9, 3) := by decide +kernel
theorem d44_62 : decode (mCode 44) 62 = .ok (.iconst (-1), 1) := by decide +kernel
theorem d44_63 : decode (mCode 44) 63 = .ok (.invokestatic 36, 3) := by decide +kernel
theorem d44_66 : decode (mCode 44) 66 = .ok (.return_, 1) := by decide +kernel
theorem d65_0 : decode (mCode 65) 0 = .ok (.aload_n 0, 1) := by decide +kernel
theorem d65_1 : decode (mCode 65) 1 = .ok (.invokespecial 3, 3) := by decide +kernel
theorem d65_4 : decode (mCode 65) 4 = .ok (.aload_n 0, 1) := by decide +kernel
theorem d65_5 : decode (mCode 65) 5 = .ok (.bipush 42, 2) := by decide +kernel
theorem d65_7 : decode (mCode 65) 7 = .ok (.newarray .int, 2) := by decide +kernel
theorem d65_9 : decode (mCode 65) 9 = .ok (.putfield 9, 3) := by decide +kernel
theorem d65_12 : decode (mCode 65) 12 = .ok (.aload_n 0, 1) := by decide +kernel
theorem d65_13 : decode (mCode 65) 13 = .ok (.bipush 42, 2) := by decide +kernel
theorem d65_15 : decode (mCode 65) 15 = .ok (.newarray .int, 2) := by decide +kernel
theorem d65_17 : decode (mCode 65) 17 = .ok (.putfield 15, 3) := by decide +kernel
theorem d65_20 : decode (mCode 65) 20 = .ok (.aload_n 0, 1) := by decide +kernel
theorem d65_21 : decode (mCode 65) 21 = .ok (.new 18, 3) := by decide +kernel
theorem d65_24 : decode (mCode 65) 24 = .ok (.dup, 1) := by decide +kernel
theorem d65_25 : decode (mCode 65) 25 = .ok (.invokespecial 20, 3) := by decide +kernel
theorem d65_28 : decode (mCode 65) 28 = .ok (.putfield 21, 3) := by decide +kernel
theorem d65_31 : decode (mCode 65) 31 = .ok (.return_, 1) := by decide +kernel
theorem d78_0 : decode (mCode 78) 0 = .ok (.aload_n 0, 1) := by decide +kernel
theorem d78_1 : decode (mCode 78) 1 = .ok (.invokespecial 3, 3) := by decide +kernel
theorem d78_4 : decode (mCode 78) 4 = .ok (.aload_n 0, 1) := by decide +kernel
theorem d78_5 : decode (mCode 78) 5 = .ok (.bipush 75, 2) := by decide +kernel
theorem d78_7 : decode (mCode 78) 7 = .ok (.newarray .int, 2) := by decide +kernel
theorem d78_9 : decode (mCode 78) 9 = .ok (.putfield 9, 3) := by decide +kernel
theorem d78_12 : decode (mCode 78) 12 = .ok (.aload_n 0, 1) := by decide +kernel
theorem d78_13 : decode (mCode 78) 13 = .ok (.bipush 75, 2) := by decide +kernel
theorem d78_15 : decode (mCode 78) 15 = .ok (.newarray .int, 2) := by decide +kernel
theorem d78_17 : decode (mCode 78) 17 = .ok (.putfield 15, 3) := by decide +kernel
theorem d78_20 : decode (mCode 78) 20 = .ok (.aload_n 0, 1) := by decide +kernel
theorem d78_21 : decode (mCode 78) 21 = .ok (.bipush 75, 2) := by decide +kernel
theorem d78_23 : decode (mCode 78) 23 = .ok (.newarray .int, 2) := by decide +kernel
theorem d78_25 : decode (mCode 78) 25 = .ok (.putfield 18, 3) := by decide +kernel
theorem d78_28 : decode (mCode 78) 28 = .ok (.aload_n 0, 1) := by decide +kernel
theorem d78_29 : decode (mCode 78) 29 = .ok (.aload_n 1, 1) := by decide +kernel
theorem d78_30 : decode (mCode 78) 30 = .ok (.putfield 21, 3) := by decide +kernel
theorem d78_33 : decode (mCode 78) 33 = .ok (.aload_n 0, 1) := by decide +kernel
theorem d78_34 : decode (mCode 78) 34 = .ok (.aload_n 2, 1) := by decide +kernel
theorem d78_35 : decode (mCode 78) 35 = .ok (.putfield 25, 3) := by decide +kernel
theorem d78_38 : decode (mCode 78) 38 = .ok (.aload_n 0, 1) := by decide +kernel
theorem d78_39 : decode (mCode 78) 39 = .ok (.new 29, 3) := by decide +kernel
theorem d78_42 : decode (mCode 78) 42 = .ok (.dup, 1) := by decide +kernel
theorem d78_43 : decode (mCode 78) 43 = .ok (.aload_n 1, 1) := by decide +kernel
theorem d78_44 : decode (mCode 78) 44 = .ok (.invokespecial 31, 3) := by decide +kernel
theorem d78_47 : decode (mCode 78) 47 = .ok (.putfield 34, 3) := by decide +kernel
theorem d78_50 : decode (mCode 78) 50 = .ok (.return_, 1) := by decide +kernel
theorem d87_0 : decode (mCode 87) 0 = .ok (.aload_n 0, 1) := by decide +kernel
theorem d87_1 : decode (mCode 87) 1 = .ok (.invokespecial 3, 3) := by decide +kernel
theorem d87_4 : decode (mCode 87) 4 = .ok (.return_, 1) := by decide +kernel
theorem d91_0 : decode (mCode 91) 0 = .ok (.aload_n 0, 1) := by decide +kernel
theorem d91_1 : decode (mCode 91) 1 = .ok (.invokespecial 3, 3) := by decide +kernel
theorem d91_4 : decode (mCode 91) 4 = .ok (.new 9, 3) := by decide +kernel
theorem d91_7 : decode (mCode 91) 7 = .ok (.dup, 1) := by decide +kernel
theorem d91_8 : decode (mCode 91) 8 = .ok (.invokespecial 11, 3) := by decide +kernel
theorem d91_11 : decode (mCode 91) 11 = .ok (.astore_n 1, 1) := by decide +kernel
theorem d91_12 : decode (mCode 91) 12 = .ok (.new 12, 3) := by decide +kernel
theorem d91_15 : decode (mCode 91) 15 = .ok (.dup, 1) := by decide +kernel
theorem d91_16 : decode (mCode 91) 16 = .ok (.aload_n 1, 1) := by decide +kernel
theorem d91_17 : decode (mCode 91) 17 = .ok (.invokespecial 14, 3) := by decide +kernel
theorem d91_20 : decode (mCode 91) 20 = .ok (.astore_n 2, 1) := by decide +kernel
theorem d91_21 : decode (mCode 91) 21 = .ok (.new 17, 3) := by decide +kernel
theorem d91_24 : decode (mCode 91) 24 = .ok (.dup, 1) := by decide +kernel
theorem d91_25 : decode (mCode 91) 25 = .ok (.aload_n 1, 1) := by decide +kernel
theorem d91_26 : decode (mCode 91) 26 = .ok (.aload_n 2, 1) := by decide +kernel
theorem d91_27 : decode (mCode 91) 27 = .ok (.invokespecial 19, 3) := by decide +kernel
theorem d91_30 : decode (mCode 91) 30 = .ok (.astore_n 3, 1) := by decide +kernel
theorem d91_31 : decode (mCode 91) 31 = .ok (.aload_n 0, 1) := by decide +kernel
theorem d91_32 : decode (mCode 91) 32 = .ok (.aload_n 1, 1) := by decide +kernel
theorem d91_33 : decode (mCode 91) 33 = .ok (.putfield 22, 3) := by decide +kernel
theorem d91_36 : decode (mCode 91) 36 = .ok (.aload_n 0, 1) := by decide +kernel
theorem d91_37 : decode (mCode 91) 37 = .ok (.aload_n 2, 1) := by decide +kernel
theorem d91_38 : decode (mCode 91) 38 = .ok (.putfield 26, 3) := by decide +kernel
theorem d91_41 : decode (mCode 91) 41 = .ok (.aload_n 0, 1) := by decide +kernel
theorem d91_42 : decode (mCode 91) 42 = .ok (.aload_n 3, 1) := by decide +kernel
theorem d91_43 : decode (mCode 91) 43 = .ok (.putfield 30, 3) := by decide +kernel
theorem d91_46 : decode (mCode 91) 46 = .ok (.aload_n 0, 1) := by decide +kernel
theorem d91_47 : decode (mCode 91) 47 = .ok (.new 34, 3) := by decide +kernel
theorem d91_50 : decode (mCode 91) 50 = .ok (.dup, 1) := by decide +kernel
theorem d91_51 : decode (mCode 91) 51 = .ok (.aload_n 1, 1) := by decide +kernel
theorem d91_52 : decode (mCode 91) 52 = .ok (.aload_n 3, 1) := by decide +kernel
theorem d91_53 : decode (mCode 91) 53 = .ok (.invokespecial 36, 3) := by decide +kernel
theorem d91_56 : decode (mCode 91) 56 = .ok (.putfield 39, 3) := by decide +kernel
theorem d91_59 : decode (mCode 91) 59 = .ok (.aload_n 0, 1) := by decide +kernel
theorem d91_60 : decode (mCode 91) 60 = .ok (.new 43, 3) := by decide +kernel
theorem d91_63 : decode (mCode 91) 63 = .ok (.dup, 1) := by decide +kernel
theorem d91_64 : decode (mCode 91) 64 = .ok (.aload_n 1, 1) := by decide +kernel
theorem d91_65 : decode (mCode 91) 65 = .ok (.aload_n 3, 1) := by decide +kernel
theorem d91_66 : decode (mCode 91) 66 = .ok (.invokespecial 45, 3) := by decide +kernel
theorem d91_69 : decode (mCode 91) 69 = .ok (.putfield 46, 3) := by decide +kernel
theorem d91_72 : decode (mCode 91) 72 = .ok (.return_, 1) := by decide +kernel
theorem d112_0 : decode (mCode 112) 0 = .ok (.aload_n 0, 1) := by decide +kernel
theorem d112_1 : decode (mCode 112) 1 = .ok (.invokespecial 1, 3) := by decide +kernel
theorem d112_4 : decode (mCode 112) 4 = .ok (.aload_n 0, 1) := by decide +kernel
theorem d112_5 : decode (mCode 112) 5 = .ok (.bipush 42, 2) := by decide +kernel
theorem d112_7 : decode (mCode 112) 7 = .ok (.newarray .long, 2) := by decide +kernel
theorem d112_9 : decode (mCode 112) 9 = .ok (.putfield 7, 3) := by decide +kernel
theorem d112_12 : decode (mCode 112) 12 = .ok (.aload_n 0, 1) := by decide +kernel
theorem d112_13 : decode (mCode 112) 13 = .ok (.bipush 42, 2) := by decide +kernel
theorem d112_15 : decode (mCode 112) 15 = .ok (.newarray .long, 2) := by decide +kernel
theorem d112_17 : decode (mCode 112) 17 = .ok (.putfield 13, 3) := by decide +kernel
theorem d112_20 : decode (mCode 112) 20 = .ok (.aload_n 0, 1) := by decide +kernel
theorem d112_21 : decode (mCode 112) 21 = .ok (.sipush 1600, 3) := by decide +kernel
theorem d112_24 : decode (mCode 112) 24 = .ok (.newarray .boolean, 2) := by decide +kernel
theorem d112_26 : decode (mCode 112) 26 = .ok (.putfield 16, 3) := by decide +kernel
theorem d112_29 : decode (mCode 112) 29 = .ok (.aload_n 0, 1) := by decide +kernel
theorem d112_30 : decode (mCode 112) 30 = .ok (.sipush 1600, 3) := by decide +kernel
theorem d112_33 : decode (mCode 112) 33 = .ok (.newarray .boolean, 2) := by decide +kernel
theorem d112_35 : decode (mCode 112) 35 = .ok (.putfield 20, 3) := by decide +kernel
theorem d112_38 : decode (mCode 112) 38 = .ok (.aload_n 0, 1) := by decide +kernel
theorem d112_39 : decode (mCode 112) 39 = .ok (.sipush 300, 3) := by decide +kernel
theorem d112_42 : decode (mCode 112) 42 = .ok (.newarray .int, 2) := by decide +kernel
theorem d112_44 : decode (mCode 112) 44 = .ok (.putfield 23, 3) := by decide +kernel
theorem d112_47 : decode (mCode 112) 47 = .ok (.aload_n 0, 1) := by decide +kernel
theorem d112_48 : decode (mCode 112) 48 = .ok (.bipush 100, 2) := by decide +kernel
theorem d112_50 : decode (mCode 112) 50 = .ok (.newarray .int, 2) := by decide +kernel
theorem d112_52 : decode (mCode 112) 52 = .ok (.putfield 27, 3) := by decide +kernel
theorem d112_55 : decode (mCode 112) 55 = .ok (.aload_n 0, 1) := by decide +kernel
theorem d112_56 : decode (mCode 112) 56 = .ok (.bipush 100, 2) := by decide +kernel
theorem d112_58 : decode (mCode 112) 58 = .ok (.newarray .int, 2) := by decide +kernel
theorem d112_60 : decode (mCode 112) 60 = .ok (.putfield 30, 3) := by decide +kernel
theorem d112_63 : decode (mCode 112) 63 = .ok (.aload_n 0, 1) := by decide +kernel
theorem d112_64 : decode (mCode 112) 64 = .ok (.bipush 100, 2) := by decide +kernel
theorem d112_66 : decode (mCode 112) 66 = .ok (.newarray .int, 2) := by decide +kernel
theorem d112_68 : decode (mCode 112) 68 = .ok (.putfield 33, 3) := by decide +kernel
theorem d112_71 : decode (mCode 112) 71 = .ok (.aload_n 0, 1) := by decide +kernel
theorem d112_72 : decode (mCode 112) 72 = .ok (.bipush 100, 2) := by decide +kernel
theorem d112_74 : decode (mCode 112) 74 = .ok (.newarray .int, 2) := by decide +kernel
theorem d112_76 : decode (mCode 112) 76 = .ok (.putfield 36, 3) := by decide +kernel
theorem d112_79 : decode (mCode 112) 79 = .ok (.aload_n 0, 1) := by decide +kernel
theorem d112_80 : decode (mCode 112) 80 = .ok (.bipush 100, 2) := by decide +kernel
theorem d112_82 : decode (mCode 112) 82 = .ok (.newarray .int, 2) := by decide +kernel
theorem d112_84 : decode (mCode 112) 84 = .ok (.putfield 39, 3) := by decide +kernel
theorem d112_87 : decode (mCode 112) 87 = .ok (.return_, 1) := by decide +kernel
def HK0 : mHp := [(.inr (8, [.null, .null, .null, .null, .null]))]
def HK1 : mHp := [(.inr (8, [.null, .null, .null, .null, .null])), (.inr (5, [.null, .null, .null, .int 0]))]
def HK2 : mHp := [(.inr (8, [.null, .null, .null, .null, .null])), (.inr (5, [.ref 18, .ref 19, .null, .int 0])), (.inl (.int, 42, .inl ((fun _ => 0)))), (.inl (.int, 42, .inl ((fun _ => 0)))), (.inr (7, [.long 0, .long 0, .long 0]))]
def HK3 : mHp := [(.inr (8, [.null, .null, .null, .null, .null])), (.inr (5, [.ref 18, .ref 19, .null, .int 0])), (.inl (.int, 42, .inl ((fun _ => 0)))), (.inl (.int, 42, .inl ((fun _ => 0)))), (.inr (7, [.long 0, .long 0, .long 0]))]
def HK4 : mHp := [(.inr (8, [.null, .null, .null, .null, .null])), (.inr (5, [.ref 18, .ref 19, .ref 20, .int 0])), (.inl (.int, 42, .inl ((fun _ => 0)))), (.inl (.int, 42, .inl ((fun _ => 0)))), (.inr (7, [.long 0, .long 0, .long 0]))]
def HK5 : mHp := [(.inr (8, [.null, .null, .null, .null, .null])), (.inr (5, [.ref 18, .ref 19, .ref 20, .int 0])), (.inl (.int, 42, .inl ((fun _ => 0)))), (.inl (.int, 42, .inl ((fun _ => 0)))), (.inr (7, [.long 0, .long 0, .long 0])), (.inr (3, [.null, .null, .int 0]))]
def HK6 : mHp := [(.inr (8, [.null, .null, .null, .null, .null])), (.inr (5, [.ref 18, .ref 19, .ref 20, .int 0])), (.inl (.int, 42, .inl ((fun _ => 0)))), (.inl (.int, 42, .inl ((fun _ => 0)))), (.inr (7, [.long 0, .long 0, .long 0])), (.inr (3, [.ref 17, .ref 22, .int 0])), (.inl (.long, 40, .inr (.inl ((fun _ => 0)))))]
def HK7 : mHp := [(.inr (8, [.null, .null, .null, .null, .null])), (.inr (5, [.ref 18, .ref 19, .ref 20, .int 0])), (.inl (.int, 42, .inl ((fun _ => 0)))), (.inl (.int, 42, .inl ((fun _ => 0)))), (.inr (7, [.long 0, .long 0, .long 0])), (.inr (3, [.ref 17, .ref 22, .int 0])), (.inl (.long, 40, .inr (.inl ((fun _ => 0))))), (.inr (4, [.null, .null, .null, .null, .null, .int 0, .null, .int 0, .null]))]
def HK8 : mHp := [(.inr (8, [.null, .null, .null, .null, .null])), (.inr (5, [.ref 18, .ref 19, .ref 20, .int 0])), (.inl (.int, 42, .inl ((fun _ => 0)))), (.inl (.int, 42, .inl ((fun _ => 0)))), (.inr (7, [.long 0, .long 0, .long 0])), (.inr (3, [.ref 17, .ref 22, .int 0])), (.inl (.long, 40, .inr (.inl ((fun _ => 0))))), (.inr (4, [.ref 17, .ref 21, .ref 24, .ref 25, .ref 26, .int 0, .ref 27, .int 0, .ref 28])), (.inl (.int, 1600, .inl (mfill 1600 (-1) (fun _ => 0)))), (.inl (.int, 1600, .inl ((fun _ => 0)))), (.inl (.int, 225, .inl ((fun _ => 0)))), (.inl (.int, 800, .inl ((fun _ => 0)))), (.inl (.long, 40, .inr (.inl ((fun _ => 0)))))]
def HK9 : mHp := [(.inr (8, [.ref 17, .ref 21, .ref 23, .null, .null])), (.inr (5, [.ref 18, .ref 19, .ref 20, .int 0])), (.inl (.int, 42, .inl ((fun _ => 0)))), (.inl (.int, 42, .inl ((fun _ => 0)))), (.inr (7, [.long 0, .long 0, .long 0])), (.inr (3, [.ref 17, .ref 22, .int 0])), (.inl (.long, 40, .inr (.inl ((fun _ => 0))))), (.inr (4, [.ref 17, .ref 21, .ref 24, .ref 25, .ref 26, .int 0, .ref 27, .int 0, .ref 28])), (.inl (.int, 1600, .inl (mfill 1600 (-1) (fun _ => 0)))), (.inl (.int, 1600, .inl ((fun _ => 0)))), (.inl (.int, 225, .inl ((fun _ => 0)))), (.inl (.int, 800, .inl ((fun _ => 0)))), (.inl (.long, 40, .inr (.inl ((fun _ => 0))))), (.inr (2, [.null, .null, .null, .null, .int 0]))]
def HK10 : mHp := [(.inr (8, [.ref 17, .ref 21, .ref 23, .null, .null])), (.inr (5, [.ref 18, .ref 19, .ref 20, .int 0])), (.inl (.int, 42, .inl ((fun _ => 0)))), (.inl (.int, 42, .inl ((fun _ => 0)))), (.inr (7, [.long 0, .long 0, .long 0])), (.inr (3, [.ref 17, .ref 22, .int 0])), (.inl (.long, 40, .inr (.inl ((fun _ => 0))))), (.inr (4, [.ref 17, .ref 21, .ref 24, .ref 25, .ref 26, .int 0, .ref 27, .int 0, .ref 28])), (.inl (.int, 1600, .inl (mfill 1600 (-1) (fun _ => 0)))), (.inl (.int, 1600, .inl ((fun _ => 0)))), (.inl (.int, 225, .inl ((fun _ => 0)))), (.inl (.int, 800, .inl ((fun _ => 0)))), (.inl (.long, 40, .inr (.inl ((fun _ => 0))))), (.inr (2, [.ref 17, .ref 23, .ref 30, .ref 31, .int 0])), (.inl (.int, 75, .inl ((fun _ => 0)))), (.inl (.int, 75, .inl ((fun _ => 0))))]
def HK11 : mHp := [(.inr (8, [.ref 17, .ref 21, .ref 23, .ref 29, .null])), (.inr (5, [.ref 18, .ref 19, .ref 20, .int 0])), (.inl (.int, 42, .inl ((fun _ => 0)))), (.inl (.int, 42, .inl ((fun _ => 0)))), (.inr (7, [.long 0, .long 0, .long 0])), (.inr (3, [.ref 17, .ref 22, .int 0])), (.inl (.long, 40, .inr (.inl ((fun _ => 0))))), (.inr (4, [.ref 17, .ref 21, .ref 24, .ref 25, .ref 26, .int 0, .ref 27, .int 0, .ref 28])), (.inl (.int, 1600, .inl (mfill 1600 (-1) (fun _ => 0)))), (.inl (.int, 1600, .inl ((fun _ => 0)))), (.inl (.int, 225, .inl ((fun _ => 0)))), (.inl (.int, 800, .inl ((fun _ => 0)))), (.inl (.long, 40, .inr (.inl ((fun _ => 0))))), (.inr (2, [.ref 17, .ref 23, .ref 30, .ref 31, .int 0])), (.inl (.int, 75, .inl ((fun _ => 0)))), (.inl (.int, 75, .inl ((fun _ => 0)))), (.inr (6, [.null, .null, .null, .null, .int 0, .null, .null]))]
def HK12 : mHp := [(.inr (8, [.ref 17, .ref 21, .ref 23, .ref 29, .null])), (.inr (5, [.ref 18, .ref 19, .ref 20, .int 0])), (.inl (.int, 42, .inl ((fun _ => 0)))), (.inl (.int, 42, .inl ((fun _ => 0)))), (.inr (7, [.long 0, .long 0, .long 0])), (.inr (3, [.ref 17, .ref 22, .int 0])), (.inl (.long, 40, .inr (.inl ((fun _ => 0))))), (.inr (4, [.ref 17, .ref 21, .ref 24, .ref 25, .ref 26, .int 0, .ref 27, .int 0, .ref 28])), (.inl (.int, 1600, .inl (mfill 1600 (-1) (fun _ => 0)))), (.inl (.int, 1600, .inl ((fun _ => 0)))), (.inl (.int, 225, .inl ((fun _ => 0)))), (.inl (.int, 800, .inl ((fun _ => 0)))), (.inl (.long, 40, .inr (.inl ((fun _ => 0))))), (.inr (2, [.ref 17, .ref 23, .ref 30, .ref 31, .int 0])), (.inl (.int, 75, .inl ((fun _ => 0)))), (.inl (.int, 75, .inl ((fun _ => 0)))), (.inr (6, [.ref 17, .ref 23, .null, .ref 33, .int 0, .ref 34, .ref 35])), (.inl (.int, 75, .inl ((fun _ => 0)))), (.inl (.int, 75, .inl ((fun _ => 0)))), (.inl (.int, 75, .inl ((fun _ => 0)))), (.inr (1, [.null, .null, .null, .int 0, .int 0, .int 0, .null, .int 0]))]
def HK13 : mHp := [(.inr (8, [.ref 17, .ref 21, .ref 23, .ref 29, .null])), (.inr (5, [.ref 18, .ref 19, .ref 20, .int 0])), (.inl (.int, 42, .inl ((fun _ => 0)))), (.inl (.int, 42, .inl ((fun _ => 0)))), (.inr (7, [.long 0, .long 0, .long 0])), (.inr (3, [.ref 17, .ref 22, .int 0])), (.inl (.long, 40, .inr (.inl ((fun _ => 0))))), (.inr (4, [.ref 17, .ref 21, .ref 24, .ref 25, .ref 26, .int 0, .ref 27, .int 0, .ref 28])), (.inl (.int, 1600, .inl (mfill 1600 (-1) (fun _ => 0)))), (.inl (.int, 1600, .inl ((fun _ => 0)))), (.inl (.int, 225, .inl ((fun _ => 0)))), (.inl (.int, 800, .inl ((fun _ => 0)))), (.inl (.long, 40, .inr (.inl ((fun _ => 0))))), (.inr (2, [.ref 17, .ref 23, .ref 30, .ref 31, .int 0])), (.inl (.int, 75, .inl ((fun _ => 0)))), (.inl (.int, 75, .inl ((fun _ => 0)))), (.inr (6, [.ref 17, .ref 23, .null, .ref 33, .int 0, .ref 34, .ref 35])), (.inl (.int, 75, .inl ((fun _ => 0)))), (.inl (.int, 75, .inl ((fun _ => 0)))), (.inl (.int, 75, .inl ((fun _ => 0)))), (.inr (1, [.null, .null, .null, .int 0, .int 0, .int 0, .null, .int 0])), (.inr (0, [.int 0, .null, .int 0, .int 0]))]
def HK14 : mHp := [(.inr (8, [.ref 17, .ref 21, .ref 23, .ref 29, .null])), (.inr (5, [.ref 18, .ref 19, .ref 20, .int 0])), (.inl (.int, 42, .inl ((fun _ => 0)))), (.inl (.int, 42, .inl ((fun _ => 0)))), (.inr (7, [.long 0, .long 0, .long 0])), (.inr (3, [.ref 17, .ref 22, .int 0])), (.inl (.long, 40, .inr (.inl ((fun _ => 0))))), (.inr (4, [.ref 17, .ref 21, .ref 24, .ref 25, .ref 26, .int 0, .ref 27, .int 0, .ref 28])), (.inl (.int, 1600, .inl (mfill 1600 (-1) (fun _ => 0)))), (.inl (.int, 1600, .inl ((fun _ => 0)))), (.inl (.int, 225, .inl ((fun _ => 0)))), (.inl (.int, 800, .inl ((fun _ => 0)))), (.inl (.long, 40, .inr (.inl ((fun _ => 0))))), (.inr (2, [.ref 17, .ref 23, .ref 30, .ref 31, .int 0])), (.inl (.int, 75, .inl ((fun _ => 0)))), (.inl (.int, 75, .inl ((fun _ => 0)))), (.inr (6, [.ref 17, .ref 23, .null, .ref 33, .int 0, .ref 34, .ref 35])), (.inl (.int, 75, .inl ((fun _ => 0)))), (.inl (.int, 75, .inl ((fun _ => 0)))), (.inl (.int, 75, .inl ((fun _ => 0)))), (.inr (1, [.null, .null, .null, .int 0, .int 0, .int 0, .null, .int 0])), (.inr (0, [.int 1, .ref 38, .int 0, .int 0])), (.inl (.int, 77, .inl ((fun _ => 0))))]
def HK15 : mHp := [(.inr (8, [.ref 17, .ref 21, .ref 23, .ref 29, .null])), (.inr (5, [.ref 18, .ref 19, .ref 20, .int 0])), (.inl (.int, 42, .inl ((fun _ => 0)))), (.inl (.int, 42, .inl ((fun _ => 0)))), (.inr (7, [.long 0, .long 0, .long 0])), (.inr (3, [.ref 17, .ref 22, .int 0])), (.inl (.long, 40, .inr (.inl ((fun _ => 0))))), (.inr (4, [.ref 17, .ref 21, .ref 24, .ref 25, .ref 26, .int 0, .ref 27, .int 0, .ref 28])), (.inl (.int, 1600, .inl (mfill 1600 (-1) (fun _ => 0)))), (.inl (.int, 1600, .inl ((fun _ => 0)))), (.inl (.int, 225, .inl ((fun _ => 0)))), (.inl (.int, 800, .inl ((fun _ => 0)))), (.inl (.long, 40, .inr (.inl ((fun _ => 0))))), (.inr (2, [.ref 17, .ref 23, .ref 30, .ref 31, .int 0])), (.inl (.int, 75, .inl ((fun _ => 0)))), (.inl (.int, 75, .inl ((fun _ => 0)))), (.inr (6, [.ref 17, .ref 23, .null, .ref 33, .int 0, .ref 34, .ref 35])), (.inl (.int, 75, .inl ((fun _ => 0)))), (.inl (.int, 75, .inl ((fun _ => 0)))), (.inl (.int, 75, .inl ((fun _ => 0)))), (.inr (1, [.null, .ref 37, .null, .int 0, .int 0, .int 0, .null, .int 0])), (.inr (0, [.int 1, .ref 38, .int 0, .int 0])), (.inl (.int, 77, .inl ((fun _ => 0)))), (.inr (0, [.int 0, .null, .int 0, .int 0]))]
def HK16 : mHp := [(.inr (8, [.ref 17, .ref 21, .ref 23, .ref 29, .null])), (.inr (5, [.ref 18, .ref 19, .ref 20, .int 0])), (.inl (.int, 42, .inl ((fun _ => 0)))), (.inl (.int, 42, .inl ((fun _ => 0)))), (.inr (7, [.long 0, .long 0, .long 0])), (.inr (3, [.ref 17, .ref 22, .int 0])), (.inl (.long, 40, .inr (.inl ((fun _ => 0))))), (.inr (4, [.ref 17, .ref 21, .ref 24, .ref 25, .ref 26, .int 0, .ref 27, .int 0, .ref 28])), (.inl (.int, 1600, .inl (mfill 1600 (-1) (fun _ => 0)))), (.inl (.int, 1600, .inl ((fun _ => 0)))), (.inl (.int, 225, .inl ((fun _ => 0)))), (.inl (.int, 800, .inl ((fun _ => 0)))), (.inl (.long, 40, .inr (.inl ((fun _ => 0))))), (.inr (2, [.ref 17, .ref 23, .ref 30, .ref 31, .int 0])), (.inl (.int, 75, .inl ((fun _ => 0)))), (.inl (.int, 75, .inl ((fun _ => 0)))), (.inr (6, [.ref 17, .ref 23, .null, .ref 33, .int 0, .ref 34, .ref 35])), (.inl (.int, 75, .inl ((fun _ => 0)))), (.inl (.int, 75, .inl ((fun _ => 0)))), (.inl (.int, 75, .inl ((fun _ => 0)))), (.inr (1, [.null, .ref 37, .null, .int 0, .int 0, .int 0, .null, .int 0])), (.inr (0, [.int 1, .ref 38, .int 0, .int 0])), (.inl (.int, 77, .inl ((fun _ => 0)))), (.inr (0, [.int (-1), .ref 40, .int 0, .int 0])), (.inl (.int, 77, .inl ((fun _ => 0))))]
def HK17 : mHp := [(.inr (8, [.ref 17, .ref 21, .ref 23, .ref 29, .null])), (.inr (5, [.ref 18, .ref 19, .ref 20, .int 0])), (.inl (.int, 42, .inl ((fun _ => 0)))), (.inl (.int, 42, .inl ((fun _ => 0)))), (.inr (7, [.long 0, .long 0, .long 0])), (.inr (3, [.ref 17, .ref 22, .int 0])), (.inl (.long, 40, .inr (.inl ((fun _ => 0))))), (.inr (4, [.ref 17, .ref 21, .ref 24, .ref 25, .ref 26, .int 0, .ref 27, .int 0, .ref 28])), (.inl (.int, 1600, .inl (mfill 1600 (-1) (fun _ => 0)))), (.inl (.int, 1600, .inl ((fun _ => 0)))), (.inl (.int, 225, .inl ((fun _ => 0)))), (.inl (.int, 800, .inl ((fun _ => 0)))), (.inl (.long, 40, .inr (.inl ((fun _ => 0))))), (.inr (2, [.ref 17, .ref 23, .ref 30, .ref 31, .int 0])), (.inl (.int, 75, .inl ((fun _ => 0)))), (.inl (.int, 75, .inl ((fun _ => 0)))), (.inr (6, [.ref 17, .ref 23, .null, .ref 33, .int 0, .ref 34, .ref 35])), (.inl (.int, 75, .inl ((fun _ => 0)))), (.inl (.int, 75, .inl ((fun _ => 0)))), (.inl (.int, 75, .inl ((fun _ => 0)))), (.inr (1, [.ref 17, .ref 37, .ref 39, .int 0, .int 0, .int 0, .ref 41, .int 0])), (.inr (0, [.int 1, .ref 38, .int 0, .int 0])), (.inl (.int, 77, .inl ((fun _ => 0)))), (.inr (0, [.int (-1), .ref 40, .int 0, .int 0])), (.inl (.int, 77, .inl ((fun _ => 0)))), (.inl (.int, 77, .inl ((fun _ => 0))))]
def HK18 : mHp := [(.inr (8, [.ref 17, .ref 21, .ref 23, .ref 29, .null])), (.inr (5, [.ref 18, .ref 19, .ref 20, .int 0])), (.inl (.int, 42, .inl ((fun _ => 0)))), (.inl (.int, 42, .inl ((fun _ => 0)))), (.inr (7, [.long 0, .long 0, .long 0])), (.inr (3, [.ref 17, .ref 22, .int 0])), (.inl (.long, 40, .inr (.inl ((fun _ => 0))))), (.inr (4, [.ref 17, .ref 21, .ref 24, .ref 25, .ref 26, .int 0, .ref 27, .int 0, .ref 28])), (.inl (.int, 1600, .inl (mfill 1600 (-1) (fun _ => 0)))), (.inl (.int, 1600, .inl ((fun _ => 0)))), (.inl (.int, 225, .inl ((fun _ => 0)))), (.inl (.int, 800, .inl ((fun _ => 0)))), (.inl (.long, 40, .inr (.inl ((fun _ => 0))))), (.inr (2, [.ref 17, .ref 23, .ref 30, .ref 31, .int 0])), (.inl (.int, 75, .inl ((fun _ => 0)))), (.inl (.int, 75, .inl ((fun _ => 0)))), (.inr (6, [.ref 17, .ref 23, .ref 36, .ref 33, .int 0, .ref 34, .ref 35])), (.inl (.int, 75, .inl ((fun _ => 0)))), (.inl (.int, 75, .inl ((fun _ => 0)))), (.inl (.int, 75, .inl ((fun _ => 0)))), (.inr (1, [.ref 17, .ref 37, .ref 39, .int 0, .int 0, .int 0, .ref 41, .int 0])), (.inr (0, [.int 1, .ref 38, .int 0, .int 0])), (.inl (.int, 77, .inl ((fun _ => 0)))), (.inr (0, [.int (-1), .ref 40, .int 0, .int 0])), (.inl (.int, 77, .inl ((fun _ => 0)))), (.inl (.int, 77, .inl ((fun _ => 0))))]
def HK19 : mHp := [(.inr (8, [.ref 17, .ref 21, .ref 23, .ref 29, .ref 32])), (.inr (5, [.ref 18, .ref 19, .ref 20, .int 0])), (.inl (.int, 42, .inl ((fun _ => 0)))), (.inl (.int, 42, .inl ((fun _ => 0)))), (.inr (7, [.long 0, .long 0, .long 0])), (.inr (3, [.ref 17, .ref 22, .int 0])), (.inl (.long, 40, .inr (.inl ((fun _ => 0))))), (.inr (4, [.ref 17, .ref 21, .ref 24, .ref 25, .ref 26, .int 0, .ref 27, .int 0, .ref 28])), (.inl (.int, 1600, .inl (mfill 1600 (-1) (fun _ => 0)))), (.inl (.int, 1600, .inl ((fun _ => 0)))), (.inl (.int, 225, .inl ((fun _ => 0)))), (.inl (.int, 800, .inl ((fun _ => 0)))), (.inl (.long, 40, .inr (.inl ((fun _ => 0))))), (.inr (2, [.ref 17, .ref 23, .ref 30, .ref 31, .int 0])), (.inl (.int, 75, .inl ((fun _ => 0)))), (.inl (.int, 75, .inl ((fun _ => 0)))), (.inr (6, [.ref 17, .ref 23, .ref 36, .ref 33, .int 0, .ref 34, .ref 35])), (.inl (.int, 75, .inl ((fun _ => 0)))), (.inl (.int, 75, .inl ((fun _ => 0)))), (.inl (.int, 75, .inl ((fun _ => 0)))), (.inr (1, [.ref 17, .ref 37, .ref 39, .int 0, .int 0, .int 0, .ref 41, .int 0])), (.inr (0, [.int 1, .ref 38, .int 0, .int 0])), (.inl (.int, 77, .inl ((fun _ => 0)))), (.inr (0, [.int (-1), .ref 40, .int 0, .int 0])), (.inl (.int, 77, .inl ((fun _ => 0)))), (.inl (.int, 77, .inl ((fun _ => 0))))]
def HK20 : mHp := [(.inr (8, [.ref 17, .ref 21, .ref 23, .ref 29, .ref 32])), (.inr (5, [.ref 18, .ref 19, .ref 20, .int 0])), (.inl (.int, 42, .inl ((fun _ => 0)))), (.inl (.int, 42, .inl ((fun _ => 0)))), (.inr (7, [.long 0, .long 0, .long 0])), (.inr (3, [.ref 17, .ref 22, .int 0])), (.inl (.long, 40, .inr (.inl ((fun _ => 0))))), (.inr (4, [.ref 17, .ref 21, .ref 24, .ref 25, .ref 26, .int 0, .ref 27, .int 0, .ref 28])), (.inl (.int, 1600, .inl (mfill 1600 (-1) (fun _ => 0)))), (.inl (.int, 1600, .inl ((fun _ => 0)))), (.inl (.int, 225, .inl ((fun _ => 0)))), (.inl (.int, 800, .inl ((fun _ => 0)))), (.inl (.long, 40, .inr (.inl ((fun _ => 0))))), (.inr (2, [.ref 17, .ref 23, .ref 30, .ref 31, .int 0])), (.inl (.int, 75, .inl ((fun _ => 0)))), (.inl (.int, 75, .inl ((fun _ => 0)))), (.inr (6, [.ref 17, .ref 23, .ref 36, .ref 33, .int 0, .ref 34, .ref 35])), (.inl (.int, 75, .inl ((fun _ => 0)))), (.inl (.int, 75, .inl ((fun _ => 0)))), (.inl (.int, 75, .inl ((fun _ => 0)))), (.inr (1, [.ref 17, .ref 37, .ref 39, .int 0, .int 0, .int 0, .ref 41, .int 0])), (.inr (0, [.int 1, .ref 38, .int 0, .int 0])), (.inl (.int, 77, .inl ((fun _ => 0)))), (.inr (0, [.int (-1), .ref 40, .int 0, .int 0])), (.inl (.int, 77, .inl ((fun _ => 0)))), (.inl (.int, 77, .inl ((fun _ => 0)))), (.inr (9, [.int 0, .int 0, .null, .null, .null, .null, .int 0, .int 0, .null, .int 0, .null, .int 0, .null, .null, .null, .null, .long 0, .long 0]))]
def HK21 : mHp := [(.inr (8, [.ref 17, .ref 21, .ref 23, .ref 29, .ref 32])), (.inr (5, [.ref 18, .ref 19, .ref 20, .int 0])), (.inl (.int, 42, .inl ((fun _ => 0)))), (.inl (.int, 42, .inl ((fun _ => 0)))), (.inr (7, [.long 0, .long 0, .long 0])), (.inr (3, [.ref 17, .ref 22, .int 0])), (.inl (.long, 40, .inr (.inl ((fun _ => 0))))), (.inr (4, [.ref 17, .ref 21, .ref 24, .ref 25, .ref 26, .int 0, .ref 27, .int 0, .ref 28])), (.inl (.int, 1600, .inl (mfill 1600 (-1) (fun _ => 0)))), (.inl (.int, 1600, .inl ((fun _ => 0)))), (.inl (.int, 225, .inl ((fun _ => 0)))), (.inl (.int, 800, .inl ((fun _ => 0)))), (.inl (.long, 40, .inr (.inl ((fun _ => 0))))), (.inr (2, [.ref 17, .ref 23, .ref 30, .ref 31, .int 0])), (.inl (.int, 75, .inl ((fun _ => 0)))), (.inl (.int, 75, .inl ((fun _ => 0)))), (.inr (6, [.ref 17, .ref 23, .ref 36, .ref 33, .int 0, .ref 34, .ref 35])), (.inl (.int, 75, .inl ((fun _ => 0)))), (.inl (.int, 75, .inl ((fun _ => 0)))), (.inl (.int, 75, .inl ((fun _ => 0)))), (.inr (1, [.ref 17, .ref 37, .ref 39, .int 0, .int 0, .int 0, .ref 41, .int 0])), (.inr (0, [.int 1, .ref 38, .int 0, .int 0])), (.inl (.int, 77, .inl ((fun _ => 0)))), (.inr (0, [.int (-1), .ref 40, .int 0, .int 0])), (.inl (.int, 77, .inl ((fun _ => 0)))), (.inl (.int, 77, .inl ((fun _ => 0)))), (.inr (9, [.int 0, .int 0, .ref 43, .ref 44, .ref 45, .ref 46, .int 0, .int 0, .ref 47, .int 0, .ref 48, .int 0, .ref 49, .ref 50, .ref 51, .ref 52, .long 0, .long 0])), (.inl (.long, 42, .inr (.inl ((fun _ => 0))))), (.inl (.long, 42, .inr (.inl ((fun _ => 0))))), (.inl (.boolean, 1600, .inl ((fun _ => 0)))), (.inl (.boolean, 1600, .inl ((fun _ => 0)))), (.inl (.int, 300, .inl ((fun _ => 0)))), (.inl (.int, 100, .inl ((fun _ => 0)))), (.inl (.int, 100, .inl ((fun _ => 0)))), (.inl (.int, 100, .inl ((fun _ => 0)))), (.inl (.int, 100, .inl ((fun _ => 0)))), (.inl (.int, 100, .inl ((fun _ => 0))))]
set_option maxRecDepth 4000 in
theorem rk_HK3 {S : mE} : Run S 87 (0, [(0, .ref 20)], [], HK2) (.inl none, HK3) := by
  refine R_p d87_0 rfl rfl ?_
  refine R_obj d87_1 (List.mem_of_getElem? (i := 2) rfl) (by decide) (by decide) ?_
  exact R_vret d87_4 rfl rfl
set_option maxRecDepth 4000 in
theorem rk_HK4 {S : mE} : Run S 65 (0, [(0, .ref 17)], [], HK1) (.inl none, HK4) := by
  refine R_p d65_0 rfl rfl ?_
  refine R_obj d65_1 (List.mem_of_getElem? (i := 1) rfl) (by decide) (by decide) ?_
  refine R_p d65_4 rfl rfl ?_
  refine R_bi (v := 42) d65_5 (by decide) ?_
  refine R_newa (N := 42) d65_7 rfl rfl (by decide) (by decide) (by decide) ?_
  refine R_put d65_9 (List.mem_of_getElem? (i := 3) rfl) rfl (by decide) rfl rfl (Or.inr ⟨rfl, rfl⟩) ?_
  refine R_p d65_12 rfl rfl ?_
  refine R_bi (v := 42) d65_13 (by decide) ?_
  refine R_newa (N := 42) d65_15 rfl rfl (by decide) (by decide) (by decide) ?_
  refine R_put d65_17 (List.mem_of_getElem? (i := 4) rfl) rfl (by decide) rfl rfl (Or.inr ⟨rfl, rfl⟩) ?_
  refine R_p d65_20 rfl rfl ?_
  refine R_new d65_21 (List.mem_of_getElem? (i := 2) rfl) ?_
  refine R_p d65_24 rfl rfl ?_
  refine R_cc [] d65_25 (List.mem_of_getElem? (i := 2) rfl) rfl ⟨by decide, by decide, by decide, rfl, mcd87⟩ rfl rfl (by decide) rfl rfl rk_HK3 ?_
  refine R_put d65_28 (List.mem_of_getElem? (i := 5) rfl) rfl (by decide) rfl rfl (Or.inr ⟨rfl, rfl⟩) ?_
  exact R_vret d65_31 rfl rfl
set_option maxRecDepth 4000 in
theorem rk_HK6 {S : mE} : Run S 35 (0, [(0, .ref 21), (1, .ref 17)], [], HK5) (.inl none, HK6) := by
  refine R_p d35_0 rfl rfl ?_
  refine R_obj d35_1 (List.mem_of_getElem? (i := 3) rfl) (by decide) (by decide) ?_
  refine R_p d35_4 rfl rfl ?_
  refine R_bi (v := 40) d35_5 (by decide) ?_
  refine R_newa (N := 40) d35_7 rfl rfl (by decide) (by decide) (by decide) ?_
  refine R_put d35_9 (List.mem_of_getElem? (i := 8) rfl) rfl (by decide) rfl rfl (Or.inr ⟨rfl, rfl⟩) ?_
  refine R_p d35_12 rfl rfl ?_
  refine R_p d35_13 rfl rfl ?_
  refine R_put d35_14 (List.mem_of_getElem? (i := 7) rfl) rfl (by decide) rfl rfl (Or.inr ⟨rfl, rfl⟩) ?_
  exact R_vret d35_17 rfl rfl
set_option maxRecDepth 4000 in
theorem rk_HK8 {S : mE} : Run S 44 (0, [(0, .ref 23), (1, .ref 17), (2, .ref 21)], [], HK7) (.inl none, HK8) := by
  refine R_p d44_0 rfl rfl ?_
  refine R_obj d44_1 (List.mem_of_getElem? (i := 4) rfl) (by decide) (by decide) ?_
  refine R_p d44_4 rfl rfl ?_
  refine R_si (v := 1600) d44_5 (by decide) ?_
  refine R_newa (N := 1600) d44_8 rfl rfl (by decide) (by decide) (by decide) ?_
  refine R_put d44_10 (List.mem_of_getElem? (i := 12) rfl) rfl (by decide) rfl rfl (Or.inr ⟨rfl, rfl⟩) ?_
  refine R_p d44_13 rfl rfl ?_
  refine R_si (v := 1600) d44_14 (by decide) ?_
  refine R_newa (N := 1600) d44_17 rfl rfl (by decide) (by decide) (by decide) ?_
  refine R_put d44_19 (List.mem_of_getElem? (i := 13) rfl) rfl (by decide) rfl rfl (Or.inr ⟨rfl, rfl⟩) ?_
  refine R_p d44_22 rfl rfl ?_
  refine R_si (v := 225) d44_23 (by decide) ?_
  refine R_newa (N := 225) d44_26 rfl rfl (by decide) (by decide) (by decide) ?_
  refine R_put d44_28 (List.mem_of_getElem? (i := 14) rfl) rfl (by decide) rfl rfl (Or.inr ⟨rfl, rfl⟩) ?_
  refine R_p d44_31 rfl rfl ?_
  refine R_si (v := 800) d44_32 (by decide) ?_
  refine R_newa (N := 800) d44_35 rfl rfl (by decide) (by decide) (by decide) ?_
  refine R_put d44_37 (List.mem_of_getElem? (i := 16) rfl) rfl (by decide) rfl rfl (Or.inr ⟨rfl, rfl⟩) ?_
  refine R_p d44_40 rfl rfl ?_
  refine R_bi (v := 40) d44_41 (by decide) ?_
  refine R_newa (N := 40) d44_43 rfl rfl (by decide) (by decide) (by decide) ?_
  refine R_put d44_45 (List.mem_of_getElem? (i := 18) rfl) rfl (by decide) rfl rfl (Or.inr ⟨rfl, rfl⟩) ?_
  refine R_p d44_48 rfl rfl ?_
  refine R_p d44_49 rfl rfl ?_
  refine R_put d44_50 (List.mem_of_getElem? (i := 10) rfl) rfl (by decide) rfl rfl (Or.inr ⟨rfl, rfl⟩) ?_
  refine R_p d44_53 rfl rfl ?_
  refine R_p d44_54 rfl rfl ?_
  refine R_put d44_55 (List.mem_of_getElem? (i := 11) rfl) rfl (by decide) rfl rfl (Or.inr ⟨rfl, rfl⟩) ?_
  refine R_p d44_58 rfl rfl ?_
  refine R_get d44_59 (Or.inl (List.mem_of_getElem? (i := 12) rfl)) rfl rfl ?_
  refine R_ic (v := (-1)) d44_62 (by decide) ?_
  refine R_cs [.ref 24, .int (-1)] d44_63 (List.mem_of_getElem? (i := 5) rfl) rfl ⟨by decide, by decide, by decide, rfl, mcd167⟩ rfl rfl (by decide) (t_fillI (by decide) rfl) ?_
  exact R_vret d44_66 rfl rfl
set_option maxRecDepth 4000 in
theorem rk_HK10 {S : mE} : Run S 19 (0, [(0, .ref 29), (1, .ref 17), (2, .ref 23)], [], HK9) (.inl none, HK10) := by
  refine R_p d19_0 rfl rfl ?_
  refine R_obj d19_1 (List.mem_of_getElem? (i := 5) rfl) (by decide) (by decide) ?_
  refine R_p d19_4 rfl rfl ?_
  refine R_bi (v := 75) d19_5 (by decide) ?_
  refine R_newa (N := 75) d19_7 rfl rfl (by decide) (by decide) (by decide) ?_
  refine R_put d19_9 (List.mem_of_getElem? (i := 21) rfl) rfl (by decide) rfl rfl (Or.inr ⟨rfl, rfl⟩) ?_
  refine R_p d19_12 rfl rfl ?_
  refine R_bi (v := 75) d19_13 (by decide) ?_
  refine R_newa (N := 75) d19_15 rfl rfl (by decide) (by decide) (by decide) ?_
  refine R_put d19_17 (List.mem_of_getElem? (i := 22) rfl) rfl (by decide) rfl rfl (Or.inr ⟨rfl, rfl⟩) ?_
  refine R_p d19_20 rfl rfl ?_
  refine R_p d19_21 rfl rfl ?_
  refine R_put d19_22 (List.mem_of_getElem? (i := 19) rfl) rfl (by decide) rfl rfl (Or.inr ⟨rfl, rfl⟩) ?_
  refine R_p d19_25 rfl rfl ?_
  refine R_p d19_26 rfl rfl ?_
  refine R_put d19_27 (List.mem_of_getElem? (i := 20) rfl) rfl (by decide) rfl rfl (Or.inr ⟨rfl, rfl⟩) ?_
  exact R_vret d19_30 rfl rfl
set_option maxRecDepth 4000 in
theorem rk_HK14 {S : mE} : Run S 0 (0, [(0, .ref 37), (1, .int 1)], [], HK13) (.inl none, HK14) := by
  refine R_p d0_0 rfl rfl ?_
  refine R_obj d0_1 (List.mem_of_getElem? (i := 8) rfl) (by decide) (by decide) ?_
  refine R_p d0_4 rfl rfl ?_
  refine R_bi (v := 77) d0_5 (by decide) ?_
  refine R_newa (N := 77) d0_7 rfl rfl (by decide) (by decide) (by decide) ?_
  refine R_put d0_9 (List.mem_of_getElem? (i := 25) rfl) rfl (by decide) rfl rfl (Or.inr ⟨rfl, rfl⟩) ?_
  refine R_p d0_12 rfl rfl ?_
  refine R_p d0_13 rfl rfl ?_
  refine R_put d0_14 (List.mem_of_getElem? (i := 24) rfl) rfl (by decide) rfl rfl (Or.inr ⟨rfl, rfl⟩) ?_
  exact R_vret d0_17 rfl rfl
set_option maxRecDepth 4000 in
theorem rk_HK16 {S : mE} : Run S 0 (0, [(0, .ref 39), (1, .int (-1))], [], HK15) (.inl none, HK16) := by
  refine R_p d0_0 rfl rfl ?_
  refine R_obj d0_1 (List.mem_of_getElem? (i := 8) rfl) (by decide) (by decide) ?_
  refine R_p d0_4 rfl rfl ?_
  refine R_bi (v := 77) d0_5 (by decide) ?_
  refine R_newa (N := 77) d0_7 rfl rfl (by decide) (by decide) (by decide) ?_
  refine R_put d0_9 (List.mem_of_getElem? (i := 25) rfl) rfl (by decide) rfl rfl (Or.inr ⟨rfl, rfl⟩) ?_
  refine R_p d0_12 rfl rfl ?_
  refine R_p d0_13 rfl rfl ?_
  refine R_put d0_14 (List.mem_of_getElem? (i := 24) rfl) rfl (by decide) rfl rfl (Or.inr ⟨rfl, rfl⟩) ?_
  exact R_vret d0_17 rfl rfl
set_option maxRecDepth 4000 in
theorem rk_HK17 {S : mE} : Run S 9 (0, [(0, .ref 36), (1, .ref 17)], [], HK12) (.inl none, HK17) := by
  refine R_p d9_0 rfl rfl ?_
  refine R_obj d9_1 (List.mem_of_getElem? (i := 7) rfl) (by decide) (by decide) ?_
  refine R_p d9_4 rfl rfl ?_
  refine R_new d9_5 (List.mem_of_getElem? (i := 8) rfl) ?_
  refine R_p d9_8 rfl rfl ?_
  refine R_ic (v := 1) d9_9 (by decide) ?_
  refine R_cc [.int 1] d9_10 (List.mem_of_getElem? (i := 9) rfl) rfl ⟨by decide, by decide, by decide, rfl, mcd0⟩ rfl rfl (by decide) rfl rfl rk_HK14 ?_
  refine R_put d9_13 (List.mem_of_getElem? (i := 29) rfl) rfl (by decide) rfl rfl (Or.inr ⟨rfl, rfl⟩) ?_
  refine R_p d9_16 rfl rfl ?_
  refine R_new d9_17 (List.mem_of_getElem? (i := 8) rfl) ?_
  refine R_p d9_20 rfl rfl ?_
  refine R_ic (v := (-1)) d9_21 (by decide) ?_
  refine R_cc [.int (-1)] d9_22 (List.mem_of_getElem? (i := 9) rfl) rfl ⟨by decide, by decide, by decide, rfl, mcd0⟩ rfl rfl (by decide) rfl rfl rk_HK16 ?_
  refine R_put d9_25 (List.mem_of_getElem? (i := 30) rfl) rfl (by decide) rfl rfl (Or.inr ⟨rfl, rfl⟩) ?_
  refine R_p d9_28 rfl rfl ?_
  refine R_bi (v := 77) d9_29 (by decide) ?_
  refine R_newa (N := 77) d9_31 rfl rfl (by decide) (by decide) (by decide) ?_
  refine R_put d9_33 (List.mem_of_getElem? (i := 34) rfl) rfl (by decide) rfl rfl (Or.inr ⟨rfl, rfl⟩) ?_
  refine R_p d9_36 rfl rfl ?_
  refine R_p d9_37 rfl rfl ?_
  refine R_put d9_38 (List.mem_of_getElem? (i := 28) rfl) rfl (by decide) rfl rfl (Or.inr ⟨rfl, rfl⟩) ?_
  exact R_vret d9_41 rfl rfl
set_option maxRecDepth 4000 in
theorem rk_HK18 {S : mE} : Run S 78 (0, [(0, .ref 32), (1, .ref 17), (2, .ref 23)], [], HK11) (.inl none, HK18) := by
  refine R_p d78_0 rfl rfl ?_
  refine R_obj d78_1 (List.mem_of_getElem? (i := 6) rfl) (by decide) (by decide) ?_
  refine R_p d78_4 rfl rfl ?_
  refine R_bi (v := 75) d78_5 (by decide) ?_
  refine R_newa (N := 75) d78_7 rfl rfl (by decide) (by decide) (by decide) ?_
  refine R_put d78_9 (List.mem_of_getElem? (i := 39) rfl) rfl (by decide) rfl rfl (Or.inr ⟨rfl, rfl⟩) ?_
  refine R_p d78_12 rfl rfl ?_
  refine R_bi (v := 75) d78_13 (by decide) ?_
  refine R_newa (N := 75) d78_15 rfl rfl (by decide) (by decide) (by decide) ?_
  refine R_put d78_17 (List.mem_of_getElem? (i := 41) rfl) rfl (by decide) rfl rfl (Or.inr ⟨rfl, rfl⟩) ?_
  refine R_p d78_20 rfl rfl ?_
  refine R_bi (v := 75) d78_21 (by decide) ?_
  refine R_newa (N := 75) d78_23 rfl rfl (by decide) (by decide) (by decide) ?_
  refine R_put d78_25 (List.mem_of_getElem? (i := 42) rfl) rfl (by decide) rfl rfl (Or.inr ⟨rfl, rfl⟩) ?_
  refine R_p d78_28 rfl rfl ?_
  refine R_p d78_29 rfl rfl ?_
  refine R_put d78_30 (List.mem_of_getElem? (i := 36) rfl) rfl (by decide) rfl rfl (Or.inr ⟨rfl, rfl⟩) ?_
  refine R_p d78_33 rfl rfl ?_
  refine R_p d78_34 rfl rfl ?_
  refine R_put d78_35 (List.mem_of_getElem? (i := 37) rfl) rfl (by decide) rfl rfl (Or.inr ⟨rfl, rfl⟩) ?_
  refine R_p d78_38 rfl rfl ?_
  refine R_new d78_39 (List.mem_of_getElem? (i := 7) rfl) ?_
  refine R_p d78_42 rfl rfl ?_
  refine R_p d78_43 rfl rfl ?_
  refine R_cc [.ref 17] d78_44 (List.mem_of_getElem? (i := 8) rfl) rfl ⟨by decide, by decide, by decide, rfl, mcd9⟩ rfl rfl (by decide) rfl rfl rk_HK17 ?_
  refine R_put d78_47 (List.mem_of_getElem? (i := 38) rfl) rfl (by decide) rfl rfl (Or.inr ⟨rfl, rfl⟩) ?_
  exact R_vret d78_50 rfl rfl
set_option maxRecDepth 4000 in
theorem rk_MeshWalk {S : mE} : Run S 91 (0, [(0, .ref 16)], [], HK0) (.inl none, HK19) := by
  refine R_p d91_0 rfl rfl ?_
  refine R_obj d91_1 (List.mem_of_getElem? (i := 0) rfl) (by decide) (by decide) ?_
  refine R_new d91_4 (List.mem_of_getElem? (i := 1) rfl) ?_
  refine R_p d91_7 rfl rfl ?_
  refine R_cc [] d91_8 (List.mem_of_getElem? (i := 1) rfl) rfl ⟨by decide, by decide, by decide, rfl, mcd65⟩ rfl rfl (by decide) rfl rfl rk_HK4 ?_
  refine R_p (ls' := [(0, .ref 16), (1, .ref 17)]) d91_11 rfl rfl ?_
  refine R_new d91_12 (List.mem_of_getElem? (i := 3) rfl) ?_
  refine R_p d91_15 rfl rfl ?_
  refine R_p d91_16 rfl rfl ?_
  refine R_cc [.ref 17] d91_17 (List.mem_of_getElem? (i := 3) rfl) rfl ⟨by decide, by decide, by decide, rfl, mcd35⟩ rfl rfl (by decide) rfl rfl rk_HK6 ?_
  refine R_p (ls' := [(0, .ref 16), (1, .ref 17), (2, .ref 21)]) d91_20 rfl rfl ?_
  refine R_new d91_21 (List.mem_of_getElem? (i := 4) rfl) ?_
  refine R_p d91_24 rfl rfl ?_
  refine R_p d91_25 rfl rfl ?_
  refine R_p d91_26 rfl rfl ?_
  refine R_cc [.ref 17, .ref 21] d91_27 (List.mem_of_getElem? (i := 4) rfl) rfl ⟨by decide, by decide, by decide, rfl, mcd44⟩ rfl rfl (by decide) rfl rfl rk_HK8 ?_
  refine R_p (ls' := [(0, .ref 16), (1, .ref 17), (2, .ref 21), (3, .ref 23)]) d91_30 rfl rfl ?_
  refine R_p d91_31 rfl rfl ?_
  refine R_p d91_32 rfl rfl ?_
  refine R_put d91_33 (List.mem_of_getElem? (i := 43) rfl) rfl (by decide) rfl rfl (Or.inr ⟨rfl, rfl⟩) ?_
  refine R_p d91_36 rfl rfl ?_
  refine R_p d91_37 rfl rfl ?_
  refine R_put d91_38 (List.mem_of_getElem? (i := 44) rfl) rfl (by decide) rfl rfl (Or.inr ⟨rfl, rfl⟩) ?_
  refine R_p d91_41 rfl rfl ?_
  refine R_p d91_42 rfl rfl ?_
  refine R_put d91_43 (List.mem_of_getElem? (i := 45) rfl) rfl (by decide) rfl rfl (Or.inr ⟨rfl, rfl⟩) ?_
  refine R_p d91_46 rfl rfl ?_
  refine R_new d91_47 (List.mem_of_getElem? (i := 5) rfl) ?_
  refine R_p d91_50 rfl rfl ?_
  refine R_p d91_51 rfl rfl ?_
  refine R_p d91_52 rfl rfl ?_
  refine R_cc [.ref 17, .ref 23] d91_53 (List.mem_of_getElem? (i := 6) rfl) rfl ⟨by decide, by decide, by decide, rfl, mcd19⟩ rfl rfl (by decide) rfl rfl rk_HK10 ?_
  refine R_put d91_56 (List.mem_of_getElem? (i := 46) rfl) rfl (by decide) rfl rfl (Or.inr ⟨rfl, rfl⟩) ?_
  refine R_p d91_59 rfl rfl ?_
  refine R_new d91_60 (List.mem_of_getElem? (i := 6) rfl) ?_
  refine R_p d91_63 rfl rfl ?_
  refine R_p d91_64 rfl rfl ?_
  refine R_p d91_65 rfl rfl ?_
  refine R_cc [.ref 17, .ref 23] d91_66 (List.mem_of_getElem? (i := 7) rfl) rfl ⟨by decide, by decide, by decide, rfl, mcd78⟩ rfl rfl (by decide) rfl rfl rk_HK18 ?_
  refine R_put d91_69 (List.mem_of_getElem? (i := 47) rfl) rfl (by decide) rfl rfl (Or.inr ⟨rfl, rfl⟩) ?_
  exact R_vret d91_72 rfl rfl
set_option maxRecDepth 4000 in
theorem rk_Model {S : mE} : Run S 112 (0, [(0, .ref 42)], [], HK20) (.inl none, HK21) := by
  refine R_p d112_0 rfl rfl ?_
  refine R_obj d112_1 (List.mem_of_getElem? (i := 9) rfl) (by decide) (by decide) ?_
  refine R_p d112_4 rfl rfl ?_
  refine R_bi (v := 42) d112_5 (by decide) ?_
  refine R_newa (N := 42) d112_7 rfl rfl (by decide) (by decide) (by decide) ?_
  refine R_put d112_9 (List.mem_of_getElem? (i := 50) rfl) rfl (by decide) rfl rfl (Or.inr ⟨rfl, rfl⟩) ?_
  refine R_p d112_12 rfl rfl ?_
  refine R_bi (v := 42) d112_13 (by decide) ?_
  refine R_newa (N := 42) d112_15 rfl rfl (by decide) (by decide) (by decide) ?_
  refine R_put d112_17 (List.mem_of_getElem? (i := 51) rfl) rfl (by decide) rfl rfl (Or.inr ⟨rfl, rfl⟩) ?_
  refine R_p d112_20 rfl rfl ?_
  refine R_si (v := 1600) d112_21 (by decide) ?_
  refine R_newa (N := 1600) d112_24 rfl rfl (by decide) (by decide) (by decide) ?_
  refine R_put d112_26 (List.mem_of_getElem? (i := 52) rfl) rfl (by decide) rfl rfl (Or.inr ⟨rfl, rfl⟩) ?_
  refine R_p d112_29 rfl rfl ?_
  refine R_si (v := 1600) d112_30 (by decide) ?_
  refine R_newa (N := 1600) d112_33 rfl rfl (by decide) (by decide) (by decide) ?_
  refine R_put d112_35 (List.mem_of_getElem? (i := 53) rfl) rfl (by decide) rfl rfl (Or.inr ⟨rfl, rfl⟩) ?_
  refine R_p d112_38 rfl rfl ?_
  refine R_si (v := 300) d112_39 (by decide) ?_
  refine R_newa (N := 300) d112_42 rfl rfl (by decide) (by decide) (by decide) ?_
  refine R_put d112_44 (List.mem_of_getElem? (i := 56) rfl) rfl (by decide) rfl rfl (Or.inr ⟨rfl, rfl⟩) ?_
  refine R_p d112_47 rfl rfl ?_
  refine R_bi (v := 100) d112_48 (by decide) ?_
  refine R_newa (N := 100) d112_50 rfl rfl (by decide) (by decide) (by decide) ?_
  refine R_put d112_52 (List.mem_of_getElem? (i := 58) rfl) rfl (by decide) rfl rfl (Or.inr ⟨rfl, rfl⟩) ?_
  refine R_p d112_55 rfl rfl ?_
  refine R_bi (v := 100) d112_56 (by decide) ?_
  refine R_newa (N := 100) d112_58 rfl rfl (by decide) (by decide) (by decide) ?_
  refine R_put d112_60 (List.mem_of_getElem? (i := 60) rfl) rfl (by decide) rfl rfl (Or.inr ⟨rfl, rfl⟩) ?_
  refine R_p d112_63 rfl rfl ?_
  refine R_bi (v := 100) d112_64 (by decide) ?_
  refine R_newa (N := 100) d112_66 rfl rfl (by decide) (by decide) (by decide) ?_
  refine R_put d112_68 (List.mem_of_getElem? (i := 61) rfl) rfl (by decide) rfl rfl (Or.inr ⟨rfl, rfl⟩) ?_
  refine R_p d112_71 rfl rfl ?_
  refine R_bi (v := 100) d112_72 (by decide) ?_
  refine R_newa (N := 100) d112_74 rfl rfl (by decide) (by decide) (by decide) ?_
  refine R_put d112_76 (List.mem_of_getElem? (i := 62) rfl) rfl (by decide) rfl rfl (Or.inr ⟨rfl, rfl⟩) ?_
  refine R_p d112_79 rfl rfl ?_
  refine R_bi (v := 100) d112_80 (by decide) ?_
  refine R_newa (N := 100) d112_82 rfl rfl (by decide) (by decide) (by decide) ?_
  refine R_put d112_84 (List.mem_of_getElem? (i := 63) rfl) rfl (by decide) rfl rfl (Or.inr ⟨rfl, rfl⟩) ?_
  exact R_vret d112_87 rfl rfl
