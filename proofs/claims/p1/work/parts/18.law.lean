/-! the law: its entry, its loop head, its end -/
theorem d171_0 : decode (mCode 171) 0 = .ok (.new 8, 3) := by decide +kernel
theorem d171_3 : decode (mCode 171) 3 = .ok (.dup, 1) := by decide +kernel
theorem d171_4 : decode (mCode 171) 4 = .ok (.invokespecial 49, 3) := by decide +kernel
theorem d171_7 : decode (mCode 171) 7 = .ok (.astore_n 1, 1) := by decide +kernel
theorem d171_8 : decode (mCode 171) 8 = .ok (.new 50, 3) := by decide +kernel
theorem d171_11 : decode (mCode 171) 11 = .ok (.dup, 1) := by decide +kernel
theorem d171_12 : decode (mCode 171) 12 = .ok (.invokespecial 52, 3) := by decide +kernel
theorem d171_15 : decode (mCode 171) 15 = .ok (.astore_n 2, 1) := by decide +kernel
theorem d171_16 : decode (mCode 171) 16 = .ok (.iconst 1, 1) := by decide +kernel
theorem d171_17 : decode (mCode 171) 17 = .ok (.newarray .long, 2) := by decide +kernel
theorem d171_19 : decode (mCode 171) 19 = .ok (.astore_n 3, 1) := by decide +kernel
theorem d171_20 : decode (mCode 171) 20 = .ok (.iconst 0, 1) := by decide +kernel
theorem d171_21 : decode (mCode 171) 21 = .ok (.istore 4, 2) := by decide +kernel
theorem d171_23 : decode (mCode 171) 23 = .ok (.iload 4, 2) := by decide +kernel
theorem d171_25 : decode (mCode 171) 25 = .ok (.aload_n 0, 1) := by decide +kernel
theorem d171_26 : decode (mCode 171) 26 = .ok (.arraylength, 1) := by decide +kernel
theorem d171_27 : decode (mCode 171) 27 = .ok (.iconst 5, 1) := by decide +kernel
theorem d171_28 : decode (mCode 171) 28 = .ok (.isub, 1) := by decide +kernel
theorem d171_29 : decode (mCode 171) 29 = .ok (.if_icmp .gt 927, 3) := by decide +kernel
theorem d171_32 : decode (mCode 171) 32 = .ok (.aload_n 0, 1) := by decide +kernel
theorem d171_33 : decode (mCode 171) 33 = .ok (.iload 4, 2) := by decide +kernel
theorem d171_35 : decode (mCode 171) 35 = .ok (.iaload, 1) := by decide +kernel
theorem d171_36 : decode (mCode 171) 36 = .ok (.bipush 15, 2) := by decide +kernel
theorem d171_38 : decode (mCode 171) 38 = .ok (.iand, 1) := by decide +kernel
theorem d171_39 : decode (mCode 171) 39 = .ok (.tableswitch 911 0 13 #[69, 137, 212, 287, 300, 325, 393, 461, 529, 609, 701, 769, 861, 886], 69) := by decide +kernel
theorem d171_950 : decode (mCode 171) 950 = .ok (.iinc 4 5, 3) := by decide +kernel
theorem d171_953 : decode (mCode 171) 953 = .ok (.goto (-930), 3) := by decide +kernel
theorem d171_956 : decode (mCode 171) 956 = .ok (.iconst 1, 1) := by decide +kernel
theorem d171_957 : decode (mCode 171) 957 = .ok (.ireturn, 1) := by decide +kernel
def HL0 : mHp := [(.inr (8, [.ref 17, .ref 21, .ref 23, .ref 29, .ref 32])), (.inr (5, [.ref 18, .ref 19, .ref 20, .int 0])), (.inl (.int, 42, .inl ((fun _ => 0)))), (.inl (.int, 42, .inl ((fun _ => 0)))), (.inr (7, [.long 0, .long 0, .long 0])), (.inr (3, [.ref 17, .ref 22, .int 0])), (.inl (.long, 40, .inr (.inl ((fun _ => 0))))), (.inr (4, [.ref 17, .ref 21, .ref 24, .ref 25, .ref 26, .int 0, .ref 27, .int 0, .ref 28])), (.inl (.int, 1600, .inl (mfill 1600 (-1) (fun _ => 0)))), (.inl (.int, 1600, .inl ((fun _ => 0)))), (.inl (.int, 225, .inl ((fun _ => 0)))), (.inl (.int, 800, .inl ((fun _ => 0)))), (.inl (.long, 40, .inr (.inl ((fun _ => 0))))), (.inr (2, [.ref 17, .ref 23, .ref 30, .ref 31, .int 0])), (.inl (.int, 75, .inl ((fun _ => 0)))), (.inl (.int, 75, .inl ((fun _ => 0)))), (.inr (6, [.ref 17, .ref 23, .ref 36, .ref 33, .int 0, .ref 34, .ref 35])), (.inl (.int, 75, .inl ((fun _ => 0)))), (.inl (.int, 75, .inl ((fun _ => 0)))), (.inl (.int, 75, .inl ((fun _ => 0)))), (.inr (1, [.ref 17, .ref 37, .ref 39, .int 0, .int 0, .int 0, .ref 41, .int 0])), (.inr (0, [.int 1, .ref 38, .int 0, .int 0])), (.inl (.int, 77, .inl ((fun _ => 0)))), (.inr (0, [.int (-1), .ref 40, .int 0, .int 0])), (.inl (.int, 77, .inl ((fun _ => 0)))), (.inl (.int, 77, .inl ((fun _ => 0)))), (.inr (9, [.int 0, .int 0, .ref 43, .ref 44, .ref 45, .ref 46, .int 0, .int 0, .ref 47, .int 0, .ref 48, .int 0, .ref 49, .ref 50, .ref 51, .ref 52, .long 0, .long 0])), (.inl (.long, 42, .inr (.inl ((fun _ => 0))))), (.inl (.long, 42, .inr (.inl ((fun _ => 0))))), (.inl (.boolean, 1600, .inl ((fun _ => 0)))), (.inl (.boolean, 1600, .inl ((fun _ => 0)))), (.inl (.int, 300, .inl ((fun _ => 0)))), (.inl (.int, 100, .inl ((fun _ => 0)))), (.inl (.int, 100, .inl ((fun _ => 0)))), (.inl (.int, 100, .inl ((fun _ => 0)))), (.inl (.int, 100, .inl ((fun _ => 0)))), (.inl (.int, 100, .inl ((fun _ => 0)))), (.inl (.long, 1, .inr (.inl (fun _ => 0))))]
set_option maxRecDepth 4000 in
theorem law_entry {S : mE} {r : mR} (kk : Run S 171 (23, [(0, .ref 0), (1, .ref 16), (2, .ref 42), (3, .ref 53), (4, .int 0)], [], HL0) r) : Run S 171 (0, [(0, .ref 0)], [], []) r := by
  refine R_new d171_0 (List.mem_of_getElem? (i := 0) rfl) ?_
  refine R_p d171_3 rfl rfl ?_
  refine R_cc [] d171_4 (List.mem_of_getElem? (i := 0) rfl) rfl ⟨by decide, by decide, Nat.le_of_ble_eq_true rfl, rfl, mcd91⟩ rfl rfl (by decide) rfl rfl rk_MeshWalk ?_
  refine R_p (ls' := [(0, .ref 0), (1, .ref 16)]) d171_7 rfl rfl ?_
  refine R_new d171_8 (List.mem_of_getElem? (i := 9) rfl) ?_
  refine R_p d171_11 rfl rfl ?_
  refine R_h HK20 rfl ?_
  refine R_cc [] d171_12 (List.mem_of_getElem? (i := 159) rfl) rfl ⟨by decide, by decide, Nat.le_of_ble_eq_true rfl, rfl, mcd112⟩ rfl rfl (by decide) rfl rfl rk_Model ?_
  refine R_p (ls' := [(0, .ref 0), (1, .ref 16), (2, .ref 42)]) d171_15 rfl rfl ?_
  refine R_ic (v := 1) d171_16 (by decide) ?_
  refine R_newa (N := 1) d171_17 rfl rfl (by decide) (by decide) (by decide) ?_
  refine R_p (ls' := [(0, .ref 0), (1, .ref 16), (2, .ref 42), (3, .ref 53)]) d171_19 rfl rfl ?_
  refine R_ic (v := 0) d171_20 (by decide) ?_
  refine R_p (ls' := [(0, .ref 0), (1, .ref 16), (2, .ref 42), (3, .ref 53), (4, .int 0)]) d171_21 rfl rfl ?_
  refine R_h HL0 rfl ?_
  exact kk
theorem law_exit {S : mE} {ls : mL} {h : mHp} : Run S 171 (956, ls, [], h) (.inl (some (.int 1)), h) := by
  refine R_ic (v := 1) d171_956 (by decide) ?_
  exact R_iret d171_957 rfl rfl rfl
/-- the loop's test: it ends -/
theorem law_out {S : mE} {i : Int32} {tl : mL} {h : mHp} (hi : Int32.ofNat S.1 - 5 < i) : Run S 171 (23, [(0, .ref 0), (1, .ref 16), (2, .ref 42), (3, .ref 53), (4, .int i)] ++ tl, [], h) (.inl (some (.int 1)), h) := by
  refine R_p d171_23 rfl rfl ?_
  refine R_p d171_25 rfl rfl ?_
  refine R_sln d171_26 ?_
  refine R_ic (v := 5) d171_27 (by decide) ?_
  refine R_p d171_28 rfl rfl ?_
  refine R_br 956 d171_29 (mb_t (b := (Int32.ofNat S.1 - 5 < i)) hi) rfl ?_
  exact law_exit
/-- the loop's test: it goes on, with the next call's number on the stack -/
theorem law_in {N : Nat} {f : Nat → Int32} {i : Int32} {n : Nat} {tl : mL} {h : mHp} {r : mR} (hi : ¬ Int32.ofNat N - 5 < i) (hin : vp_in i N) (hn : i.toNatClampNeg = n) (kk : Run (N, f) 171 (39, [(0, .ref 0), (1, .ref 16), (2, .ref 42), (3, .ref 53), (4, .int i)] ++ tl, [.int (f n &&& 15)], h) r) : Run (N, f) 171 (23, [(0, .ref 0), (1, .ref 16), (2, .ref 42), (3, .ref 53), (4, .int i)] ++ tl, [], h) r := by
  refine R_p d171_23 rfl rfl ?_
  refine R_p d171_25 rfl rfl ?_
  refine R_sln d171_26 ?_
  refine R_ic (v := 5) d171_27 (by decide) ?_
  refine R_p d171_28 rfl rfl ?_
  refine R_nb d171_29 rfl (mb_f (b := (Int32.ofNat N - 5 < i)) hi) ?_
  refine R_p d171_32 rfl rfl ?_
  refine R_p d171_33 rfl rfl ?_
  refine R_sldk (n := n) (x := f n) d171_35 hin hn rfl ?_
  refine R_bi (v := 15) d171_36 (by decide) ?_
  refine R_p d171_38 rfl rfl ?_
  exact kk
