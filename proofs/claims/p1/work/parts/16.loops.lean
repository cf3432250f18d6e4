/-! loops of the reference, by hand (wip/gen/c16.py); contracts of small methods, on any heap that holds their cells -/
theorem d114_179 : decode (mCode 114) 179 = .ok (.iload 4, 2) := by decide +kernel
theorem d114_181 : decode (mCode 114) 181 = .ok (.bipush 40, 2) := by decide +kernel
theorem d114_183 : decode (mCode 114) 183 = .ok (.if_icmp .ge 41, 3) := by decide +kernel
theorem d114_186 : decode (mCode 114) 186 = .ok (.aload_n 0, 1) := by decide +kernel
theorem d114_187 : decode (mCode 114) 187 = .ok (.getfield 16, 3) := by decide +kernel
theorem d114_190 : decode (mCode 114) 190 = .ok (.bipush 40, 2) := by decide +kernel
theorem d114_192 : decode (mCode 114) 192 = .ok (.aload_n 0, 1) := by decide +kernel
theorem d114_193 : decode (mCode 114) 193 = .ok (.getfield 52, 3) := by decide +kernel
theorem d114_196 : decode (mCode 114) 196 = .ok (.imul, 1) := by decide +kernel
theorem d114_197 : decode (mCode 114) 197 = .ok (.iload 4, 2) := by decide +kernel
theorem d114_199 : decode (mCode 114) 199 = .ok (.iadd, 1) := by decide +kernel
theorem d114_200 : decode (mCode 114) 200 = .ok (.iconst 0, 1) := by decide +kernel
theorem d114_201 : decode (mCode 114) 201 = .ok (.bastore, 1) := by decide +kernel
theorem d114_202 : decode (mCode 114) 202 = .ok (.aload_n 0, 1) := by decide +kernel
theorem d114_203 : decode (mCode 114) 203 = .ok (.getfield 16, 3) := by decide +kernel
theorem d114_206 : decode (mCode 114) 206 = .ok (.bipush 40, 2) := by decide +kernel
theorem d114_208 : decode (mCode 114) 208 = .ok (.iload 4, 2) := by decide +kernel
theorem d114_210 : decode (mCode 114) 210 = .ok (.imul, 1) := by decide +kernel
theorem d114_211 : decode (mCode 114) 211 = .ok (.aload_n 0, 1) := by decide +kernel
theorem d114_212 : decode (mCode 114) 212 = .ok (.getfield 52, 3) := by decide +kernel
theorem d114_215 : decode (mCode 114) 215 = .ok (.iadd, 1) := by decide +kernel
theorem d114_216 : decode (mCode 114) 216 = .ok (.iconst 0, 1) := by decide +kernel
theorem d114_217 : decode (mCode 114) 217 = .ok (.bastore, 1) := by decide +kernel
theorem d114_218 : decode (mCode 114) 218 = .ok (.iinc 4 1, 3) := by decide +kernel
theorem d114_221 : decode (mCode 114) 221 = .ok (.goto (-42), 3) := by decide +kernel
theorem d126_17 : decode (mCode 126) 17 = .ok (.iload_n 2, 1) := by decide +kernel
theorem d126_18 : decode (mCode 126) 18 = .ok (.sipush 1600, 3) := by decide +kernel
theorem d126_21 : decode (mCode 126) 21 = .ok (.if_icmp .ge 16, 3) := by decide +kernel
theorem d126_24 : decode (mCode 126) 24 = .ok (.aload_n 0, 1) := by decide +kernel
theorem d126_25 : decode (mCode 126) 25 = .ok (.getfield 16, 3) := by decide +kernel
theorem d126_28 : decode (mCode 126) 28 = .ok (.iload_n 2, 1) := by decide +kernel
theorem d126_29 : decode (mCode 126) 29 = .ok (.iconst 0, 1) := by decide +kernel
theorem d126_30 : decode (mCode 126) 30 = .ok (.bastore, 1) := by decide +kernel
theorem d126_31 : decode (mCode 126) 31 = .ok (.iinc 2 1, 3) := by decide +kernel
theorem d126_34 : decode (mCode 126) 34 = .ok (.goto (-17), 3) := by decide +kernel
theorem d128_20 : decode (mCode 128) 20 = .ok (.iload_n 1, 1) := by decide +kernel
theorem d128_21 : decode (mCode 128) 21 = .ok (.sipush 1600, 3) := by decide +kernel
theorem d128_24 : decode (mCode 128) 24 = .ok (.if_icmp .ge 21, 3) := by decide +kernel
theorem d128_27 : decode (mCode 128) 27 = .ok (.aload_n 0, 1) := by decide +kernel
theorem d128_28 : decode (mCode 128) 28 = .ok (.getfield 20, 3) := by decide +kernel
theorem d128_31 : decode (mCode 128) 31 = .ok (.iload_n 1, 1) := by decide +kernel
theorem d128_32 : decode (mCode 128) 32 = .ok (.aload_n 0, 1) := by decide +kernel
theorem d128_33 : decode (mCode 128) 33 = .ok (.getfield 16, 3) := by decide +kernel
theorem d128_36 : decode (mCode 128) 36 = .ok (.iload_n 1, 1) := by decide +kernel
theorem d128_37 : decode (mCode 128) 37 = .ok (.baload, 1) := by decide +kernel
theorem d128_38 : decode (mCode 128) 38 = .ok (.bastore, 1) := by decide +kernel
theorem d128_39 : decode (mCode 128) 39 = .ok (.iinc 1 1, 3) := by decide +kernel
theorem d128_42 : decode (mCode 128) 42 = .ok (.goto (-22), 3) := by decide +kernel
def mcpz (n : Nat) (L E : Nat → Int32) : Nat → Int32 := fun j => if j < n then vp_nar .boolean (L j) else E j
theorem mcpz_0 (L E : Nat → Int32) : mcpz 0 L E = E := by funext j; simp [mcpz]
theorem mcpz_s (n : Nat) (L E : Nat → Int32) : upd (mcpz n L E) n (vp_nar .boolean (L n)) = mcpz (n + 1) L E := by
  funext j
  simp only [upd, mcpz]
  by_cases h : j = n
  · simp [h]
  · by_cases h2 : j < n
    · simp [h, h2, Nat.lt_succ_of_lt h2]
    · simp [h, h2, show ¬ j < n + 1 by omega]
theorem nI_1600 : (1600 : Int32) = nI 1600 := by decide
theorem nI_40 : (40 : Int32) = nI 40 := by decide
/-- mesh(): edges[k] = links[k] for all k -/
theorem t_meshCopy {S : mE} {h : mHp} {r : mR} {fs : List Value} {L E : Nat → Int32} (hm : mget h 42 = some (.inr (9, fs))) (h4 : fs[4]? = some (.ref 45)) (h5 : fs[5]? = some (.ref 46)) (hL : mget h 45 = some (.inl (.boolean, 1600, .inl L))) (hE : mget h 46 = some (.inl (.boolean, 1600, .inl E)))
    (kk : Run S 128 (45, [(0, .ref 42), (1, .int 1600)], [], mput h 46 (.inl (.boolean, 1600, .inl (mcpz 1600 L E)))) r) : ∀ k i : Nat, i + k = 1600 → Run S 128 (20, [(0, .ref 42), (1, .int (nI i))], [], mput h 46 (.inl (.boolean, 1600, .inl (mcpz i L E)))) r := by
  intro k
  induction k with
  | zero =>
    intro i hi
    have hi : i = 1600 := by omega
    subst hi
    refine R_p d128_20 rfl rfl ?_
    refine R_si (v := 1600) d128_21 (by decide) ?_
    refine R_br 45 d128_24 (mb_t (b := ((1600 : Int32) ≤ nI 1600)) (by decide)) rfl ?_
    exact kk
  | succ k ih =>
    intro i hi
    refine R_p d128_20 rfl rfl ?_
    refine R_si (v := 1600) d128_21 (by decide) ?_
    refine R_nb d128_24 rfl (mb_f (b := ((1600 : Int32) ≤ nI i)) (by rw [nI_1600]; exact nI_ge (by omega) (by omega))) ?_
    refine R_p d128_27 rfl rfl ?_
    refine R_get d128_28 (Or.inl (List.mem_of_getElem? (i := 53) rfl)) ((mget_ne (by decide) (by decide)).trans hm) h5 ?_
    refine R_p d128_31 rfl rfl ?_
    refine R_p d128_32 rfl rfl ?_
    refine R_get d128_33 (Or.inl (List.mem_of_getElem? (i := 52) rfl)) ((mget_ne (by decide) (by decide)).trans hm) h4 ?_
    refine R_p d128_36 rfl rfl ?_
    refine R_zld d128_37 ((mget_ne (by decide) (by decide)).trans hL) (vp_in_nI (by omega) (by omega)) ?_
    refine R_zst d128_38 (mget_eq hE _) (vp_in_nI (by omega) (by omega)) ?_
    refine R_p d128_39 rfl rfl ?_
    refine R_br 20 d128_42 rfl rfl ?_
    refine R_e (20, [(0, .ref 42), (1, .int (nI (i + 1)))], [], mput h 46 (.inl (.boolean, 1600, .inl (mcpz (i + 1) L E)))) ?_ (ih (i + 1) (by omega))
    rw [mput_put, nI_clamp (by omega), mcpz_s, ← nI_inc]
    rfl
/-- clear(): links[k] = false for all k -/
theorem t_clearLoop {S : mE} {h : mHp} {r : mR} {fs : List Value} {n : Int32} {L : Nat → Int32} (hm : mget h 42 = some (.inr (9, fs))) (h4 : fs[4]? = some (.ref 45)) (hL : mget h 45 = some (.inl (.boolean, 1600, .inl L)))
    (kk : Run S 126 (37, [(0, .ref 42), (1, .int n), (2, .int 1600)], [], mput h 45 (.inl (.boolean, 1600, .inl (mfill 1600 0 L)))) r) : ∀ k i : Nat, i + k = 1600 → Run S 126 (17, [(0, .ref 42), (1, .int n), (2, .int (nI i))], [], mput h 45 (.inl (.boolean, 1600, .inl (mfill i 0 L)))) r := by
  intro k
  induction k with
  | zero =>
    intro i hi
    have hi : i = 1600 := by omega
    subst hi
    refine R_p d126_17 rfl rfl ?_
    refine R_si (v := 1600) d126_18 (by decide) ?_
    refine R_br 37 d126_21 (mb_t (b := ((1600 : Int32) ≤ nI 1600)) (by decide)) rfl ?_
    exact kk
  | succ k ih =>
    intro i hi
    refine R_p d126_17 rfl rfl ?_
    refine R_si (v := 1600) d126_18 (by decide) ?_
    refine R_nb d126_21 rfl (mb_f (b := ((1600 : Int32) ≤ nI i)) (by rw [nI_1600]; exact nI_ge (by omega) (by omega))) ?_
    refine R_p d126_24 rfl rfl ?_
    refine R_get d126_25 (Or.inl (List.mem_of_getElem? (i := 52) rfl)) ((mget_ne (by decide) (by decide)).trans hm) h4 ?_
    refine R_p d126_28 rfl rfl ?_
    refine R_ic (v := 0) d126_29 (by decide) ?_
    refine R_zst d126_30 (mget_eq hL _) (vp_in_nI (by omega) (by omega)) ?_
    refine R_p d126_31 rfl rfl ?_
    refine R_br 17 d126_34 rfl rfl ?_
    refine R_e (17, [(0, .ref 42), (1, .int n), (2, .int (nI (i + 1)))], [], mput h 45 (.inl (.boolean, 1600, .inl (mfill (i + 1) 0 L)))) ?_ (ih (i + 1) (by omega))
    rw [mput_put, nI_clamp (by omega), show vp_nar .boolean 0 = 0 from by decide, mfill_s, ← nI_inc]
    rfl
def mrow (p n : Nat) (L : Nat → Int32) : Nat → Int32 := fun j => if (40 * p ≤ j ∧ j < 40 * p + n) ∨ (j % 40 = p ∧ j / 40 < n) then 0 else L j
theorem mrow_0 (p : Nat) (L : Nat → Int32) : mrow p 0 L = L := by
  funext j
  simp only [mrow]
  rw [if_neg (by omega)]
theorem mrow_s (p n : Nat) (hp : p < 40) (L : Nat → Int32) : upd (upd (mrow p n L) (40 * p + n) 0) (40 * n + p) 0 = mrow p (n + 1) L := by
  funext j
  simp only [upd, mrow]
  by_cases h1 : j = 40 * n + p
  · rw [if_pos h1, if_pos (Or.inr (by omega))]
  · rw [if_neg h1]
    by_cases h2 : j = 40 * p + n
    · rw [if_pos h2, if_pos (Or.inl (by omega))]
    · rw [if_neg h2]
      by_cases h3 : (40 * p ≤ j ∧ j < 40 * p + n) ∨ (j % 40 = p ∧ j / 40 < n)
      · rw [if_pos h3, if_pos (by omega)]
      · rw [if_neg h3, if_neg (by omega)]
/-- add(..): the row and the column of the new point are emptied -/
theorem t_addLoop {S : mE} {h : mHp} {r : mR} {fs : List Value} {p : Nat} {L : Nat → Int32} {x y : Int32} {tl : mL} (hp : p < 40) (hm : mget h 42 = some (.inr (9, fs))) (h1 : fs[1]? = some (.int (nI p))) (h4 : fs[4]? = some (.ref 45)) (hL : mget h 45 = some (.inl (.boolean, 1600, .inl L))) (v3 v5 : Int32)
    (htl : tl = [] ∨ tl = [(5, .int v5)])
    (kk : Run S 114 (224, [(0, .ref 42), (1, .int x), (2, .int y), (3, .int v3), (4, .int 40)] ++ tl, [], mput h 45 (.inl (.boolean, 1600, .inl (mrow p 40 L)))) r) : ∀ k i : Nat, i + k = 40 → Run S 114 (179, [(0, .ref 42), (1, .int x), (2, .int y), (3, .int v3), (4, .int (nI i))] ++ tl, [], mput h 45 (.inl (.boolean, 1600, .inl (mrow p i L)))) r := by
  intro k
  induction k with
  | zero =>
    intro i hi
    have hi : i = 40 := by omega
    subst hi
    refine R_p d114_179 rfl rfl ?_
    refine R_bi (v := 40) d114_181 (by decide) ?_
    refine R_br 224 d114_183 (mb_t (b := ((40 : Int32) ≤ nI 40)) (by decide)) rfl ?_
    exact kk
  | succ k ih =>
    intro i hi
    refine R_p d114_179 rfl rfl ?_
    refine R_bi (v := 40) d114_181 (by decide) ?_
    refine R_nb d114_183 rfl (mb_f (b := ((40 : Int32) ≤ nI i)) (by rw [nI_40]; exact nI_ge (by omega) (by omega))) ?_
    refine R_p d114_186 rfl rfl ?_
    refine R_get d114_187 (Or.inl (List.mem_of_getElem? (i := 52) rfl)) ((mget_ne (by decide) (by decide)).trans hm) h4 ?_
    refine R_bi (v := 40) d114_190 (by decide) ?_
    refine R_p d114_192 rfl rfl ?_
    refine R_get d114_193 (Or.inl (List.mem_of_getElem? (i := 49) rfl)) ((mget_ne (by decide) (by decide)).trans hm) h1 ?_
    refine R_p d114_196 rfl rfl ?_
    refine R_p d114_197 rfl rfl ?_
    refine R_p d114_199 rfl rfl ?_
    refine R_ic (v := 0) d114_200 (by decide) ?_
    have e1 : (40 : Int32) * nI p + nI i = nI (40 * p + i) := by rw [nI_40, pk_mul, nI_add]
    have e2 : (40 : Int32) * nI i + nI p = nI (40 * i + p) := by rw [nI_40, pk_mul, nI_add]
    refine R_zst d114_201 (mget_eq hL _) (by show vp_in ((40 : Int32) * nI p + nI i) 1600; rw [e1]; exact vp_in_nI (by omega) (by omega)) ?_
    refine R_p d114_202 rfl rfl ?_
    refine R_get d114_203 (Or.inl (List.mem_of_getElem? (i := 52) rfl)) ((mget_ne (by decide) (by decide)).trans ((mget_ne (by decide) (by decide)).trans hm)) h4 ?_
    refine R_bi (v := 40) d114_206 (by decide) ?_
    refine R_p d114_208 rfl rfl ?_
    refine R_p d114_210 rfl rfl ?_
    refine R_p d114_211 rfl rfl ?_
    refine R_get d114_212 (Or.inl (List.mem_of_getElem? (i := 49) rfl)) ((mget_ne (by decide) (by decide)).trans ((mget_ne (by decide) (by decide)).trans hm)) h1 ?_
    refine R_p d114_215 rfl rfl ?_
    refine R_ic (v := 0) d114_216 (by decide) ?_
    refine R_zst d114_217 (mget_eq (mget_eq hL _) _) (by show vp_in ((40 : Int32) * nI i + nI p) 1600; rw [e2]; exact vp_in_nI (by omega) (by omega)) ?_
    refine R_p (ls' := [(0, .ref 42), (1, .int x), (2, .int y), (3, .int v3), (4, .int (nI i + Int32.ofInt 1))] ++ tl) d114_218 rfl (by rcases htl with rfl | rfl <;> rfl) ?_
    refine R_br 179 d114_221 rfl rfl ?_
    refine R_e (179, [(0, .ref 42), (1, .int x), (2, .int y), (3, .int v3), (4, .int (nI (i + 1)))] ++ tl, [], mput h 45 (.inl (.boolean, 1600, .inl (mrow p (i + 1) L)))) ?_ (ih (i + 1) (by omega))
    dsimp only
    rw [mput_put, mput_put, e1, e2, nI_clamp (by omega), nI_clamp (by omega), show vp_nar .boolean 0 = 0 from by decide, mrow_s p i hp, ← nI_inc]
