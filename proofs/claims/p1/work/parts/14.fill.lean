/-! the heap of the small machine, loops; Arrays.fill -/
theorem d167_0 : decode (mCode 167) 0 = .ok (.iconst 0, 1) := by decide +kernel
theorem d167_1 : decode (mCode 167) 1 = .ok (.istore_n 2, 1) := by decide +kernel
theorem d167_2 : decode (mCode 167) 2 = .ok (.aload_n 0, 1) := by decide +kernel
theorem d167_3 : decode (mCode 167) 3 = .ok (.arraylength, 1) := by decide +kernel
theorem d167_4 : decode (mCode 167) 4 = .ok (.istore_n 3, 1) := by decide +kernel
theorem d167_5 : decode (mCode 167) 5 = .ok (.iload_n 2, 1) := by decide +kernel
theorem d167_6 : decode (mCode 167) 6 = .ok (.iload_n 3, 1) := by decide +kernel
theorem d167_7 : decode (mCode 167) 7 = .ok (.if_icmp .ge 13, 3) := by decide +kernel
theorem d167_10 : decode (mCode 167) 10 = .ok (.aload_n 0, 1) := by decide +kernel
theorem d167_11 : decode (mCode 167) 11 = .ok (.iload_n 2, 1) := by decide +kernel
theorem d167_12 : decode (mCode 167) 12 = .ok (.iload_n 1, 1) := by decide +kernel
theorem d167_13 : decode (mCode 167) 13 = .ok (.iastore, 1) := by decide +kernel
theorem d167_14 : decode (mCode 167) 14 = .ok (.iinc 2 1, 3) := by decide +kernel
theorem d167_17 : decode (mCode 167) 17 = .ok (.goto (-12), 3) := by decide +kernel
theorem d167_20 : decode (mCode 167) 20 = .ok (.return_, 1) := by decide +kernel
theorem d168_0 : decode (mCode 168) 0 = .ok (.iconst 0, 1) := by decide +kernel
theorem d168_1 : decode (mCode 168) 1 = .ok (.istore_n 3, 1) := by decide +kernel
theorem d168_2 : decode (mCode 168) 2 = .ok (.aload_n 0, 1) := by decide +kernel
theorem d168_3 : decode (mCode 168) 3 = .ok (.arraylength, 1) := by decide +kernel
theorem d168_4 : decode (mCode 168) 4 = .ok (.istore 4, 2) := by decide +kernel
theorem d168_6 : decode (mCode 168) 6 = .ok (.iload_n 3, 1) := by decide +kernel
theorem d168_7 : decode (mCode 168) 7 = .ok (.iload 4, 2) := by decide +kernel
theorem d168_9 : decode (mCode 168) 9 = .ok (.if_icmp .ge 13, 3) := by decide +kernel
theorem d168_12 : decode (mCode 168) 12 = .ok (.aload_n 0, 1) := by decide +kernel
theorem d168_13 : decode (mCode 168) 13 = .ok (.iload_n 3, 1) := by decide +kernel
theorem d168_14 : decode (mCode 168) 14 = .ok (.lload_n 1, 1) := by decide +kernel
theorem d168_15 : decode (mCode 168) 15 = .ok (.lastore, 1) := by decide +kernel
theorem d168_16 : decode (mCode 168) 16 = .ok (.iinc 3 1, 3) := by decide +kernel
theorem d168_19 : decode (mCode 168) 19 = .ok (.goto (-13), 3) := by decide +kernel
theorem d168_22 : decode (mCode 168) 22 = .ok (.return_, 1) := by decide +kernel
theorem mget_eq {h : mHp} {a : Nat} {c0 : mC} (hg : mget h a = some c0) (c : mC) : mget (mput h a c) a = some c := by
  unfold mget at hg ⊢
  by_cases ha : a < 16
  · rw [if_pos ha] at hg; cases hg
  · rw [if_neg ha] at hg ⊢
    have hl := (List.getElem?_eq_some_iff.mp hg).1
    unfold mput
    rw [List.getElem?_set_self hl]
theorem mget_ne {h : mHp} {a b : Nat} {c : mC} (hab : a ≠ b) (ha : 16 ≤ a) : mget (mput h a c) b = mget h b := by
  unfold mget mput
  by_cases hb : b < 16
  · rw [if_pos hb, if_pos hb]
  · rw [if_neg hb, if_neg hb, List.getElem?_set_ne (by omega)]
theorem mput_put (h : mHp) (a : Nat) (c c' : mC) : mput (mput h a c) a c' = mput h a c' := by unfold mput; rw [List.set_set]
theorem mput_self {h : mHp} {a : Nat} {c : mC} (hg : mget h a = some c) : mput h a c = h := by
  unfold mget at hg
  by_cases ha : a < 16
  · rw [if_pos ha] at hg; cases hg
  · rw [if_neg ha] at hg
    obtain ⟨hl, he⟩ := List.getElem?_eq_some_iff.mp hg
    unfold mput
    rw [← he, List.set_getElem_self]
theorem R_e {S : mE} {M : Nat} {f : mF} {r : mR} (f' : mF) (e : f = f') (k : Run S M f' r) : Run S M f r := e ▸ k
theorem R_r {S : mE} {M : Nat} {f : mF} {r : mR} (r' : mR) (e : r' = r) (k : Run S M f r') : Run S M f r := e ▸ k
theorem mb_t {b : Prop} [Decidable b] {off : Int} {t : List Value} (h : b) : mb1 b off t = some (some off, t) := by simp [mb1, h]
theorem mb_f {b : Prop} [Decidable b] {off : Int} {t : List Value} (h : ¬ b) : mb1 b off t = some (none, t) := by simp [mb1, h]
theorem nI_inc (i : Nat) : nI i + Int32.ofInt 1 = nI (i + 1) := nI_1 i
def mfill {α : Type} (n : Nat) (v : α) (f : Nat → α) : Nat → α := fun j => if j < n then v else f j
theorem mfill_0 {α : Type} (v : α) (f : Nat → α) : mfill 0 v f = f := by funext j; simp [mfill]
theorem mfill_s (n : Nat) (v : Int32) (f : Nat → Int32) : upd (mfill n v f) n v = mfill (n + 1) v f := by
  funext j
  simp only [upd, mfill]
  by_cases h : j = n
  · simp [h]
  · by_cases h2 : j < n
    · simp [h, h2, Nat.lt_succ_of_lt h2]
    · simp [h, h2, show ¬ j < n + 1 by omega]
theorem mfill_sL (n : Nat) (v : Int64) (f : Nat → Int64) : vp_updL (mfill n v f) n v = mfill (n + 1) v f := by
  funext j
  simp only [vp_updL, mfill]
  by_cases h : j = n
  · simp [h]
  · by_cases h2 : j < n
    · simp [h, h2, Nat.lt_succ_of_lt h2]
    · simp [h, h2, show ¬ j < n + 1 by omega]
theorem t_fillI_loop {S : mE} {h : mHp} {a n : Nat} {f : Nat → Int32} {v : Int32} (hn : n ≤ 10000) (hg : mget h a = some (.inl (.int, n, .inl f))) : ∀ k i : Nat, i + k = n → Run S 167 (5, [(0, .ref a), (1, .int v), (2, .int (nI i)), (3, .int (nI n))], [], mput h a (.inl (.int, n, .inl (mfill i v f)))) (.inl none, mput h a (.inl (.int, n, .inl (mfill n v f)))) := by
  intro k
  induction k with
  | zero =>
    intro i hi
    have hi : i = n := by omega
    subst hi
    refine R_p d167_5 rfl rfl ?_
    refine R_p d167_6 rfl rfl ?_
    refine R_br 20 d167_7 (mb_t (b := nI i ≤ nI i) (nI_le (Nat.le_refl _) (by omega))) rfl ?_
    exact R_vret d167_20 rfl rfl
  | succ k ih =>
    intro i hi
    refine R_p d167_5 rfl rfl ?_
    refine R_p d167_6 rfl rfl ?_
    refine R_nb d167_7 rfl (mb_f (b := nI n ≤ nI i) (nI_ge (by omega) (by omega))) ?_
    refine R_p d167_10 rfl rfl ?_
    refine R_p d167_11 rfl rfl ?_
    refine R_p d167_12 rfl rfl ?_
    refine R_ist d167_13 (mget_eq hg _) (vp_in_nI (by omega) (by omega)) ?_
    refine R_p d167_14 rfl rfl ?_
    refine R_br 5 d167_17 rfl rfl ?_
    refine R_e (5, [(0, .ref a), (1, .int v), (2, .int (nI (i + 1))), (3, .int (nI n))], [], mput h a (.inl (.int, n, .inl (mfill (i + 1) v f)))) ?_ (ih (i + 1) (by omega))
    rw [mput_put, nI_clamp (by omega), mfill_s, ← nI_inc]
    rfl
theorem t_fillI {S : mE} {h : mHp} {a n : Nat} {f : Nat → Int32} {v : Int32} (hn : n ≤ 10000) (hg : mget h a = some (.inl (.int, n, .inl f))) : Run S 167 (0, [(0, .ref a), (1, .int v)], [], h) (.inl none, mput h a (.inl (.int, n, .inl (mfill n v f)))) := by
  refine R_p d167_0 rfl rfl ?_
  refine R_p d167_1 rfl rfl ?_
  refine R_p d167_2 rfl rfl ?_
  refine R_len d167_3 hg rfl ?_
  refine R_p d167_4 rfl rfl ?_
  refine R_e (5, [(0, .ref a), (1, .int v), (2, .int (nI 0)), (3, .int (nI n))], [], mput h a (.inl (.int, n, .inl (mfill 0 v f)))) ?_ (t_fillI_loop hn hg n 0 (by omega))
  rw [mfill_0, mput_self hg]
  rfl
theorem t_fillL_loop {S : mE} {h : mHp} {a n : Nat} {f : Nat → Int64} {v : Int64} (hn : n ≤ 10000) (hg : mget h a = some (.inl (.long, n, .inr (.inl f)))) : ∀ k i : Nat, i + k = n → Run S 168 (6, [(0, .ref a), (1, .long v), (3, .int (nI i)), (4, .int (nI n))], [], mput h a (.inl (.long, n, .inr (.inl (mfill i v f))))) (.inl none, mput h a (.inl (.long, n, .inr (.inl (mfill n v f))))) := by
  intro k
  induction k with
  | zero =>
    intro i hi
    have hi : i = n := by omega
    subst hi
    refine R_p d168_6 rfl rfl ?_
    refine R_p d168_7 rfl rfl ?_
    refine R_br 22 d168_9 (mb_t (b := nI i ≤ nI i) (nI_le (Nat.le_refl _) (by omega))) rfl ?_
    exact R_vret d168_22 rfl rfl
  | succ k ih =>
    intro i hi
    refine R_p d168_6 rfl rfl ?_
    refine R_p d168_7 rfl rfl ?_
    refine R_nb d168_9 rfl (mb_f (b := nI n ≤ nI i) (nI_ge (by omega) (by omega))) ?_
    refine R_p d168_12 rfl rfl ?_
    refine R_p d168_13 rfl rfl ?_
    refine R_p d168_14 rfl rfl ?_
    refine R_lst d168_15 (mget_eq hg _) (vp_in_nI (by omega) (by omega)) ?_
    refine R_p d168_16 rfl rfl ?_
    refine R_br 6 d168_19 rfl rfl ?_
    refine R_e (6, [(0, .ref a), (1, .long v), (3, .int (nI (i + 1))), (4, .int (nI n))], [], mput h a (.inl (.long, n, .inr (.inl (mfill (i + 1) v f))))) ?_ (ih (i + 1) (by omega))
    rw [mput_put, nI_clamp (by omega), mfill_sL, ← nI_inc]
    rfl
theorem t_fillL {S : mE} {h : mHp} {a n : Nat} {f : Nat → Int64} {v : Int64} (hn : n ≤ 10000) (hg : mget h a = some (.inl (.long, n, .inr (.inl f)))) : Run S 168 (0, [(0, .ref a), (1, .long v)], [], h) (.inl none, mput h a (.inl (.long, n, .inr (.inl (mfill n v f))))) := by
  refine R_p d168_0 rfl rfl ?_
  refine R_p d168_1 rfl rfl ?_
  refine R_p d168_2 rfl rfl ?_
  refine R_len d168_3 hg rfl ?_
  refine R_p d168_4 rfl rfl ?_
  refine R_e (6, [(0, .ref a), (1, .long v), (3, .int (nI 0)), (4, .int (nI n))], [], mput h a (.inl (.long, n, .inr (.inl (mfill 0 v f))))) ?_ (t_fillL_loop hn hg n 0 (by omega))
  rw [mfill_0, mput_self hg]
  rfl
