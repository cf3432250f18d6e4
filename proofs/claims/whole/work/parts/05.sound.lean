/-! what the small machine's state is in the machine: addresses, values, cells -/
def sg (n0 : Nat) (ex : Nat → Nat) (k : Nat) : Nat := if k < 16 then ex k else n0 + (k - 16)
def cv (n0 : Nat) (ex : Nat → Nat) (v : Value) : Value := match v with
  | .ref k => .ref (sg n0 ex k)
  | w => w
def cvp (n0 : Nat) (ex : Nat → Nat) (q : Nat × Value) : Nat × Value := (q.1, cv n0 ex q.2)
theorem cv_cat {n0 : Nat} {ex : Nat → Nat} (v : Value) : (cv n0 ex v).category = v.category := by cases v <;> rfl
def mce (n0 : Nat) (ex : Nat → Nat) (dA : FieldType → ClassId) (c : mC) : va_E := match c with
  | .inl (ty, a) => .inl (dA ty, a)
  | .inr (ci, fs) => .inr (ci, fs.map (cv n0 ex))
def mws (n0 : Nat) (ex : Nat → Nat) (dA : FieldType → ClassId) : mHp → Nat → va_W
  | [], _ => []
  | c :: t, i => (n0 + i, mce n0 ex dA c) :: mws n0 ex dA t (i + 1)
section Ws
variable {n0 : Nat} {ex : Nat → Nat} {dA : FieldType → ClassId}
theorem mws_get (h : mHp) (i k : Nat) : (mws n0 ex dA h i)[k]? = (h[k]?).map (fun c => (n0 + (i + k), mce n0 ex dA c)) := by
  induction h generalizing i k with
  | nil => simp [mws]
  | cons c t ih =>
    cases k with
    | zero => simp [mws]
    | succ k =>
      simp only [mws, List.getElem?_cons_succ]
      rw [ih]
      congr 1
      funext c
      rw [show i + 1 + k = i + (k + 1) by omega]
theorem mws_set (h : mHp) (i k : Nat) (c : mC) : (mws n0 ex dA h i).set k (n0 + (i + k), mce n0 ex dA c) = mws n0 ex dA (h.set k c) i := by
  induction h generalizing i k with
  | nil => simp [mws]
  | cons x t ih =>
    cases k with
    | zero => simp [mws]
    | succ k =>
      simp only [mws, List.set_cons_succ]
      rw [← ih, show i + 1 + k = i + (k + 1) by omega]
theorem mws_app (h : mHp) (c : mC) (i : Nat) : mws n0 ex dA (h ++ [c]) i = mws n0 ex dA h i ++ [(n0 + (i + h.length), mce n0 ex dA c)] := by
  induction h generalizing i with
  | nil => simp [mws]
  | cons x t ih =>
    simp only [List.cons_append, mws, ih, List.length_cons]
    rw [show i + 1 + t.length = i + (t.length + 1) by omega]
theorem mws_len (h : mHp) (i : Nat) : (mws n0 ex dA h i).length = h.length := by
  induction h generalizing i with
  | nil => rfl
  | cons x t ih => simp [mws, ih]
theorem mws_D (h : mHp) : va_D (fun q => n0 ≤ q) (mws n0 ex dA h 0) := by
  constructor
  · intro i j p q hi hj he
    rw [mws_get] at hi hj
    cases h1 : h[i]? with
    | none => rw [h1] at hi; cases hi
    | some c1 =>
      cases h2 : h[j]? with
      | none => rw [h2] at hj; cases hj
      | some c2 =>
        rw [h1] at hi; rw [h2] at hj
        cases hi; cases hj
        simp only at he
        omega
  · intro k q hk
    rw [mws_get] at hk
    cases h1 : h[k]? with
    | none => rw [h1] at hk; cases hk
    | some c1 => rw [h1] at hk; cases hk; exact Nat.le_add_right _ _
/-- a cell of the small heap in the world -/
theorem mws_at {h : mHp} {a : Nat} {c : mC} (hg : mget h a = some c) : (mws n0 ex dA h 0)[a - 16]? = some (sg n0 ex a, mce n0 ex dA c) := by
  unfold mget at hg
  by_cases ha : a < 16
  · rw [if_pos ha] at hg; cases hg
  · rw [if_neg ha] at hg
    rw [mws_get, hg]
    simp [sg, ha]
theorem mws_put {h : mHp} {a : Nat} {c : mC} (hg : mget h a = some c) (c' : mC) : (mws n0 ex dA h 0).set (a - 16) (sg n0 ex a, mce n0 ex dA c') = mws n0 ex dA (mput h a c') 0 := by
  unfold mget at hg
  by_cases ha : a < 16
  · rw [if_pos ha] at hg; cases hg
  · have := mws_set (n0 := n0) (ex := ex) (dA := dA) h 0 (a - 16) c'
    unfold mput
    rw [← this]
    simp [sg, ha]
end Ws
theorem lins_mem {l : mL} {i : Nat} {v : Value} {q : Nat × Value} (h : q ∈ lins l i v) : q = (i, v) ∨ q ∈ l := by
  induction l with
  | nil => simp [lins] at h; exact Or.inl h
  | cons x t ih =>
    obtain ⟨j, w⟩ := x
    simp only [lins] at h
    split at h
    · rcases List.mem_cons.mp h with h | h
      · exact Or.inl h
      · exact Or.inr h
    · rcases List.mem_cons.mp h with h | h
      · exact Or.inr (by rw [h]; exact List.mem_cons_self)
      · rcases ih h with h | h
        · exact Or.inl h
        · exact Or.inr (List.mem_cons_of_mem _ h)
theorem lget_mem {l : mL} {i : Nat} {v : Value} (h : lget l i = some v) : (i, v) ∈ l := by
  induction l with
  | nil => simp [lget] at h
  | cons x t ih =>
    obtain ⟨j, w⟩ := x
    simp only [lget] at h
    split at h
    · rename_i hj; subst hj; cases h; exact List.mem_cons_self
    · exact List.mem_cons_of_mem _ (ih h)
section Loc
variable {n0 : Nat} {ex : Nat → Nat} {la : Array Slot} {nL : Nat} {ls : mL}
theorem lh_at (hl : lv_has la nL (ls.map (cvp n0 ex))) {i : Nat} {v : Value} (h : lget ls i = some v) : la[i]? = some (.val (cv n0 ex v)) :=
  hl.2.2 (i, cv n0 ex v) (List.mem_map.mpr ⟨(i, v), lget_mem h, rfl⟩)
theorem lh_pos (hl : lv_has la nL (ls.map (cvp n0 ex))) {i : Nat} {v : Value} (h : lget ls i = some v) : ∃ k : Nat, (ls.map (cvp n0 ex))[k]? = some (i, cv n0 ex v) :=
  List.getElem?_of_mem (List.mem_map.mpr ⟨(i, v), lget_mem h, rfl⟩)
theorem lh_set1 {i : Nat} {v : Value} (h : lv_has la nL ((i, cv n0 ex v) :: (ls.map (cvp n0 ex)).filter (fun q => !(q.1 == i) && !(q.1 + 1 == i && q.2.category == 2)))) : lv_has la nL ((lset1 ls i v).map (cvp n0 ex)) := by
  refine ⟨h.1, h.2.1, fun q hq => h.2.2 q ?_⟩
  obtain ⟨q0, h0, rfl⟩ := List.mem_map.mp hq
  rcases lins_mem h0 with h1 | h1
  · rw [h1]; exact List.mem_cons_self
  · obtain ⟨h2, h3⟩ := List.mem_filter.mp h1
    refine List.mem_cons_of_mem _ (List.mem_filter.mpr ⟨List.mem_map.mpr ⟨q0, h2, rfl⟩, ?_⟩)
    simpa [cvp, cv_cat] using h3
theorem lh_set2 {i : Nat} {v : Value} (h : lv_has la nL ((i, cv n0 ex v) :: (ls.map (cvp n0 ex)).filter (fun q => !(q.1 == i) && (!(q.1 == i + 1) && !(q.1 + 1 == i && q.2.category == 2))))) : lv_has la nL ((lset2 ls i v).map (cvp n0 ex)) := by
  refine ⟨h.1, h.2.1, fun q hq => h.2.2 q ?_⟩
  obtain ⟨q0, h0, rfl⟩ := List.mem_map.mp hq
  rcases lins_mem h0 with h1 | h1
  · rw [h1]; exact List.mem_cons_self
  · obtain ⟨h2, h3⟩ := List.mem_filter.mp h1
    refine List.mem_cons_of_mem _ (List.mem_filter.mpr ⟨List.mem_map.mpr ⟨q0, h2, rfl⟩, ?_⟩)
    simpa [cvp, cv_cat] using h3
end Loc
section Pure
variable {p : Program} {l : Launch} {e : Env} {R : Room} {s : State} {m : MethodId} {args : Array Value} {below : List Frame} {meth : Method} {c : Code} {H : Heap} {locs : List Loc} {cells slots : Nat} {Q : State → Prop}
variable {n0 : Nat} {ex : Nat → Nat} {cc : ByteArray} {pc nL len : Nat} {la : Array Slot} {ls ls' : mL} {st st' : List Value} {i : Instr}
set_option maxHeartbeats 4000000 in
theorem ms_pure (hx : p.tables.exec = Jvm.exec) (hb : c.code = cc) (hd : decode cc pc = .ok (i, len)) (hn : mlen i = len) (hp : mpure nL i ls st = some (ls', st')) (hl : lv_has la nL (ls.map (cvp n0 ex)))
    (kk : ∀ la' : Array Slot, lv_has la' nL (ls'.map (cvp n0 ex)) → W p l e R s m args below meth c H locs cells slots Q (F0 m (pc + len) la' (st'.map (cv n0 ex)))) : W p l e R s m args below meth c H locs cells slots Q (F0 m pc la (st.map (cv n0 ex))) := by
  subst hn
  cases i with
  | iconst n => cases hp; exact lv_iconst hx hb hd rfl (kk la hl)
  | bipush n => cases hp; exact lv_bipush hx hb hd rfl (kk la hl)
  | sipush n => cases hp; exact lv_sipush hx hb hd rfl (kk la hl)
  | lconst n => cases hp; exact lv_lconst hx hb hd rfl (kk la hl)
  | iload_n k =>
    simp only [mpure, m_il] at hp
    split at hp
    · rename_i x hg; cases hp; exact lv_iload_n hx hb hd rfl (lh_at hl hg) (kk la hl)
    · cases hp
  | iload k =>
    simp only [mpure, m_il] at hp
    split at hp
    · rename_i x hg; cases hp; exact lv_iload hx hb hd (lh_at hl hg) (kk la hl)
    · cases hp
  | lload_n k =>
    simp only [mpure, m_llo] at hp
    split at hp
    · rename_i x hg; cases hp; exact lv_lload_n hx hb hd rfl (lh_at hl hg) (kk la hl)
    · cases hp
  | lload k =>
    simp only [mpure, m_llo] at hp
    split at hp
    · rename_i x hg; cases hp; exact lv_lload hx hb hd (lh_at hl hg) (kk la hl)
    · cases hp
  | aload_n k =>
    simp only [mpure, m_al] at hp
    split at hp
    · rename_i x hg; cases hp; exact lv_aload_n hx hb hd rfl (lh_at hl hg) (kk la hl)
    · cases hp
  | aload k =>
    simp only [mpure, m_al] at hp
    split at hp
    · rename_i x hg; cases hp; exact lv_aload hx hb hd (lh_at hl hg) (kk la hl)
    · cases hp
  | istore_n k =>
    simp only [mpure, m_is] at hp
    split at hp
    · split at hp
      · rename_i hi; cases hp; exact lv_istore_n hx hb hd rfl hl hi rfl (fun la' h' => kk la' (lh_set1 h'))
      · cases hp
    · cases hp
  | istore k =>
    simp only [mpure, m_is] at hp
    split at hp
    · split at hp
      · rename_i hi; cases hp; exact lv_istore hx hb hd hl hi rfl (fun la' h' => kk la' (lh_set1 h'))
      · cases hp
    · cases hp
  | lstore_n k =>
    simp only [mpure, m_lst] at hp
    split at hp
    · split at hp
      · rename_i hi; cases hp; exact lv_lstore_n hx hb hd rfl hl hi rfl (fun la' h' => kk la' (lh_set2 h'))
      · cases hp
    · cases hp
  | lstore k =>
    simp only [mpure, m_lst] at hp
    split at hp
    · split at hp
      · rename_i hi; cases hp; exact lv_lstore hx hb hd hl hi rfl (fun la' h' => kk la' (lh_set2 h'))
      · cases hp
    · cases hp
  | astore_n k =>
    simp only [mpure, m_as] at hp
    split at hp
    · split at hp
      · rename_i hi; cases hp; exact lv_astore_n hx hb hd rfl hl hi rfl (fun la' h' => kk la' (lh_set1 h'))
      · cases hp
    · cases hp
  | astore k =>
    simp only [mpure, m_as] at hp
    split at hp
    · split at hp
      · rename_i hi; cases hp; exact lv_astore hx hb hd hl hi rfl (fun la' h' => kk la' (lh_set1 h'))
      · cases hp
    · cases hp
  | iinc k n =>
    simp only [mpure] at hp
    split at hp
    · rename_i x hg
      split at hp
      · rename_i hi
        cases hp
        obtain ⟨q, hq⟩ := lh_pos hl hg
        exact lv_iinc hx hb hd hl hq rfl hi rfl (fun la' h' => kk la' (lh_set1 h'))
      · cases hp
    · cases hp
  | iadd => simp only [mpure, m_ii] at hp; split at hp; (· cases hp; exact lv_iadd hx hb hd (kk la hl)); (· cases hp)
  | isub => simp only [mpure, m_ii] at hp; split at hp; (· cases hp; exact lv_isub hx hb hd (kk la hl)); (· cases hp)
  | imul => simp only [mpure, m_ii] at hp; split at hp; (· cases hp; exact lv_imul hx hb hd (kk la hl)); (· cases hp)
  | iand => simp only [mpure, m_ii] at hp; split at hp; (· cases hp; exact lv_iand hx hb hd (kk la hl)); (· cases hp)
  | idiv =>
    simp only [mpure] at hp
    split at hp
    · split at hp
      · cases hp
      · rename_i hy; cases hp; exact lv_idiv hx hb hd hy (kk la hl)
    · cases hp
  | irem =>
    simp only [mpure] at hp
    split at hp
    · split at hp
      · cases hp
      · rename_i hy; cases hp; exact lv_irem hx hb hd hy (kk la hl)
    · cases hp
  | ladd => simp only [mpure, m_ll] at hp; split at hp; (· cases hp; exact lv_ladd hx hb hd (kk la hl)); (· cases hp)
  | lsub => simp only [mpure, m_ll] at hp; split at hp; (· cases hp; exact lv_lsub hx hb hd (kk la hl)); (· cases hp)
  | lmul => simp only [mpure, m_ll] at hp; split at hp; (· cases hp; exact lv_lmul hx hb hd (kk la hl)); (· cases hp)
  | land => simp only [mpure, m_ll] at hp; split at hp; (· cases hp; exact lv_land hx hb hd (kk la hl)); (· cases hp)
  | lor => simp only [mpure, m_ll] at hp; split at hp; (· cases hp; exact lv_lor hx hb hd (kk la hl)); (· cases hp)
  | lxor => simp only [mpure, m_ll] at hp; split at hp; (· cases hp; exact lv_lxor hx hb hd (kk la hl)); (· cases hp)
  | lshl => simp only [mpure, m_li] at hp; split at hp; (· cases hp; exact lv_lshl hx hb hd rfl (kk la hl)); (· cases hp)
  | lshr => simp only [mpure, m_li] at hp; split at hp; (· cases hp; exact lv_lshr hx hb hd rfl (kk la hl)); (· cases hp)
  | lushr => simp only [mpure, m_li] at hp; split at hp; (· cases hp; exact lv_lushr hx hb hd rfl (kk la hl)); (· cases hp)
  | lcmp => simp only [mpure] at hp; split at hp; (· cases hp; exact W.lcmp hx hb hd (kk la hl)); (· cases hp)
  | i2l => simp only [mpure] at hp; split at hp; (· cases hp; exact lv_i2l hx hb hd rfl (kk la hl)); (· cases hp)
  | dup =>
    simp only [mpure] at hp
    split at hp
    · split at hp
      · rename_i hc; cases hp; exact lv_dup hx hb hd (by rw [cv_cat]; exact hc) (kk la hl)
      · cases hp
    · cases hp
  | dup2 =>
    simp only [mpure] at hp
    split at hp
    · split at hp
      · rename_i hc; cases hp; exact lv_dup2_11 hx hb hd (by rw [cv_cat]; exact hc.1) (by rw [cv_cat]; exact hc.2) (kk la hl)
      · cases hp
    · cases hp
  | pop =>
    simp only [mpure] at hp
    split at hp
    · split at hp
      · rename_i hc; cases hp; exact lv_pop hx hb hd (by rw [cv_cat]; exact hc) (kk la hl)
      · cases hp
    · cases hp
  | _ => simp [mpure] at hp
theorem mb1_t {b : Prop} [Decidable b] {off o : Int} {t t' : List Value} (h : mb1 b off t = some (some o, t')) : b ∧ o = off ∧ t' = t := by
  unfold mb1 at h
  by_cases hb : b
  · simp [hb] at h; exact ⟨hb, h.1.symm, h.2.symm⟩
  · simp [hb] at h
theorem mb1_f {b : Prop} [Decidable b] {off : Int} {t t' : List Value} (h : mb1 b off t = some (none, t')) : ¬ b ∧ t' = t := by
  unfold mb1 at h
  by_cases hb : b
  · simp [hb] at h
  · simp [hb] at h; exact ⟨hb, h.symm⟩
set_option maxHeartbeats 4000000 in
theorem ms_br (hx : p.tables.exec = Jvm.exec) (hb : c.code = cc) {off : Int} {tgt : Nat} (hd : decode cc pc = .ok (i, 3)) (hp : mbr i st = some (some off, st')) (ht : (pc : Int) + off = (tgt : Int))
    (kk : W p l e R s m args below meth c H locs cells slots Q (F0 m tgt la (st'.map (cv n0 ex)))) : W p l e R s m args below meth c H locs cells slots Q (F0 m pc la (st.map (cv n0 ex))) := by
  cases i with
  | goto o => cases hp; exact lv_goto hx hb hd ht kk
  | ifCond o off' =>
    simp only [mbr] at hp
    split at hp
    · cases o
      all_goals simp only at hp
      all_goals obtain ⟨h1, rfl, rfl⟩ := mb1_t hp
      · exact lv_if_eq hx hb hd ht (fun _ => kk) (fun h => absurd h1 h)
      · exact lv_if_ne hx hb hd ht (fun _ => kk) (fun h => absurd h h1)
      · exact lv_if_lt hx hb hd ht (fun _ => kk) (fun h => absurd h1 h)
      · exact lv_if_ge hx hb hd ht (fun _ => kk) (fun h => absurd h1 h)
      · exact lv_if_gt hx hb hd ht (fun _ => kk) (fun h => absurd h1 h)
      · exact lv_if_le hx hb hd ht (fun _ => kk) (fun h => absurd h1 h)
    · cases hp
  | if_icmp o off' =>
    simp only [mbr] at hp
    split at hp
    · cases o
      all_goals simp only at hp
      all_goals obtain ⟨h1, rfl, rfl⟩ := mb1_t hp
      · exact lv_icmp_eq hx hb hd ht (fun _ => kk) (fun h => absurd h1 h)
      · exact lv_icmp_ne hx hb hd ht (fun _ => kk) (fun h => absurd h h1)
      · exact lv_icmp_lt hx hb hd ht (fun _ => kk) (fun h => absurd h1 h)
      · exact lv_icmp_ge hx hb hd ht (fun _ => kk) (fun h => absurd h1 h)
      · exact lv_icmp_gt hx hb hd ht (fun _ => kk) (fun h => absurd h1 h)
      · exact lv_icmp_le hx hb hd ht (fun _ => kk) (fun h => absurd h1 h)
    · cases hp
  | _ => simp [mbr] at hp
set_option maxHeartbeats 4000000 in
theorem ms_nb (hx : p.tables.exec = Jvm.exec) (hb : c.code = cc) (hd : decode cc pc = .ok (i, 3)) {tg : Int → Nat} (htg : ∀ off : Int, (∃ o, i = .ifCond o off) ∨ (∃ o, i = .if_icmp o off) → (pc : Int) + off = (tg off : Int)) (hp : mbr i st = some (none, st'))
    (kk : W p l e R s m args below meth c H locs cells slots Q (F0 m (pc + 3) la (st'.map (cv n0 ex)))) : W p l e R s m args below meth c H locs cells slots Q (F0 m pc la (st.map (cv n0 ex))) := by
  cases i with
  | goto o => cases hp
  | ifCond o off' =>
    simp only [mbr] at hp
    have ht := htg off' (Or.inl ⟨_, rfl⟩)
    split at hp
    · cases o
      all_goals simp only at hp
      all_goals obtain ⟨h1, rfl⟩ := mb1_f hp
      · exact lv_if_eq hx hb hd ht (fun h => absurd h h1) (fun _ => kk)
      · exact lv_if_ne hx hb hd ht (fun h => absurd h h1) (fun _ => kk)
      · exact lv_if_lt hx hb hd ht (fun h => absurd h h1) (fun _ => kk)
      · exact lv_if_ge hx hb hd ht (fun h => absurd h h1) (fun _ => kk)
      · exact lv_if_gt hx hb hd ht (fun h => absurd h h1) (fun _ => kk)
      · exact lv_if_le hx hb hd ht (fun h => absurd h h1) (fun _ => kk)
    · cases hp
  | if_icmp o off' =>
    simp only [mbr] at hp
    have ht := htg off' (Or.inr ⟨_, rfl⟩)
    split at hp
    · cases o
      all_goals simp only at hp
      all_goals obtain ⟨h1, rfl⟩ := mb1_f hp
      · exact lv_icmp_eq hx hb hd ht (fun h => absurd h h1) (fun _ => kk)
      · exact lv_icmp_ne hx hb hd ht (fun h => absurd h h1) (fun _ => kk)
      · exact lv_icmp_lt hx hb hd ht (fun h => absurd h h1) (fun _ => kk)
      · exact lv_icmp_ge hx hb hd ht (fun h => absurd h h1) (fun _ => kk)
      · exact lv_icmp_gt hx hb hd ht (fun h => absurd h h1) (fun _ => kk)
      · exact lv_icmp_le hx hb hd ht (fun h => absurd h h1) (fun _ => kk)
    · cases hp
  | _ => simp [mbr] at hp
end Pure
