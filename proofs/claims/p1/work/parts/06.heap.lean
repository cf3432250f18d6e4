/-! the words of the tables at every state of the run; the tables of the small machine say what they should -/
def mTb (s : State) : Prop := ∀ w ∈ mTbl, w.before #[] s = true
theorem mTb_warm {s U : State} {a : Array Value} (hW : s.WarmedH U.vm) (h : mTb s) : ∀ w ∈ mTbl, w.before a U = true := by
  intro w hw
  have g : mGood w = true := (List.mem_filter.mp hw).2
  have hb := h w hw
  unfold mGood at g
  by_cases hg : goodWord w = true
  · exact word_at hW (good_of_word hg) hb
  · cases w with
    | fieldLinkNest a i b n d h => exact va_Nw.use rfl (va_Nw.warmF hW hb)
    | methodLinkNest a i x h => exact va_Nw.use rfl (va_Nw.warmM hW hb)
    | castable a b => exact va_Nw.use rfl (va_Nw.warmC hW hb)
    | declares x => exact va_Nw.use rfl (va_Nw.warmD hW hb)
    | _ => simp [hg] at g
theorem mTb_use {s : State} {w : Cond} (h : mTb s) (hw : w ∈ mTbl) {a : Array Value} : w.before a s = true := mTb_warm (State.WarmedH.refl s) h w hw
theorem m_lay {ci : Nat} {C : String} {T : u_T} {N : Nat} (h : mcl[ci]? = some (C, T, N)) : ∀ w ∈ u_ws C T N, w ∈ mTbl := by
  match ci, h with
  | 0, h => cases h; exact mlay0
  | 1, h => cases h; exact mlay1
  | 2, h => cases h; exact mlay2
  | 3, h => cases h; exact mlay3
  | 4, h => cases h; exact mlay4
  | 5, h => cases h; exact mlay5
  | 6, h => cases h; exact mlay6
  | 7, h => cases h; exact mlay7
  | 8, h => cases h; exact mlay8
  | 9, h => cases h; exact mlay9
  | 10, h => cases h; intro w hw; cases hw
  | 11, h => cases h; intro w hw; cases hw
  | 12, h => cases h; intro w hw; cases hw
  | n + 13, h => cases h
theorem m_ty {ci : Nat} {C : String} {T : u_T} {N : Nat} (h : mcl[ci]? = some (C, T, N)) : ∀ k, k < N → parseFieldDescriptor (T k).2.2.1 = some (mty ci k) := by
  match ci, h with
  | 0, h => cases h; exact mtyok0
  | 1, h => cases h; exact mtyok1
  | 2, h => cases h; exact mtyok2
  | 3, h => cases h; exact mtyok3
  | 4, h => cases h; exact mtyok4
  | 5, h => cases h; exact mtyok5
  | 6, h => cases h; exact mtyok6
  | 7, h => cases h; exact mtyok7
  | 8, h => cases h; exact mtyok8
  | 9, h => cases h; exact mtyok9
  | 10, h => cases h; intro k hk; omega
  | 11, h => cases h; intro k hk; omega
  | 12, h => cases h; intro k hk; omega
  | n + 13, h => cases h
theorem m_nm {ci : Nat} {C : String} {T : u_T} {N : Nat} (h : mcl[ci]? = some (C, T, N)) : ∀ a, a < N → ∀ b, b < N → a ≠ b → (T a).2.1 ≠ (T b).2.1 := by
  match ci, h with
  | 0, h => cases h; exact mnm0
  | 1, h => cases h; exact mnm1
  | 2, h => cases h; exact mnm2
  | 3, h => cases h; exact mnm3
  | 4, h => cases h; exact mnm4
  | 5, h => cases h; exact mnm5
  | 6, h => cases h; exact mnm6
  | 7, h => cases h; exact mnm7
  | 8, h => cases h; exact mnm8
  | 9, h => cases h; exact mnm9
  | 10, h => cases h; intro k hk; omega
  | 11, h => cases h; intro k hk; omega
  | 12, h => cases h; intro k hk; omega
  | n + 13, h => cases h
theorem mcl_nm {ci : Nat} {C : String} {T : u_T} {N : Nat} (h : mcl[ci]? = some (C, T, N)) : mNmOf ci = C := by
  match ci, h with
  | 0, h => cases h; rfl
  | 1, h => cases h; rfl
  | 2, h => cases h; rfl
  | 3, h => cases h; rfl
  | 4, h => cases h; rfl
  | 5, h => cases h; rfl
  | 6, h => cases h; rfl
  | 7, h => cases h; rfl
  | 8, h => cases h; rfl
  | 9, h => cases h; rfl
  | 10, h => cases h; rfl
  | 11, h => cases h; rfl
  | 12, h => cases h; rfl
  | n + 13, h => cases h
theorem mFld_spec {o idx ci k w : Nat} (h : (o, idx, ci, k, w) ∈ mFldT) : ∃ C T N, mcl[ci]? = some (C, T, N) ∧ k < N ∧ (T k).1 = C ∧ Cond.fieldLink (mNmOf o) idx C (T k).2.1 (T k).2.2.1 ∈ mTbl := by
  have hk := List.all_eq_true.mp mFldT_ok _ h
  simp only [mFldOK] at hk
  split at hk
  · rename_i C T N hc
    simp only [Bool.and_eq_true, decide_eq_true_eq] at hk
    exact ⟨C, T, N, hc, hk.1, hk.2.1, mIs.mem hk.2.2⟩
  · cases hk
theorem mFldN_spec {o idx ci k w : Nat} (h : (o, idx, ci, k, w) ∈ mFldNT) : ∃ C T N, mcl[ci]? = some (C, T, N) ∧ k < N ∧ (T k).1 = C ∧ Cond.fieldLinkNest (mNmOf o) idx C (T k).2.1 (T k).2.2.1 "MeshWalk" ∈ mTbl := by
  have hk := List.all_eq_true.mp mFldNT_ok _ h
  simp only [mFldNOK] at hk
  split at hk
  · rename_i C T N hc
    simp only [Bool.and_eq_true, decide_eq_true_eq] at hk
    exact ⟨C, T, N, hc, hk.1, hk.2.1, mIs.mem hk.2.2⟩
  · cases hk
theorem mNewT_lt : mNewT.all (fun q => decide (q.2.2.1 < 10)) = true := by decide +kernel
theorem mNew_spec {o idx ci a b d : Nat} (h : (o, idx, ci, a, b, d) ∈ mNewT) : ∃ C T N, mcl[ci]? = some (C, T, N) ∧ ci < 10 ∧ Cond.classLink (mNmOf o) idx C ∈ mTbl ∧ Cond.instantiable C N ∈ mTbl ∧ Cond.initialized C ∈ mTbl := by
  have hk := List.all_eq_true.mp mNewT_ok _ h
  have hl := List.all_eq_true.mp mNewT_lt _ h
  simp only [decide_eq_true_eq] at hl
  simp only [mNewOK] at hk
  split at hk
  · rename_i C T N hc
    simp only [Bool.and_eq_true] at hk
    exact ⟨C, T, N, hc, hl, mIs.mem hk.1, mIs.mem hk.2.1, mIs.mem hk.2.2⟩
  · cases hk
theorem mobj1 : Cond.instanceMethod objectInit ∈ mTbl := mIs.mem (i := 82) (by decide +kernel)
theorem mobj2 : Cond.code objectInit ⟨#[0xb1]⟩ 1 none ∈ mTbl := mIs.mem (i := 83) (by decide +kernel)
theorem marr1 : Cond.arrayClass .int ∈ mTbl := mIs.mem (i := 106) (by decide +kernel)
theorem marr2 : Cond.arrayClass .long ∈ mTbl := mIs.mem (i := 136) (by decide +kernel)
theorem marr3 : Cond.arrayClass .boolean ∈ mTbl := mIs.mem (i := 947) (by decide +kernel)
/-! what stands at every point of a method's walk -/
abbrev mA (n0 : Nat) : Nat → Prop := fun q => n0 ≤ q
abbrev mtys (dA : FieldType → ClassId) : List (ClassId × FieldType) := [(dA .int, .int), (dA .long, .long), (dA .boolean, .boolean)]
/-- what the makers of exceptions need of Throwable's two statics: where they lie, and that they hold a reference or null -/
def mStatT : List (String × String) := [("UNASSIGNED_STACK", "[Ljava/lang/StackTraceElement;"), ("SUPPRESSED_SENTINEL", "Ljava/util/List;")]
def mSt (n0 : Nat) (s : State) : Prop := ∀ q ∈ mStatT, ∃ c k i f a cell v, s.vm.findClass "java/lang/Throwable" = some c ∧ s.fieldFound? "java/lang/Throwable" q.1 q.2 = some (c, k, i, f) ∧ f.isStatic = true ∧ k.statics = some a ∧ a < n0 ∧ s.heap[a]? = some cell ∧ cell.vm.isStatics = true ∧ cell.cls = c ∧ f.slot < cell.slots.size ∧ k.staticTypes[f.slot]? = some f.type ∧ cell.slots[f.slot]? = some v ∧ v.isRef = true
/-- the String constants, by their places in the class file and among the cells that were there before -/
def mStrT : List (Nat × String × Nat) := [(168, "a coordinate is out of bounds", 1), (60, "there are 40 points", 2), (170, "there is no such point", 3), (172, "the points are the same", 4), (176, "there is no such triangle, corner or edge", 5), (144, "no circle goes through points on one line", 6)]
def mXc (n0 : Nat) (ex : Nat → Nat) (s : State) : Prop := mSt n0 s ∧ (∀ q ∈ mStrT, vk_R "MeshWalk" q.1 q.2.1 (ex q.2.2) s) ∧ (Cond.castable "java/lang/IllegalStateException" "java/lang/IllegalArgumentException").before #[] s = false
def mCx (D : va_G) (n0 : Nat) (ex : Nat → Nat) (dA : FieldType → ClassId) (S : mE) (s : State) : Prop :=
  va_K D mcl (mtys dA) s ∧ va_X (ex 0) S.1 S.2 s s.heap ∧ ex 0 < n0 ∧ n0 ≤ s.heap.size ∧ mTb s ∧ mXc n0 ex s
theorem mSt_moved {n0 : Nat} {s U : State} (hW : s.WarmedH U.vm) (hh : ∀ q, q < n0 → U.heap[q]? = s.heap[q]?) (h : mSt n0 s) : mSt n0 U := by
  intro q hq
  obtain ⟨c, k, i, f, a, cell, v, h1, h2, h3, h4, h5, h6, h7, h8, h9, h10, h11, h12⟩ := h q hq
  obtain ⟨k', hk', he⟩ := State.fieldFound?_setVm hW.alike h2
  refine ⟨c, k', i, f, a, cell, v, by rw [hW.alike.findClass]; exact h1, by simpa only [State.fieldFound?, State.vm_setVm] using hk', h3, by rw [he]; exact h4, h5, by rw [hh a h5]; exact h6, h7, h8, h9, by rw [he]; exact h10, h11, h12⟩
theorem mXc_moved {n0 : Nat} {ex : Nat → Nat} {s U : State} (hW : s.WarmedH U.vm) (hh : ∀ q, q < n0 → U.heap[q]? = s.heap[q]?) (h : mXc n0 ex s) : mXc n0 ex U := by
  refine ⟨mSt_moved hW hh h.1, fun q hq => vk_R.warm hW (h.2.1 q hq), ?_⟩
  have h1 := Cond.castable_setVm (args := #[]) hW.alike "java/lang/IllegalStateException" "java/lang/IllegalArgumentException"
  rw [h.2.2] at h1
  have h2 : (Cond.castable "java/lang/IllegalStateException" "java/lang/IllegalArgumentException").before #[] U = (Cond.castable "java/lang/IllegalStateException" "java/lang/IllegalArgumentException").before #[] (s.setVm U.vm) := by
    simp only [Cond.before, Cond.holds, Cond.value, State.vm_setVm]
  rw [h2]; exact h1
def mFix (M : Nat) (p : Program) (s : State) (m : MethodId) (meth : Method) (c : Code) : Prop :=
  p.tables.exec = Jvm.exec ∧ c.code = mCode M ∧ meth.sig.returnType = mRet M ∧ c.maxLocals = mMaxL M ∧ meth.locks = false ∧ meth.name = (mName M).name ∧ s.vm.findClass (mNmOf (mOwn M)) = some m.cls ∧ c.exceptionTable.toList.map (fun h => (h.startPc, h.endPc, h.handlerPc, h.catchType)) = mHand M
section Heap
variable {p : Program} {l : Launch} {e : Env} {R : Room} {s : State} {m : MethodId} {args : Array Value} {below : List Frame} {meth : Method} {c : Code} {H : Heap} {locs : List Loc} {cells slots : Nat} {Q : State → Prop}
variable {D : va_G} {n0 : Nat} {ex : Nat → Nat} {dA : FieldType → ClassId} {S : mE} {M pc : Nat} {la : Array Slot} {st : List Value} {h : mHp}
theorem W.sz {g : JFrame} (k : H.size ≤ s.heap.size + cells → W p l e R s m args below meth c H locs cells slots Q g) : W p l e R s m args below meth c H locs cells slots Q g := fun T hT X => k (by rw [← hT]; exact X.heapSize) T hT X
theorem W.mono {Q' : State → Prop} {g : JFrame} (hq : ∀ t, Q t → Q' t) (k : W p l e R s m args below meth c H locs cells slots Q g) : W p l e R s m args below meth c H locs cells slots Q' g := fun T hT X => by
  obtain ⟨t, a, b⟩ := k T hT X
  exact ⟨t, a, hq t b⟩
theorem ms_get (F : mFix M p s m meth c) (X : mCx D n0 ex dA S s) (hP : va_P D mcl (mws n0 ex dA h 0) H) {idx ci k w a : Nat} {fs : List Value} {v : Value} (hd : decode (mCode M) pc = .ok (.getfield idx, 3)) (hf : (mOwn M, idx, ci, k, w) ∈ mFldT ∨ (mOwn M, idx, ci, k, w) ∈ mFldNT) (hg : mget h a = some (.inr (ci, fs))) (hv : fs[k]? = some v)
    (kk : W p l e R s m args below meth c H locs cells slots Q (F0 m (pc + 3) la (cv n0 ex v :: st))) : W p l e R s m args below meth c H locs cells slots Q (F0 m pc la (.ref (sg n0 ex a) :: st)) := by
  obtain ⟨hx, hb, -, -, -, -, hown, -⟩ := F
  have hv' : (fs.map (cv n0 ex))[k]? = some (cv n0 ex v) := by rw [List.getElem?_map, hv]; rfl
  rcases hf with hf | hf
  · obtain ⟨C, T, N, hc, hk, hC, hw⟩ := mFld_spec hf
    exact va_get (D := D) (v := cv n0 ex v) hx hb (fun w hw => mTb_use X.2.2.2.2.1 hw) (m_lay hc) hown X.1 hP (a - 16) (mws_at hg) hc k hk (mTb_use X.2.2.2.2.1 hw) (fun x9 h9 => by rw [hC] at h9; exact h9) hv' hd kk
  · obtain ⟨C, T, N, hc, hk, hC, hw⟩ := mFldN_spec hf
    exact va_getN (D := D) (v := cv n0 ex v) hx hb (fun w hw => mTb_use X.2.2.2.2.1 hw) (m_lay hc) hown X.1 hP (a - 16) (mws_at hg) hc k hk (mTb_use X.2.2.2.2.1 hw) (fun x9 h9 => by rw [hC] at h9; exact h9) hv' hd kk
theorem cv_nar {ty : FieldType} {v : Value} (h : narrow ty v = v) : narrow ty (cv n0 ex v) = cv n0 ex v := by
  cases v <;> first | exact h | (cases ty <;> rfl)
theorem cv_fit {ty : FieldType} {v : Value} (h : fits ty v = true) : fits ty (cv n0 ex v) = true := by
  cases v <;> first | exact h | (cases ty <;> first | rfl | exact h)
theorem ms_put (F : mFix M p s m meth c) (X : mCx D n0 ex dA S s) (hP : va_P D mcl (mws n0 ex dA h 0) H) (hS : va_S (mA n0) s.heap H locs) {idx ci k w a : Nat} {fs : List Value} {v : Value} (hd : decode (mCode M) pc = .ok (.putfield idx, 3)) (hf : (mOwn M, idx, ci, k, w) ∈ mFldT) (hg : mget h a = some (.inr (ci, fs))) (hl : k < fs.length) (hn : narrow (mty ci k) v = v) (hft : fits (mty ci k) v = true) (hfin : mfin ci k = false ∨ ((mName M).name = "<init>" ∧ mOwn M = ci))
    (kk : ∀ (H1 : Heap) (locs1 : List Loc), va_P D mcl (mws n0 ex dA (mput h a (.inr (ci, fs.set k v))) 0) H1 → va_S (mA n0) s.heap H1 locs1 → W p l e R s m args below meth c H1 locs1 cells slots Q (F0 m (pc + 3) la st)) : W p l e R s m args below meth c H locs cells slots Q (F0 m pc la (cv n0 ex v :: .ref (sg n0 ex a) :: st)) := by
  obtain ⟨hx, hb, -, -, -, hin, hown, -⟩ := F
  obtain ⟨C, T, N, hc, hk, hC, hw⟩ := mFld_spec hf
  have e1 : ((mws n0 ex dA h 0).set (a - 16) (sg n0 ex a, .inr (ci, (fs.map (cv n0 ex)).set k (cv n0 ex v)))) = mws n0 ex dA (mput h a (.inr (ci, fs.set k v))) 0 := by
    rw [← mws_put hg (.inr (ci, fs.set k v))]
    simp only [mce, List.map_set]
  have kk' : ∀ (H1 : Heap) (locs1 : List Loc), va_P D mcl ((mws n0 ex dA h 0).set (a - 16) (sg n0 ex a, .inr (ci, (fs.map (cv n0 ex)).set k (cv n0 ex v)))) H1 → va_D (mA n0) ((mws n0 ex dA h 0).set (a - 16) (sg n0 ex a, .inr (ci, (fs.map (cv n0 ex)).set k (cv n0 ex v)))) → va_S (mA n0) s.heap H1 locs1 → W p l e R s m args below meth c H1 locs1 cells slots Q (F0 m (pc + 3) la st) := by
    intro H1 locs1 h1 _ h3
    rw [e1] at h1
    exact kk H1 locs1 h1 h3
  have hmf : mfin ci k = (T k).2.2.2 := by unfold mfin; rw [hc]; rfl
  by_cases hb1 : (T k).2.2.2 = true
  · rcases hfin with hfin | ⟨h1, h2⟩
    · rw [hmf, hb1] at hfin; cases hfin
    · exact va_putF (D := D) (A := mA n0) hx hb (fun w hw => mTb_use X.2.2.2.2.1 hw) (m_lay hc) (mty ci) (m_ty hc) (m_nm hc) hown X.1 hP (mws_D h) hS (a - 16) (mws_at hg) hc k hk (mTb_use X.2.2.2.2.1 hw) (fun x9 h9 => by rw [hC] at h9; exact h9) hb1 (hin.trans h1) (by rw [hC, h2]; exact (mcl_nm hc).symm) (m_ty hc k hk) (cv_nar hn) (cv_fit hft) (by rw [List.length_map]; exact hl) hd kk'
  · have hb2 : (T k).2.2.2 = false := by cases hz : (T k).2.2.2 with
      | true => exact absurd hz hb1
      | false => rfl
    exact va_put (D := D) (A := mA n0) hx hb (fun w hw => mTb_use X.2.2.2.2.1 hw) (m_lay hc) (mty ci) (m_ty hc) (m_nm hc) hown X.1 hP (mws_D h) hS (a - 16) (mws_at hg) hc k hk (mTb_use X.2.2.2.2.1 hw) (fun x9 h9 => by rw [hC] at h9; exact h9) hb2 (m_ty hc k hk) (cv_nar hn) (cv_fit hft) (by rw [List.length_map]; exact hl) hd kk'
theorem ms_ild (F : mFix M p s m meth c) (X : mCx D n0 ex dA S s) (hP : va_P D mcl (mws n0 ex dA h 0) H) {a n : Nat} {f : Nat → Int32} {i : Int32} (hd : decode (mCode M) pc = .ok (.iaload, 1)) (hg : mget h a = some (.inl (.int, n, .inl f))) (hin : vp_in i n)
    (kk : W p l e R s m args below meth c H locs cells slots Q (F0 m (pc + 1) la (.int (f i.toNatClampNeg) :: st))) : W p l e R s m args below meth c H locs cells slots Q (F0 m pc la (.int i :: .ref (sg n0 ex a) :: st)) :=
  va_iald F.1 F.2.1 X.1 hP (a - 16) 0 (mws_at hg) rfl hin hd kk
theorem ms_zld (F : mFix M p s m meth c) (X : mCx D n0 ex dA S s) (hP : va_P D mcl (mws n0 ex dA h 0) H) {a n : Nat} {f : Nat → Int32} {i : Int32} (hd : decode (mCode M) pc = .ok (.baload, 1)) (hg : mget h a = some (.inl (.boolean, n, .inl f))) (hin : vp_in i n)
    (kk : W p l e R s m args below meth c H locs cells slots Q (F0 m (pc + 1) la (.int (f i.toNatClampNeg) :: st))) : W p l e R s m args below meth c H locs cells slots Q (F0 m pc la (.int i :: .ref (sg n0 ex a) :: st)) :=
  va_zald F.1 F.2.1 X.1 hP (a - 16) 2 (mws_at hg) rfl hin hd kk
theorem ms_lld (F : mFix M p s m meth c) (X : mCx D n0 ex dA S s) (hP : va_P D mcl (mws n0 ex dA h 0) H) {a n : Nat} {f : Nat → Int64} {i : Int32} (hd : decode (mCode M) pc = .ok (.laload, 1)) (hg : mget h a = some (.inl (.long, n, .inr (.inl f)))) (hin : vp_in i n)
    (kk : W p l e R s m args below meth c H locs cells slots Q (F0 m (pc + 1) la (.long (f i.toNatClampNeg) :: st))) : W p l e R s m args below meth c H locs cells slots Q (F0 m pc la (.int i :: .ref (sg n0 ex a) :: st)) :=
  va_lald F.1 F.2.1 X.1 hP (a - 16) 1 (mws_at hg) rfl hin hd kk
theorem ms_ist (F : mFix M p s m meth c) (X : mCx D n0 ex dA S s) (hP : va_P D mcl (mws n0 ex dA h 0) H) (hS : va_S (mA n0) s.heap H locs) {a n : Nat} {f : Nat → Int32} {i x : Int32} (hd : decode (mCode M) pc = .ok (.iastore, 1)) (hg : mget h a = some (.inl (.int, n, .inl f))) (hin : vp_in i n)
    (kk : ∀ (H1 : Heap) (locs1 : List Loc), va_P D mcl (mws n0 ex dA (mput h a (.inl (.int, n, .inl (upd f i.toNatClampNeg x)))) 0) H1 → va_S (mA n0) s.heap H1 locs1 → W p l e R s m args below meth c H1 locs1 cells slots Q (F0 m (pc + 1) la st)) : W p l e R s m args below meth c H locs cells slots Q (F0 m pc la (.int x :: .int i :: .ref (sg n0 ex a) :: st)) :=
  va_iast F.1 F.2.1 X.1 hP (mws_D h) hS (a - 16) 0 (mws_at hg) rfl hin hd (fun H1 locs1 h1 _ h3 => kk H1 locs1 (by rw [← mws_put hg]; exact h1) h3)
theorem ms_zst (F : mFix M p s m meth c) (X : mCx D n0 ex dA S s) (hP : va_P D mcl (mws n0 ex dA h 0) H) (hS : va_S (mA n0) s.heap H locs) {a n : Nat} {f : Nat → Int32} {i x : Int32} (hd : decode (mCode M) pc = .ok (.bastore, 1)) (hg : mget h a = some (.inl (.boolean, n, .inl f))) (hin : vp_in i n)
    (kk : ∀ (H1 : Heap) (locs1 : List Loc), va_P D mcl (mws n0 ex dA (mput h a (.inl (.boolean, n, .inl (upd f i.toNatClampNeg (vp_nar .boolean x))))) 0) H1 → va_S (mA n0) s.heap H1 locs1 → W p l e R s m args below meth c H1 locs1 cells slots Q (F0 m (pc + 1) la st)) : W p l e R s m args below meth c H locs cells slots Q (F0 m pc la (.int x :: .int i :: .ref (sg n0 ex a) :: st)) :=
  va_zast F.1 F.2.1 X.1 hP (mws_D h) hS (a - 16) 2 (mws_at hg) rfl hin hd (fun H1 locs1 h1 _ h3 => kk H1 locs1 (by rw [← mws_put hg]; exact h1) h3)
theorem ms_lst (F : mFix M p s m meth c) (X : mCx D n0 ex dA S s) (hP : va_P D mcl (mws n0 ex dA h 0) H) (hS : va_S (mA n0) s.heap H locs) {a n : Nat} {f : Nat → Int64} {i : Int32} {x : Int64} (hd : decode (mCode M) pc = .ok (.lastore, 1)) (hg : mget h a = some (.inl (.long, n, .inr (.inl f)))) (hin : vp_in i n)
    (kk : ∀ (H1 : Heap) (locs1 : List Loc), va_P D mcl (mws n0 ex dA (mput h a (.inl (.long, n, .inr (.inl (vp_updL f i.toNatClampNeg x))))) 0) H1 → va_S (mA n0) s.heap H1 locs1 → W p l e R s m args below meth c H1 locs1 cells slots Q (F0 m (pc + 1) la st)) : W p l e R s m args below meth c H locs cells slots Q (F0 m pc la (.long x :: .int i :: .ref (sg n0 ex a) :: st)) :=
  va_last F.1 F.2.1 X.1 hP (mws_D h) hS (a - 16) 1 (mws_at hg) rfl hin hd (fun H1 locs1 h1 _ h3 => kk H1 locs1 (by rw [← mws_put hg]; exact h1) h3)
theorem ms_len (F : mFix M p s m meth c) (X : mCx D n0 ex dA S s) (hP : va_P D mcl (mws n0 ex dA h 0) H) {a : Nat} {ty : FieldType} {x : vp_A} (hd : decode (mCode M) pc = .ok (.arraylength, 1)) (hg : mget h a = some (.inl (ty, x))) (hty : mprim ty = true)
    (kk : W p l e R s m args below meth c H locs cells slots Q (F0 m (pc + 1) la (.int (Int32.ofNat x.1) :: st))) : W p l e R s m args below meth c H locs cells slots Q (F0 m pc la (.ref (sg n0 ex a) :: st)) := by
  cases ty with
  | int => exact va_alen F.1 F.2.1 X.1 hP (a - 16) 0 (mws_at hg) rfl rfl hd kk
  | long => exact va_alen F.1 F.2.1 X.1 hP (a - 16) 1 (mws_at hg) rfl rfl hd kk
  | boolean => exact va_alen F.1 F.2.1 X.1 hP (a - 16) 2 (mws_at hg) rfl rfl hd kk
  | _ => cases hty
theorem ms_sld (F : mFix M p s m meth c) (X : mCx D n0 ex dA S s) (hS : va_S (mA n0) s.heap H locs) {i : Int32} (hd : decode (mCode M) pc = .ok (.iaload, 1)) (hin : vp_in i S.1)
    (kk : W p l e R s m args below meth c H locs cells slots Q (F0 m (pc + 1) la (.int (S.2 i.toNatClampNeg) :: st))) : W p l e R s m args below meth c H locs cells slots Q (F0 m pc la (.int i :: .ref (sg n0 ex 0) :: st)) :=
  va_sld (A := mA n0) F.1 F.2.1 X.2.1 (Nat.lt_of_lt_of_le X.2.2.1 X.2.2.2.1) (Nat.not_le.mpr X.2.2.1) hS hin hd kk
theorem ms_sln (F : mFix M p s m meth c) (X : mCx D n0 ex dA S s) (hS : va_S (mA n0) s.heap H locs) (hd : decode (mCode M) pc = .ok (.arraylength, 1))
    (kk : W p l e R s m args below meth c H locs cells slots Q (F0 m (pc + 1) la (.int (Int32.ofNat S.1) :: st))) : W p l e R s m args below meth c H locs cells slots Q (F0 m pc la (.ref (sg n0 ex 0) :: st)) :=
  va_slen (A := mA n0) F.1 F.2.1 X.2.1 (Nat.lt_of_lt_of_le X.2.2.1 X.2.2.2.1) (Nat.not_le.mpr X.2.2.1) hS hd kk
/-- the address of a new cell -/
theorem m_q {q : Nat} {x : va_E} {H1 : Heap} (hP : va_P D mcl (mws n0 ex dA h 0 ++ [(q, x)]) H1) (hD : va_D (mA n0) (mws n0 ex dA h 0 ++ [(q, x)])) (hz : H1.size ≤ n0 + h.length + 1) : q = n0 + h.length := by
  have hl : (mws n0 ex dA h 0 ++ [(q, x)])[h.length]? = some (q, x) := by
    rw [List.getElem?_append_right (by rw [mws_len]; exact Nat.le_refl _), mws_len]
    simp
  have h1 : q < H1.size := (hP _ _ hl).lt
  have h2 : n0 ≤ q := hD.2 _ _ hl
  by_cases h3 : q = n0 + h.length
  · exact h3
  · have h4 : q - n0 < h.length := by omega
    have h5 : (mws n0 ex dA h 0 ++ [(q, x)])[q - n0]? = some (n0 + (0 + (q - n0)), mce n0 ex dA h[q - n0]) := by
      rw [List.getElem?_append_left (by rw [mws_len]; exact h4), mws_get, List.getElem?_eq_getElem h4]
      rfl
    have h6 := hD.1 _ _ _ _ h5 hl (by show n0 + (0 + (q - n0)) = q; omega)
    omega
theorem ms_newa (F : mFix M p s m meth c) (X : mCx D n0 ex dA S s) (hP : va_P D mcl (mws n0 ex dA h 0) H) (hS : va_S (mA n0) s.heap H locs) {at_ : ArrayType} {ty : FieldType} {n : Int32} {N : Nat} (hd : decode (mCode M) pc = .ok (.newarray at_, 2)) (hat : newarray.typeOf at_ = ty) (hty : mprim ty = true) (hn : ¬ n < 0) (hN : n.toNatClampNeg = N) (hNb : N ≤ 10000) (hsz : s.heap.size + cells = n0 + h.length) (hc : cells + 1 ≤ R.cells) (hs : slots + N ≤ R.slots)
    (kk : ∀ H1 : Heap, va_P D mcl (mws n0 ex dA (h ++ [.inl (ty, mzero ty N)]) 0) H1 → va_S (mA n0) s.heap H1 locs → W p l e R s m args below meth c H1 locs (cells + 1) (slots + N) Q (F0 m (pc + 2) la (.ref (sg n0 ex (h.length + 16)) :: st))) : W p l e R s m args below meth c H locs cells slots Q (F0 m pc la (.int n :: st)) := by
  have harr : (Cond.arrayClass ty).before args s = true := by
    cases ty with
    | int => exact mTb_use X.2.2.2.2.1 marr1
    | long => exact mTb_use X.2.2.2.2.1 marr2
    | boolean => exact mTb_use X.2.2.2.2.1 marr3
    | _ => cases hty
  subst hat
  refine va_newa (D := D) (cl := mcl) (A := mA n0) (a0 := mzero (newarray.typeOf at_) N) F.1 F.2.1 harr rfl X.1 hP (mws_D h) hS (fun q hq => Nat.le_trans X.2.2.2.1 hq) ?_ hn hN ?_ hc hs hd ?_
  · intro cA
    cases at_ <;> first | rfl | cases hty
  · have : componentBytes (newarray.typeOf at_) ≤ 8 := by cases at_ <;> decide
    calc N * componentBytes (newarray.typeOf at_) ≤ 10000 * 8 := Nat.mul_le_mul hNb this
      _ ≤ 536870912 := by decide
  · intro q cA H1 hK1 hP1 hD1 hS1
    refine W.sz (fun hz => ?_)
    have hq : q = n0 + h.length := m_q hP1 hD1 (by omega)
    have hcA : cA = dA (newarray.typeOf at_) := by
      have g1 := (hK1.2 3 (cA, newarray.typeOf at_) rfl).2
      cases at_ with
      | int => exact Option.some.inj (g1.symm.trans (X.1.2 0 _ rfl).2)
      | long => exact Option.some.inj (g1.symm.trans (X.1.2 1 _ rfl).2)
      | boolean => exact Option.some.inj (g1.symm.trans (X.1.2 2 _ rfl).2)
      | _ => cases hty
    subst hq
    subst hcA
    have e1 : sg n0 ex (h.length + 16) = n0 + h.length := by unfold sg; rw [if_neg (by omega), Nat.add_sub_cancel]
    rw [e1] at kk
    refine kk H1 ?_ hS1
    rw [mws_app]
    simpa [mce] using hP1
theorem ms_new (F : mFix M p s m meth c) (X : mCx D n0 ex dA S s) (hP : va_P D mcl (mws n0 ex dA h 0) H) (hS : va_S (mA n0) s.heap H locs) {idx ci w1 w2 w3 : Nat} (hd : decode (mCode M) pc = .ok (.new idx, 3)) (hf : (mOwn M, idx, ci, w1, w2, w3) ∈ mNewT) (hsz : s.heap.size + cells = n0 + h.length) (hc : cells + 1 ≤ R.cells) (hs : slots + mslot (.inr (ci, mdef ci)) ≤ R.slots)
    (kk : ∀ H1 : Heap, va_P D mcl (mws n0 ex dA (h ++ [.inr (ci, mdef ci)]) 0) H1 → va_S (mA n0) s.heap H1 locs → W p l e R s m args below meth c H1 locs (cells + 1) (slots + mslot (.inr (ci, mdef ci))) Q (F0 m (pc + 3) la (.ref (sg n0 ex (h.length + 16)) :: st))) : W p l e R s m args below meth c H locs cells slots Q (F0 m pc la st) := by
  obtain ⟨C, T, N, hcl, hlt, h1, h2, h3⟩ := mNew_spec hf
  have hms : mslot (.inr (ci, mdef ci)) = N := by
    simp only [mslot, hlt, if_true, hcl]
    rfl
  rw [hms] at hs kk
  refine va_new (D := D) (cl := mcl) (A := mA n0) (fs := (mdef ci).map (cv n0 ex)) (C := C) (T := T) (N := N) F.1 F.2.1 (fun w hw => mTb_use X.2.2.2.2.1 hw) (m_lay hcl) (mty ci) (m_ty hcl) F.2.2.2.2.2.2.1 (mTb_use X.2.2.2.2.1 h1) (mTb_use X.2.2.2.2.1 h2) (mTb_use X.2.2.2.2.1 h3) X.1 hP (mws_D h) hS (fun q hq => Nat.le_trans X.2.2.2.1 hq) hcl ?_ hc hs hd ?_
  · intro j hj
    have hz : ∀ ty : FieldType, cv n0 ex (defaultValue ty) = defaultValue ty := fun ty => by cases ty <;> rfl
    simp [vp_V, mdef, hcl, hj, hz]
  · intro q H1 hP1 hD1 hS1
    refine W.sz (fun hz => ?_)
    have hq : q = n0 + h.length := m_q hP1 hD1 (by omega)
    subst hq
    have e1 : sg n0 ex (h.length + 16) = n0 + h.length := by unfold sg; rw [if_neg (by omega), Nat.add_sub_cancel]
    rw [e1] at kk
    refine kk H1 ?_ hS1
    rw [mws_app]
    simpa [mce] using hP1
theorem mObj_spec {o idx w : Nat} (h : (o, idx, w) ∈ mObjT) : Cond.methodLink (mNmOf o) idx objectInit ∈ mTbl := mIs.mem (List.all_eq_true.mp mObjT_ok _ h)
theorem ms_obj (F : mFix M p s m meth c) (X : mCx D n0 ex dA S s) (hl : la.size = mMaxL M) {idx w a : Nat} (hd : decode (mCode M) pc = .ok (.invokespecial idx, 3)) (hf : (mOwn M, idx, w) ∈ mObjT) (h1 : 1 ≤ R.frames) (h2 : mcats st + 12 ≤ R.locals)
    (kk : W p l e R s m args below meth c H locs cells slots Q (F0 m (pc + 3) la (st.map (cv n0 ex)))) : W p l e R s m args below meth c H locs cells slots Q (F0 m pc la (.ref a :: st.map (cv n0 ex))) := by
  refine W.objInit F.1 F.2.1 F.2.2.2.2.2.2.1 (mTb_use X.2.2.2.2.1 (mObj_spec hf)) (mTb_use X.2.2.2.2.1 mobj1) (mTb_use X.2.2.2.2.1 mobj2) rfl (hl.trans F.2.2.2.1.symm) rfl hd h1 ?_ kk
  show 2 * 0 + _ + 12 ≤ R.locals
  have : ((st.map (cv n0 ex)).map fun v => v.category).sum = mcats st := by simp [mcats, Function.comp_def, cv_cat]
  rw [this]
  omega
theorem mCi_spec {o idx w : Nat} {v : Int32} (h : (o, idx, v, w) ∈ mCiT) : Cond.constant (mNmOf o) idx v ∈ mTbl := mIs.mem (List.all_eq_true.mp mCiT_ok _ h)
theorem mCl_spec {o idx w : Nat} {v : Int64} (h : (o, idx, v, w) ∈ mClT) : Cond.constantLong (mNmOf o) idx v ∈ mTbl := mIs.mem (List.all_eq_true.mp mClT_ok _ h)
end Heap
