/-! THROWS, 2: runs that have written nothing, and the 'throw new' at their end -/
def mThrT : List (Nat × Nat × Nat × Nat × Nat) := [(58, 60, 62, 11, 2), (142, 144, 146, 10, 6), (142, 168, 146, 10, 1), (142, 170, 146, 10, 3), (142, 172, 146, 10, 4), (174, 176, 178, 12, 5)]
theorem mcl_10 : mcl[10]? = some ("java/lang/IllegalArgumentException", mT10, 0) := rfl
theorem mcl_11 : mcl[11]? = some ("java/lang/IllegalStateException", mT10, 0) := rfl
theorem mcl_12 : mcl[12]? = some ("java/lang/IndexOutOfBoundsException", mT10, 0) := rfl
theorem mxc_l10 : Cond.classLink "MeshWalk" 142 "java/lang/IllegalArgumentException" ∈ mTbl := mIs.mem (i := 371) (by decide +kernel)
theorem mxc_l11 : Cond.classLink "MeshWalk" 58 "java/lang/IllegalStateException" ∈ mTbl := mIs.mem (i := 439) (by decide +kernel)
theorem mxc_l12 : Cond.classLink "MeshWalk" 174 "java/lang/IndexOutOfBoundsException" ∈ mTbl := mIs.mem (i := 719) (by decide +kernel)
theorem mxc_i10 : Cond.instantiable "java/lang/IllegalArgumentException" 6 ∈ mTbl := mIs.mem (i := 372) (by decide +kernel)
theorem mxc_i11 : Cond.instantiable "java/lang/IllegalStateException" 6 ∈ mTbl := mIs.mem (i := 440) (by decide +kernel)
theorem mxc_i12 : Cond.instantiable "java/lang/IndexOutOfBoundsException" 6 ∈ mTbl := mIs.mem (i := 720) (by decide +kernel)
theorem mxc_n10 : Cond.initialized "java/lang/IllegalArgumentException" ∈ mTbl := mIs.mem (i := 72) (by decide +kernel)
theorem mxc_n11 : Cond.initialized "java/lang/IllegalStateException" ∈ mTbl := mIs.mem (i := 73) (by decide +kernel)
theorem mxc_n12 : Cond.initialized "java/lang/IndexOutOfBoundsException" ∈ mTbl := mIs.mem (i := 75) (by decide +kernel)
theorem mThr_spec {idx is ic ci q : Nat} (h : (idx, is, ic, ci, q) ∈ mThrT) : ∃ C tx, mcl[ci]? = some (C, mT10, 0) ∧ 10 ≤ ci ∧ Cond.classLink "MeshWalk" idx C ∈ mTbl ∧ Cond.instantiable C 6 ∈ mTbl ∧ Cond.initialized C ∈ mTbl ∧ (∀ w ∈ Bundle.ownAtoms "MeshWalk" ic C mNames, w ∈ mTbl ∨ w ∈ mSt4) ∧ Bundle.fit C = true ∧ (is, tx, q) ∈ mStrT := by
  simp only [mThrT, List.mem_cons, List.not_mem_nil, or_false] at h
  rcases h with h | h | h | h | h | h
  · cases h; exact ⟨_, "there are 40 points", mcl_11, by decide, mxc_l11, mxc_i11, mxc_n11, mox11, mfit11, by decide⟩
  · cases h; exact ⟨_, "no circle goes through points on one line", mcl_10, by decide, mxc_l10, mxc_i10, mxc_n10, mox10, mfit10, by decide⟩
  · cases h; exact ⟨_, "a coordinate is out of bounds", mcl_10, by decide, mxc_l10, mxc_i10, mxc_n10, mox10, mfit10, by decide⟩
  · cases h; exact ⟨_, "there is no such point", mcl_10, by decide, mxc_l10, mxc_i10, mxc_n10, mox10, mfit10, by decide⟩
  · cases h; exact ⟨_, "the points are the same", mcl_10, by decide, mxc_l10, mxc_i10, mxc_n10, mox10, mfit10, by decide⟩
  · cases h; exact ⟨_, "there is no such triangle, corner or edge", mcl_12, by decide, mxc_l12, mxc_i12, mxc_n12, mox12, mfit12, by decide⟩
def mc_thr (P : Nat → mF → mR → Prop) : Prop := ∀ (M pc : Nat) (ls : mL) (st : List Value) (h : mHp) (idx is ic ci q : Nat), decode (mCode M) pc = .ok (.new idx, 3) → decode (mCode M) (pc + 3) = .ok (.dup, 1) → decode (mCode M) (pc + 4) = .ok (.ldc is, 2) → decode (mCode M) (pc + 6) = .ok (.invokespecial ic, 3) → decode (mCode M) (pc + 9) = .ok (.athrow, 1) → mOwn M = 8 → (idx, is, ic, ci, q) ∈ mThrT → mHand M = [] → 6 ≤ mFr M → mcats st + 82 ≤ mLo M → P M (pc, ls, st, h) (.inr (h.length + 16), h ++ [.inr (ci, [])])
def mc_pv (P : Nat → mF → mR → Prop) : Prop := ∀ (M pc : Nat) (ls : mL) (st st0 : List Value) (h : mHp) (r : mR) (idx N kind w1 w2 w3 w4 w5 a ci : Nat) (fs As : List Value) (v : Option Value), decode (mCode M) pc = .ok ((if kind % 3 = 2 then .invokespecial idx else .invokevirtual idx), 3) → (mOwn M, idx, N, kind, w1, w2, w3, w4, w5) ∈ mLnkT → (kind % 3 = 2 ∨ kind % 3 = 0) → mroom M N st → st0 = As.reverse ++ .ref a :: st → As.length = mAr N → mcats (.ref a :: As) ≤ mMaxL N → mget h a = some (.inr (ci, fs)) → mOwn N = ci →
  P N (0, lv_args 0 (.ref a :: As), [], h) (.inl v, h) → P M (pc + 3, ls, v.toList ++ st, h) r → P M (pc, ls, st0, h) r
def mc_ps (P : Nat → mF → mR → Prop) : Prop := ∀ (M pc : Nat) (ls : mL) (st st0 : List Value) (h : mHp) (r : mR) (idx N kind w1 w2 w3 w4 w5 : Nat) (As : List Value) (v : Option Value), decode (mCode M) pc = .ok (.invokestatic idx, 3) → (mOwn M, idx, N, kind, w1, w2, w3, w4, w5) ∈ mLnkT → kind % 3 = 1 → mroom M N st → st0 = As.reverse ++ st → As.length = mAr N → mcats As ≤ mMaxL N →
  P N (0, lv_args 0 As, [], h) (.inl v, h) → P M (pc + 3, ls, v.toList ++ st, h) r → P M (pc, ls, st0, h) r
def mClosedP (P : Nat → mF → mR → Prop) : Prop := mc_pure P ∧ mc_br P ∧ mc_nb P ∧ mc_ci P ∧ mc_cl P ∧ mc_get P ∧ mc_ild P ∧ mc_zld P ∧ mc_lld P ∧ mc_len P ∧ mc_iret P ∧ mc_lret P ∧ mc_vret P ∧ mc_pv P ∧ mc_ps P ∧ mc_thr P
def RunsP (M : Nat) (f : mF) (r : mR) : Prop := ∀ P : Nat → mF → mR → Prop, mClosedP P → P M f r
def mQP (D : va_G) (n0 : Nat) (ex : Nat → Nat) (dA : FieldType → ClassId) (s : State) (below : List Frame) (mc ms : Nat) (r : mR) : State → Prop := fun t =>
  t.status = .running ∧ Ended t below (mOut n0 ex r.1) ∧ s.WarmedH t.vm ∧ s.sameButNew ({ t with vm := s.vm } : State) [] mc ms ∧ va_P D mcl (mws n0 ex dA r.2 0) t.heap
def mGoP (l : Launch) (D : va_G) (n0 : Nat) (ex : Nat → Nat) (dA : FieldType → ClassId) (S : mE) (M : Nat) (f : mF) (r : mR) : Prop :=
  ∀ (p : Program) (e : Env) (R : Room) (s : State) (m : MethodId) (args : Array Value) (below : List Frame) (meth : Method) (c : Code) (la : Array Slot) (mc ms : Nat),
    mFix M p s m meth c → mCx D n0 ex dA S s → va_P D mcl (mws n0 ex dA f.2.2.2 0) s.heap → lv_has la (mMaxL M) (f.2.1.map (cvp n0 ex)) → mFr M ≤ R.frames → mLo M ≤ R.locals → mc ≤ R.cells → ms ≤ R.slots → s.heap.size = n0 + f.2.2.2.length → s.heap.size + mc = n0 + r.2.length → msl f.2.2.2 + ms = msl r.2 →
    W p l e R s m args below meth c s.heap [] 0 0 (mQP D n0 ex dA s below mc ms r) (F0 m f.1 la (f.2.2.1.map (cv n0 ex)))
def mSemP (l : Launch) (D : va_G) (n0 : Nat) (ex : Nat → Nat) (dA : FieldType → ClassId) (S : mE) (M : Nat) (f : mF) (r : mR) : Prop := f.2.2.2.length ≤ r.2.length ∧ msl f.2.2.2 ≤ msl r.2 ∧ mGoP l D n0 ex dA S M f r
theorem same_heap {s t : State} {n : Nat} (h : s.sameButNew t [] 0 n) : t.heap = s.heap := by
  apply Array.ext_getElem?
  intro i
  cases hc : s.heap[i]? with
  | some c => exact h.old_cell hc
  | none =>
    have h1 : s.heap.size ≤ i := by simpa using hc
    have h2 : t.heap.size ≤ i := Nat.le_trans h.2.2.1 h1
    simpa using h2
section PSound
variable {l : Launch} {D : va_G} {n0 : Nat} {ex : Nat → Nat} {dA : FieldType → ClassId} {S : mE}
theorem mSemP_step {M pc pc' : Nat} {ls ls' : mL} {st st' : List Value} {h : mHp} {r : mR} (k : mSemP l D n0 ex dA S M (pc', ls', st', h) r)
    (hs : ∀ (p : Program) (e : Env) (R : Room) (s : State) (m : MethodId) (args : Array Value) (below : List Frame) (meth : Method) (c : Code) (la : Array Slot) (Q : State → Prop), mFix M p s m meth c → mCx D n0 ex dA S s → va_P D mcl (mws n0 ex dA h 0) s.heap → lv_has la (mMaxL M) (ls.map (cvp n0 ex)) → mFr M ≤ R.frames → mLo M ≤ R.locals → s.heap.size = n0 + h.length →
      (∀ la' : Array Slot, lv_has la' (mMaxL M) (ls'.map (cvp n0 ex)) → W p l e R s m args below meth c s.heap [] 0 0 Q (F0 m pc' la' (st'.map (cv n0 ex)))) → W p l e R s m args below meth c s.heap [] 0 0 Q (F0 m pc la (st.map (cv n0 ex)))) : mSemP l D n0 ex dA S M (pc, ls, st, h) r := by
  refine ⟨k.1, k.2.1, fun p e R s m args below meth c la mc ms F X hP hl hRf hRl hRc hRs h1 h2 h3 => ?_⟩
  exact hs p e R s m args below meth c la _ F X hP hl hRf hRl h1 (fun la' hl' => k.2.2 p e R s m args below meth c la' mc ms F X hP hl' hRf hRl hRc hRs h1 h2 h3)
theorem mSemP_ret {M pc : Nat} {ls : mL} {st : List Value} {h : mHp} {v : Option Value}
    (hs : ∀ (p : Program) (e : Env) (R : Room) (s : State) (m : MethodId) (args : Array Value) (below : List Frame) (meth : Method) (c : Code) (la : Array Slot), mFix M p s m meth c → W p l e R s m args below meth c s.heap [] 0 0 (MQ below (fun _ st o t => o = .returned (v.map (cv n0 ex)) ∧ t.heap = st.heap) args s 0 0 (fun _ => False)) (F0 m pc la (st.map (cv n0 ex)))) : mSemP l D n0 ex dA S M (pc, ls, st, h) (.inl v, h) := by
  refine ⟨Nat.le_refl _, Nat.le_refl _, fun p e R s m args below meth c la mc ms F X hP hl hRf hRl hRc hRs g1 g2 g3 => ?_⟩
  have g1' : s.heap.size = n0 + h.length := g1
  have g2' : s.heap.size + mc = n0 + h.length := g2
  have g3' : msl h + ms = msl h := g3
  have e1 : mc = 0 := by omega
  have e2 : ms = 0 := by omega
  subst e1; subst e2
  refine W.mono (fun t ht => ?_) (hs p e R s m args below meth c la F)
  obtain ⟨o, a1, a2, ⟨rfl, a4⟩, L, ⟨-, a6, a7⟩, a8⟩ := ht
  have hL : L = [] := by
    cases L with
    | nil => rfl
    | cons x t => exact absurd (a8 x List.mem_cons_self) (fun z => z)
  subst hL
  exact ⟨a1, a2, a6, a7, by rw [a4]; exact hP⟩
/-- a return that wrote nothing, as a contract -/
theorem m_metP {N : Nat} {vs : List Value} {h : mHp} {v : Option Value} (hk : mSemP l D n0 ex dA S N (0, lv_args 0 vs, [], h) (.inl v, h)) (hpl : plainFor (mName N) = true) (hnm : mNmOf (mOwn N) = (mName N).cls) (hhd : mHand N = []) (hw : mcats vs ≤ mMaxL N) :
    Met l (mName N) [Cond.code (mName N) (mCode N) (mMaxL N) (mRet N)] ({ frames := mFr N, cells := 0, slots := 0, locals := mLo N }) (mPc D n0 ex dA S h vs) (fun _ st o t => o = .returned (v.map (cv n0 ex)) ∧ t.heap = st.heap) 0 0 (fun _ => False) := by
  refine MetFree.of_bodySF (code := mCode N) (maxLocals := mMaxL N) (ret := mRet N) hpl ?_ ?_
  · intro args s m hh hn
    obtain ⟨meth, c, h1, h2, h3, h4, h5, h6, -, -⟩ := Cond.code_spec hn (atoms_spec (ws := [Cond.code (mName N) (mCode N) (mMaxL N) (mRet N)]) hh _ List.mem_cons_self)
    exact ⟨meth, c, h1, h2, h3, h4, h5, h6⟩
  · intro p e s m args below meth c s₁ B hml hP _
    obtain ⟨rfl, hX, hPw, hsz⟩ := hP
    have hcode := atoms_spec (ws := [Cond.code (mName N) (mCode N) (mMaxL N) (mRet N)]) B.pre _ List.mem_cons_self
    have hh0 : s₁.heap = s.heap := by rw [B.state]; rfl
    have hex : c.exceptionTable.toList.map (fun h => (h.startPc, h.endPc, h.handlerPc, h.catchType)) = mHand N := by
      have h0 : c.exceptionTable.size = 0 := by simpa [Array.isEmpty] using BodyLoose.noHandlers B hcode
      have h1 : c.exceptionTable.toList = [] := List.eq_nil_of_length_eq_zero (by simpa using h0)
      rw [h1, hhd]; rfl
    have F : mFix N p s m meth c := ⟨B.exec, B.bytes, B.returns, hml, B.notSynchronized, (name_of_methodNamed B.named B.method).1, by rw [hnm]; exact findClass_of_methodNamed B.named, hex⟩
    have hl := lv_entry (vs.map (cv n0 ex)) (n := mMaxL N) (by rw [mcats_sl, mcats_map]; exact hw)
    have K : W p l e ({ frames := mFr N, cells := 0, slots := 0, locals := mLo N } : Room) s m (vs.map (cv n0 ex)).toArray below meth c s.heap [] 0 0 (mQP D n0 ex dA s below 0 0 (.inl v, h)) (entryFrame m (vs.map (cv n0 ex)).toArray (mMaxL N)) := by
      rw [lg_entry_eq]
      exact hk.2.2 p e _ s m _ below meth c _ 0 0 F hX hPw (by rw [← lv_args_map]; exact hl) (Nat.le_refl _) (Nat.le_refl _) (Nat.le_refl _) (Nat.le_refl _) hsz hsz rfl
    obtain ⟨t, a1, b1, b2, b3, b4, b5⟩ := K s₁ hh0 (Stand.of_body B)
    exact ⟨t, _, a1, b1, b2, ⟨rfl, same_heap (t := ({ t with vm := s.vm } : State)) b4⟩, [], ⟨⟨_, rfl⟩, b3, b4⟩, fun q hq => by cases hq⟩
theorem m_backP {p : Program} {e : Env} {R : Room} {s : State} {m : MethodId} {args : Array Value} {below : List Frame} {meth : Method} {c : Code} {H : Heap} {pc : Nat} {la : Array Slot} {st0 rest : List Value} {v : Option Value} {a : Array Value} {Q : State → Prop} (hr : va_Run p l e R s m args below meth c H [] 0 0 0 0 (F0 m pc la st0) rest ((fun _ st o t => o = .returned (v.map (cv n0 ex)) ∧ t.heap = st.heap : Array Value → State → Outcome → State → Prop) a) (fun _ => False))
    (kk : W p l e R s m args below meth c H [] 0 0 Q (F0 m (pc + 3) la ((v.map (cv n0 ex)).toList ++ rest))) : W p l e R s m args below meth c H [] 0 0 Q (F0 m pc la st0) := by
  intro T hT X
  obtain ⟨v1, st₀, t, T', L, h0, X', hL, e1, e2, ⟨hv, hp⟩, stp⟩ := hr T hT X
  cases hv
  have hLn : L = [] := by
    cases L with
    | nil => rfl
    | cons x t => exact absurd (hL x List.mem_cons_self) (fun z => z)
  subst hLn
  obtain ⟨t2, a1, b1⟩ := kk T' (by rw [e1, hp]; exact h0) X'
  exact ⟨t2, stp t2 a1, b1⟩
set_option maxHeartbeats 4000000 in
theorem ms_thr (hfl : l.flags = pinnedFlags ++ [noTraceFlag]) {M pc : Nat} {ls : mL} {st : List Value} {h : mHp} {idx is ic ci q : Nat} (d0 : decode (mCode M) pc = .ok (.new idx, 3)) (d3 : decode (mCode M) (pc + 3) = .ok (.dup, 1)) (d4 : decode (mCode M) (pc + 4) = .ok (.ldc is, 2)) (d6 : decode (mCode M) (pc + 6) = .ok (.invokespecial ic, 3)) (d9 : decode (mCode M) (pc + 9) = .ok (.athrow, 1)) (hown : mOwn M = 8) (hf : (idx, is, ic, ci, q) ∈ mThrT) (hhd : mHand M = []) (hfr : 6 ≤ mFr M) (hlo : mcats st + 82 ≤ mLo M) :
    mSemP l D n0 ex dA S M (pc, ls, st, h) (.inr (h.length + 16), h ++ [.inr (ci, [])]) := by
  obtain ⟨C, tx, hcl, hci, w1, w2, w3, hat, hfit, hstr⟩ := mThr_spec hf
  have hms : mslot (.inr (ci, [])) = 6 := by simp only [mslot]; rw [if_neg (by omega)]
  refine ⟨by simp, by show msl h ≤ msl (h ++ [_]); rw [msl_app]; omega, fun p e R s m args below meth c la mc ms F X hP hl hRf hRl hRc hRs g1 g2 g3 => ?_⟩
  have g1' : s.heap.size = n0 + h.length := g1
  have g2' : s.heap.size + mc = n0 + (h ++ [(.inr (ci, []) : mC)]).length := g2
  have g3' : msl h + ms = msl (h ++ [.inr (ci, [])]) := g3
  rw [List.length_append, List.length_singleton] at g2'
  rw [msl_app, hms] at g3'
  have e1 : mc = 1 := by omega
  have e2 : ms = 6 := by omega
  subst e1; subst e2
  have hownS : s.vm.findClass "MeshWalk" = some m.cls := by
    have := F.2.2.2.2.2.2.1
    rw [hown] at this
    exact this
  have hK := X.1.1 ci _ hcl
  refine W.newcK F.1 F.2.1 hownS (mTb_use X.2.2.2.2.1 w1) (mTb_use X.2.2.2.2.1 w2) (mTb_use X.2.2.2.2.1 w3) rfl d0 (by omega) (by omega) hK.2.1 g1' (fun H' kC hkC q1 q2 q3 => ?_)
  refine W.eq (g2 := F0 m (pc + 3) la (.ref (n0 + h.length) :: st.map (cv n0 ex))) rfl ?_
  refine lv_dup F.1 F.2.1 d3 rfl ?_
  refine W.eq (g2 := F0 m (pc + 4) la (.ref (n0 + h.length) :: .ref (n0 + h.length) :: st.map (cv n0 ex))) rfl ?_
  refine va_ldcS F.1 F.2.1 hownS (X.2.2.2.2.2.2.1 _ hstr) d4 ?_
  intro T hT Xs
  have htr : e.platform.stackTraces = false := Launch.traces_off hfl Xs.admits
  have hatoms : ∀ a ∈ Bundle.ownAtoms "MeshWalk" ic C mNames, a.before args s = true := fun w hw => by
    rcases hat w hw with h | h
    · exact mTb_use X.2.2.2.2.1 h
    · exact m_st X.2.2.2.2.2.1 w h args
  have hexc : c.exceptionTable.toList = [] := by
    have := F.2.2.2.2.2.2.2
    rw [hhd] at this
    exact List.map_eq_nil_iff.mp this
  have hcat : ((st.map (cv n0 ex)).map fun v => v.category).sum = mcats st := mcats_map n0 ex st
  obtain ⟨U, st1, r1, r2, r3, r4, ce, hce, hoc⟩ := Xs.ctorThrowS F.1 htr hownS hfit mfitN hatoms (fun x hx => by cases hx) hK.2.1 hkC (a := n0 + h.length) (by rw [hT]; exact q1) (by omega) (msg := .ref (ex q)) rfl (g := F0 m (pc + 6) la (.ref (ex q) :: .ref (n0 + h.length) :: .ref (n0 + h.length) :: st.map (cv n0 ex))) rfl (hl.1.trans F.2.2.2.1.symm) rfl rfl (rest := st.map (cv n0 ex)) rfl (by rw [F.2.1]; exact d6) (by rw [F.2.1]; exact d9) (fun x hx => by rw [hexc] at hx; cases hx) (by show 2 + 3 < R.frames; omega) (by
      show 2 * 0 + (1 + ((st.map (cv n0 ex)).map fun v => v.category).sum) + (13 * (2 + 1) + 42) ≤ R.locals
      rw [hcat]; omega) F.2.2.2.2.1
  have e3 : sg n0 ex (h.length + 16) = n0 + h.length := by unfold sg; rw [if_neg (by omega), Nat.add_sub_cancel]
  refine ⟨U, st1, r1, by show Ended U below (.threw (sg n0 ex (h.length + 16))); rw [e3]; exact r2, r3, r4, ?_⟩
  show va_P D mcl (mws n0 ex dA (h ++ [.inr (ci, [])]) 0) U.heap
  rw [mws_app]
  refine va_P.app (hP.kept (fun k x hx => ?_)) (fun k x hx => ?_)
  · have hlt := (hP k x hx).lt
    have hs : s.heap[x.1]? = some s.heap[x.1] := Array.getElem?_eq_getElem hlt
    have := r4.old_cell hs
    rw [hs]
    exact this
  · have hz : k < 1 := (List.getElem?_eq_some_iff.mp hx).1
    rw [show k = 0 by omega] at hx
    cases hx
    refine ⟨_, hcl, ce, ?_, ?_, hoc.vm, fun j hj => absurd hj (Nat.not_lt_zero _)⟩
    · rw [Nat.zero_add]; exact hce
    · exact (Option.some.inj (hK.2.1.symm.trans hoc.cls)).symm
set_option maxHeartbeats 4000000 in
theorem mSemP_closed (hfl : l.flags = pinnedFlags ++ [noTraceFlag]) : mClosedP (mSemP l D n0 ex dA S) := by
  refine ⟨?_, ?_, ?_, ?_, ?_, ?_, ?_, ?_, ?_, ?_, ?_, ?_, ?_, ?_, ?_, ?_⟩
  · intro M pc ls st h r i len ls' st' hd hn hp k
    exact mSemP_step k (fun p e R s m args below meth c la Q F X hP hl _ _ _ kk => ms_pure F.1 F.2.1 hd hn hp hl kk)
  · intro M pc ls st h r i off st' tgt hd hp ht k
    exact mSemP_step k (fun p e R s m args below meth c la Q F X hP hl _ _ _ kk => ms_br F.1 F.2.1 hd hp ht (kk la hl))
  · intro M pc ls st h r i st' hd hnn hp k
    refine mSemP_step k (fun p e R s m args below meth c la Q F X hP hl _ _ _ kk => ms_nb (tg := fun off => ((pc : Int) + off).toNat) F.1 F.2.1 hd ?_ hp (kk la hl))
    intro off ho
    rcases ho with ⟨o, rfl⟩ | ⟨o, rfl⟩
    · have : 0 ≤ (pc : Int) + off := of_decide_eq_true hnn
      exact (Int.toNat_of_nonneg this).symm
    · have : 0 ≤ (pc : Int) + off := of_decide_eq_true hnn
      exact (Int.toNat_of_nonneg this).symm
  · intro M pc ls st h r idx v w hd hf k
    exact mSemP_step k (fun p e R s m args below meth c la Q F X hP hl _ _ _ kk => lv_ldc F.1 F.2.1 F.2.2.2.2.2.2.1 (mTb_use X.2.2.2.2.1 (mCi_spec hf)) hd (kk la hl))
  · intro M pc ls st h r idx v w hd hf k
    exact mSemP_step k (fun p e R s m args below meth c la Q F X hP hl _ _ _ kk => lv_ldc2 F.1 F.2.1 F.2.2.2.2.2.2.1 (mTb_use X.2.2.2.2.1 (mCl_spec hf)) hd (kk la hl))
  · intro M pc ls st h r idx ci k w a fs v hd hf hg hv kq
    exact mSemP_step kq (fun p e R s m args below meth c la Q F X hP hl _ _ _ kk => ms_get F X hP hd hf hg hv (kk la hl))
  · intro M pc ls st h r a n f i hd hg hin k
    exact mSemP_step k (fun p e R s m args below meth c la Q F X hP hl _ _ _ kk => ms_ild F X hP hd hg hin (kk la hl))
  · intro M pc ls st h r a n f i hd hg hin k
    exact mSemP_step k (fun p e R s m args below meth c la Q F X hP hl _ _ _ kk => ms_zld F X hP hd hg hin (kk la hl))
  · intro M pc ls st h r a n f i hd hg hin k
    exact mSemP_step k (fun p e R s m args below meth c la Q F X hP hl _ _ _ kk => ms_lld F X hP hd hg hin (kk la hl))
  · intro M pc ls st h r a ty x hd hg hty k
    exact mSemP_step k (fun p e R s m args below meth c la Q F X hP hl _ _ _ kk => ms_len F X hP hd hg hty (kk la hl))
  · intro M pc ls h v ty hd hr hn
    exact mSemP_ret (fun p e R s m args below meth c la F => W.zret F.1 F.2.1 (F.2.2.1.trans hr) hn (fun t ht _ => ⟨rfl, ht⟩) (fun q hq => by cases hq) hd F.2.2.2.2.1)
  · intro M pc ls h v hd hr
    exact mSemP_ret (fun p e R s m args below meth c la F => W.lret F.1 F.2.1 (F.2.2.1.trans hr) (fun t ht _ => ⟨rfl, ht⟩) (fun q hq => by cases hq) hd F.2.2.2.2.1)
  · intro M pc ls h hd hr
    exact mSemP_ret (fun p e R s m args below meth c la F => W.vret F.1 F.2.1 (F.2.2.1.trans hr) (fun t ht _ => ⟨rfl, ht⟩) (fun q hq => by cases hq) hd F.2.2.2.2.1)
  · intro M pc ls st st0 h r idx N kind w1 w2 w3 w4 w5 a ci fs As v hd hf hkd hrm hst har hcw hg hci k0 k
    obtain ⟨g1, g2, g3, g4, g5, g6, g7, g8, g9⟩ := mLnk_spec hf
    refine mSemP_step k (fun p e R s m args below meth c la Q F X hP hl hRf hRl hsz kk => ?_)
    refine m_backP (v := v) (a := #[]) (ms_rv (mc := 0) (ms := 0) F X hP va_S.rf hl.1 hRf hRl hd hf hkd hrm hst har hcw hg hci (m_metP k0 g8 g7 hrm.2.2.2.1 hcw) hsz (Nat.zero_le _) (Nat.zero_le _)) ?_
    have := kk la hl
    cases v <;> simpa using this
  · intro M pc ls st st0 h r idx N kind w1 w2 w3 w4 w5 As v hd hf hkd hrm hst har hcw k0 k
    obtain ⟨g1, g2, g3, g4, g5, g6, g7, g8, g9⟩ := mLnk_spec hf
    refine mSemP_step k (fun p e R s m args below meth c la Q F X hP hl hRf hRl hsz kk => ?_)
    refine m_backP (v := v) (a := #[]) (ms_rs (mc := 0) (ms := 0) F X hP va_S.rf hl.1 hRf hRl hd hf hkd hrm hst har hcw (m_metP k0 g8 g7 hrm.2.2.2.1 hcw) hsz (Nat.zero_le _) (Nat.zero_le _)) ?_
    have := kk la hl
    cases v <;> simpa using this
  · intro M pc ls st h idx is ic ci q d0 d3 d4 d6 d9 ho hf hhd hfr hlo
    exact ms_thr hfl d0 d3 d4 d6 d9 ho hf hhd hfr hlo
theorem RunsP.sem (hfl : l.flags = pinnedFlags ++ [noTraceFlag]) {M : Nat} {f : mF} {r : mR} (h : RunsP M f r) : mSemP l D n0 ex dA S M f r := h _ (mSemP_closed hfl)
end PSound
