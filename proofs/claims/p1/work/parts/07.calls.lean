/-! THE SMALL MACHINE IS THE MACHINE: mSem, its closure under the rules, so: what Runs says holds of the machine -/
def mOut (n0 : Nat) (ex : Nat → Nat) (o : Option Value ⊕ Nat) : Outcome := match o with
  | .inl v => .returned (v.map (cv n0 ex))
  | .inr k => .threw (sg n0 ex k)
def mQ (D : va_G) (n0 : Nat) (ex : Nat → Nat) (dA : FieldType → ClassId) (s : State) (below : List Frame) (mc ms : Nat) (r : mR) : State → Prop := fun t =>
  t.status = .running ∧ Ended t below (mOut n0 ex r.1) ∧ s.WarmedH t.vm ∧ (∃ L : List Loc, s.sameButNew ({ t with vm := s.vm } : State) L mc ms ∧ ∀ q ∈ L, n0 ≤ q.base) ∧ va_P D mcl (mws n0 ex dA r.2 0) t.heap ∧ va_F (mA n0) s t
def mGo (l : Launch) (D : va_G) (n0 : Nat) (ex : Nat → Nat) (dA : FieldType → ClassId) (S : mE) (M : Nat) (f : mF) (r : mR) : Prop :=
  ∀ (p : Program) (e : Env) (R : Room) (s : State) (m : MethodId) (args : Array Value) (below : List Frame) (meth : Method) (c : Code) (H : Heap) (locs : List Loc) (la : Array Slot) (cells slots mc ms sl0 : Nat),
    mFix M p s m meth c → mCx D n0 ex dA S s → va_P D mcl (mws n0 ex dA f.2.2.2 0) H → va_S (mA n0) s.heap H locs → lv_has la (mMaxL M) (f.2.1.map (cvp n0 ex)) → mFr M ≤ R.frames → mLo M ≤ R.locals → mc ≤ R.cells → ms ≤ R.slots → s.heap.size + cells = n0 + f.2.2.2.length → s.heap.size + mc = n0 + r.2.length → msl f.2.2.2 = sl0 + slots → msl r.2 = sl0 + ms →
    W p l e R s m args below meth c H locs cells slots (mQ D n0 ex dA s below mc ms r) (F0 m f.1 la (f.2.2.1.map (cv n0 ex)))
def mSem (l : Launch) (D : va_G) (n0 : Nat) (ex : Nat → Nat) (dA : FieldType → ClassId) (S : mE) (M : Nat) (f : mF) (r : mR) : Prop := f.2.2.2.length ≤ r.2.length ∧ msl f.2.2.2 ≤ msl r.2 ∧ mGo l D n0 ex dA S M f r
theorem msl_app (h : mHp) (c : mC) : msl (h ++ [c]) = msl h + mslot c := by simp [msl]
theorem mput_len (h : mHp) (a : Nat) (c : mC) : (mput h a c).length = h.length := by simp [mput]
theorem msl_set (h : mHp) (k : Nat) (c c' : mC) (hk : h[k]? = some c) (hs : mslot c' = mslot c) : msl (h.set k c') = msl h := by
  induction h generalizing k with
  | nil => rfl
  | cons x t ih =>
    cases k with
    | zero =>
      cases hk
      simp [msl, hs]
    | succ k =>
      have := ih k (by simpa using hk)
      simp only [msl, List.set_cons_succ, List.map_cons, List.sum_cons] at this ⊢
      rw [this]
theorem mput_sl {h : mHp} {a : Nat} {c c' : mC} (hg : mget h a = some c) (hs : mslot c' = mslot c) : msl (mput h a c') = msl h := by
  unfold mget at hg
  by_cases ha : a < 16
  · rw [if_pos ha] at hg; cases hg
  · rw [if_neg ha] at hg
    exact msl_set h (a - 16) c c' hg hs
theorem mcats_sl (vs : List Value) : (lg_sl vs).length = mcats vs := by
  induction vs with
  | nil => rfl
  | cons v t ih =>
    simp only [lg_sl, List.flatMap_cons, List.length_append, mcats, List.map_cons, List.sum_cons] at ih ⊢
    rw [ih]
    rcases lv_cat v with h | h <;> simp [h]
theorem mcats_map (n0 : Nat) (ex : Nat → Nat) (vs : List Value) : mcats (vs.map (cv n0 ex)) = mcats vs := by simp [mcats, Function.comp_def, cv_cat]
theorem lv_args_map (n0 : Nat) (ex : Nat → Nat) (vs : List Value) (i : Nat) : lv_args i (vs.map (cv n0 ex)) = (lv_args i vs).map (cvp n0 ex) := by
  induction vs generalizing i with
  | nil => rfl
  | cons v t ih =>
    simp only [List.map_cons, lv_args, cv_cat, ih]
    rfl
theorem mCx_moved {D : va_G} {n0 : Nat} {ex : Nat → Nat} {dA : FieldType → ClassId} {S : mE} {s U : State} {H : Heap} {locs : List Loc} (X : mCx D n0 ex dA S s) (hS : va_S (mA n0) s.heap H locs) (hU : U.heap = H) (hW : s.WarmedH U.vm) : mCx D n0 ex dA S U := by
  obtain ⟨h1, h2, h3, h4, h5, h6⟩ := X
  refine ⟨va_K.moved hW.alike h1, ?_, h3, ?_, fun w hw => mTb_warm hW h5 w hw, mXc_moved hW (fun q hq => by rw [hU]; exact hS.2.1 q (Nat.lt_of_lt_of_le hq h4) (Nat.not_le.mpr hq)) h6⟩
  · refine (va_X.moved hW.alike h2).kept ?_
    rw [hU]
    exact hS.2.1 _ (Nat.lt_of_lt_of_le h3 h4) (Nat.not_le.mpr h3)
  · rw [hU]; exact Nat.le_trans h4 hS.1
def mPc (D : va_G) (n0 : Nat) (ex : Nat → Nat) (dA : FieldType → ClassId) (S : mE) (h : mHp) (vs : List Value) : Array Value → State → Prop :=
  va_Pc (vs.map (cv n0 ex)) (fun U => mCx D n0 ex dA S U ∧ va_P D mcl (mws n0 ex dA h 0) U.heap ∧ U.heap.size = n0 + h.length)
def mQc (D : va_G) (n0 : Nat) (ex : Nat → Nat) (dA : FieldType → ClassId) (v : Option Value) (h' : mHp) : Array Value → State → Outcome → State → Prop := fun _ st o t =>
  o = .returned (v.map (cv n0 ex)) ∧ va_P D mcl (mws n0 ex dA h' 0) t.heap ∧ va_F (mA n0) st t
theorem mPc_blind {D : va_G} {n0 : Nat} {ex : Nat → Nat} {dA : FieldType → ClassId} {S : mE} {h : mHp} {vs : List Value} : FrameBlind (mPc D n0 ex dA S h vs) := by
  intro a U g mk hp
  obtain ⟨q0, qX, qP, qs⟩ := hp
  exact ⟨q0, mCx_moved (U := U.calling g mk a) (H := U.heap) (locs := []) qX va_S.rf rfl (State.WarmedH.refl U), qP, qs⟩
section Met
variable {l : Launch} {D : va_G} {n0 : Nat} {ex : Nat → Nat} {dA : FieldType → ClassId} {S : mE}
/-- a run of the small machine that returns is a contract of the machine -/
theorem m_met {N : Nat} {vs : List Value} {h h' : mHp} {v : Option Value} {mc ms : Nat} (hk : mSem l D n0 ex dA S N (0, lv_args 0 vs, [], h) (.inl v, h')) (hpl : plainFor (mName N) = true) (hnm : mNmOf (mOwn N) = (mName N).cls) (hhd : mHand N = []) (hw : mcats vs ≤ mMaxL N) (hmc : h.length + mc = h'.length) (hms : msl h + ms = msl h') :
    Met l (mName N) [Cond.code (mName N) (mCode N) (mMaxL N) (mRet N)] ({ frames := mFr N, cells := mc, slots := ms, locals := mLo N }) (mPc D n0 ex dA S h vs) (mQc D n0 ex dA v h') mc ms (mA n0) := by
  refine MetFree.of_bodySF (code := mCode N) (maxLocals := mMaxL N) (ret := mRet N) hpl ?_ ?_
  · intro args s m hh hn
    obtain ⟨meth, c, h1, h2, h3, h4, h5, h6, -, -⟩ := Cond.code_spec hn (atoms_spec (ws := [Cond.code (mName N) (mCode N) (mMaxL N) (mRet N)]) hh _ List.mem_cons_self)
    exact ⟨meth, c, h1, h2, h3, h4, h5, h6⟩
  · intro p e s m args below meth c s₁ B hml hP _
    obtain ⟨rfl, hX, hPw, hsz⟩ := hP
    have hcode := atoms_spec (ws := [Cond.code (mName N) (mCode N) (mMaxL N) (mRet N)]) B.pre _ List.mem_cons_self
    have hh0 : s₁.heap = s.heap := by rw [B.state]; rfl
    have hex : c.exceptionTable.toList.map (fun h => (h.startPc, h.endPc, h.handlerPc, h.catchType)) = mHand N := by
      have h0 : c.exceptionTable.size = 0 := by simpa [Array.isEmpty] using BodyLoose.noHandlers B hcode
      have h1 : c.exceptionTable.toList = [] := List.eq_nil_of_length_eq_zero (by simpa using h0)
      rw [h1, hhd]; rfl
    have F : mFix N p s m meth c := ⟨B.exec, B.bytes, B.returns, hml, B.notSynchronized, (name_of_methodNamed B.named B.method).1, by rw [hnm]; exact findClass_of_methodNamed B.named, hex⟩
    have hl := lv_entry (vs.map (cv n0 ex)) (n := mMaxL N) (by rw [mcats_sl, mcats_map]; exact hw)
    have K : W p l e ({ frames := mFr N, cells := mc, slots := ms, locals := mLo N } : Room) s m (vs.map (cv n0 ex)).toArray below meth c s.heap [] 0 0 (mQ D n0 ex dA s below mc ms (.inl v, h')) (entryFrame m (vs.map (cv n0 ex)).toArray (mMaxL N)) := by
      rw [lg_entry_eq]
      exact hk.2.2 p e _ s m _ below meth c s.heap [] _ 0 0 mc ms (msl h) F hX hPw va_S.rf (by rw [← lv_args_map]; exact hl) (Nat.le_refl _) (Nat.le_refl _) (Nat.le_refl _) (Nat.le_refl _) hsz (by rw [hsz, ← hmc]; omega) rfl hms.symm
    obtain ⟨t, a1, b1, b2, b3, ⟨L, b4, b5⟩, b6, b7⟩ := K s₁ hh0 (Stand.of_body B)
    exact ⟨t, _, a1, b1, b2, ⟨rfl, b6, b7⟩, L, ⟨⟨_, rfl⟩, b3, b4⟩, b5⟩
end Met
theorem mLnk_spec {o idx N kind w1 w2 w3 w4 w5 : Nat} (h : (o, idx, N, kind, w1, w2, w3, w4, w5) ∈ mLnkT) :
    (if kind < 3 then Cond.methodLink (mNmOf o) idx (mName N) else .methodLinkNest (mNmOf o) idx (mName N) "MeshWalk") ∈ mTbl ∧ (if kind % 3 = 1 then Cond.static (mName N) else .instanceMethod (mName N)) ∈ mTbl ∧ (kind % 3 = 0 → Cond.selects (mName N).cls (mName N) (mName N) ∈ mTbl) ∧ Cond.initialized (mName N).cls ∈ mTbl ∧ ((mName N).cls ≠ "java/lang/invoke/MethodHandle" ∧ (mName N).cls ≠ "java/lang/invoke/VarHandle") ∧ (parseMethodDescriptor (mName N).desc).map (fun d => d.parameters.length) = some (mAr N) ∧ mNmOf (mOwn N) = (mName N).cls ∧ plainFor (mName N) = true ∧ (kind % 3 = 2 → (mName N).name = "<init>" ∧ mRet N = none) := by
  have hk := List.all_eq_true.mp mLnkT_ok _ h
  simp only [mLnkOK, Bool.and_eq_true, decide_eq_true_eq] at hk
  obtain ⟨h1, h2, h3, h4, h5, h6, h7, h8, h9⟩ := hk
  refine ⟨mIs.mem h1, mIs.mem h2, fun hz => ?_, mIs.mem h4, h5, h6, h7, h8, fun hz => ?_⟩
  · rw [if_pos hz] at h3; exact mIs.mem h3
  · rw [if_pos hz] at h9; exact of_decide_eq_true h9
section Calls
variable {p : Program} {l : Launch} {e : Env} {R : Room} {s : State} {m : MethodId} {args : Array Value} {below : List Frame} {meth : Method} {c : Code} {H : Heap} {locs : List Loc} {cells slots : Nat} {Q : State → Prop}
variable {D : va_G} {n0 : Nat} {ex : Nat → Nat} {dA : FieldType → ClassId} {S : mE} {M pc : Nat} {la : Array Slot} {st : List Value} {h : mHp}
theorem m_back {mc ms : Nat} {st0 rest : List Value} {v : Option Value} {h' : mHp} {a : Array Value} (hr : va_Run p l e R s m args below meth c H locs cells slots mc ms (F0 m pc la st0) rest (mQc D n0 ex dA v h' a) (mA n0)) (hS : va_S (mA n0) s.heap H locs)
    (kk : ∀ (H1 : Heap) (locs1 : List Loc), va_P D mcl (mws n0 ex dA h' 0) H1 → va_S (mA n0) s.heap H1 locs1 → W p l e R s m args below meth c H1 locs1 (cells + mc) (slots + ms) Q (F0 m (pc + 3) la ((v.map (cv n0 ex)).toList ++ rest))) : W p l e R s m args below meth c H locs cells slots Q (F0 m pc la st0) := by
  intro T hT X
  obtain ⟨v1, st₀, t, T', L, h0, X', hL, e1, e2, ⟨hv, hp, hz, hk⟩, stp⟩ := hr T hT X
  cases hv
  rw [h0] at hz hk
  obtain ⟨t2, a1, b1⟩ := kk T'.heap (locs ++ L) (by rw [e1]; exact hp)
    ⟨Nat.le_trans hS.1 (by rw [e1]; exact hz), fun q h1 h2 => by rw [e1, hk q (Nat.lt_of_lt_of_le h1 hS.1) h2]; exact hS.2.1 q h1 h2, fun q hq => by
      rcases List.mem_append.mp hq with hq | hq
      · exact hS.2.2 q hq
      · exact hL q hq⟩ T' rfl X'
  exact ⟨t2, stp t2 a1, b1⟩
theorem m_cats (st : List Value) (hc : mcats st ≤ 8) : 2 * (F0 m pc la []).monitorRoom + ((st.map (cv n0 ex)).map fun v => v.category).sum ≤ 8 := by
  show 2 * 0 + _ ≤ 8
  have := mcats_map n0 ex st
  unfold mcats at this
  rw [this]
  unfold mcats at hc
  omega
theorem m_lenn {N n : Nat} (h : (parseMethodDescriptor (mName N).desc).map (fun d => d.parameters.length) = some n) : ∀ sig, parseMethodDescriptor (mName N).desc = some sig → n = sig.parameters.length := by
  intro sig hs
  rw [hs] at h
  exact (Option.some.inj h).symm
theorem m_size (hP : va_P D mcl (mws n0 ex dA h 0) H) (hS : va_S (mA n0) s.heap H locs) (h1 : s.heap.size + cells = n0 + h.length) (h0 : n0 ≤ s.heap.size) (hz : H.size ≤ s.heap.size + cells) : H.size = n0 + h.length := by
  by_cases hl : h.length = 0
  · have := hS.1; omega
  · have hg : (mws n0 ex dA h 0)[h.length - 1]? = some (n0 + (0 + (h.length - 1)), mce n0 ex dA h[h.length - 1]) := by
      rw [mws_get, List.getElem?_eq_getElem (by omega)]
      rfl
    have := (hP _ _ hg).lt
    simp only at this
    omega
set_option maxHeartbeats 4000000 in
theorem ms_rv {Qc : Array Value → State → Outcome → State → Prop} {free : Addr → Prop} (F : mFix M p s m meth c) (X : mCx D n0 ex dA S s) (hP : va_P D mcl (mws n0 ex dA h 0) H) (hS : va_S (mA n0) s.heap H locs) (hla : la.size = mMaxL M) (hRf : mFr M ≤ R.frames) (hRl : mLo M ≤ R.locals) {idx N kind w1 w2 w3 w4 w5 a ci : Nat} {fs As st0 : List Value} {mc ms : Nat}
    (hd : decode (mCode M) pc = .ok ((if kind % 3 = 2 then .invokespecial idx else .invokevirtual idx), 3)) (hf : (mOwn M, idx, N, kind, w1, w2, w3, w4, w5) ∈ mLnkT) (hkd : kind % 3 = 2 ∨ kind % 3 = 0) (hrm : mroom M N st) (hst : st0 = As.reverse ++ .ref a :: st) (har : As.length = mAr N) (hcw : mcats (.ref a :: As) ≤ mMaxL N) (hg : mget h a = some (.inr (ci, fs))) (hci : mOwn N = ci)
    (hM : Met l (mName N) [Cond.code (mName N) (mCode N) (mMaxL N) (mRet N)] ({ frames := mFr N, cells := mc, slots := ms, locals := mLo N }) (mPc D n0 ex dA S h (.ref a :: As)) Qc mc ms free) (hHs : H.size = n0 + h.length) (hRc : cells + mc ≤ R.cells) (hRs : slots + ms ≤ R.slots) :
    va_Run p l e R s m args below meth c H locs cells slots mc ms (F0 m pc la (st0.map (cv n0 ex))) (st.map (cv n0 ex)) (Qc ((.ref a :: As).map (cv n0 ex)).toArray) free := by
  obtain ⟨hr1, hr2, hr3, hr4, hr5⟩ := hrm
  obtain ⟨g1, g2, g3, g4, g5, g6, g7, g8, g9⟩ := mLnk_spec hf
  have hcodew : Cond.code (mName N) (mCode N) (mMaxL N) (mRet N) ∈ mTbl := by
    have := hr5
    unfold mCw at this
    rw [if_pos hr4] at this
    exact this
  have hws : ∀ w ∈ [Cond.code (mName N) (mCode N) (mMaxL N) (mRet N)], ∀ (a' : Array Value) (U : State), s.WarmedH U.vm → w.before a' U = true := fun w hw a' U hW => mTb_warm hW X.2.2.2.2.1 w (by rw [List.mem_singleton.mp hw]; exact hcodew)
  have hpre : ∀ U : State, U.heap = H → s.WarmedH U.vm → mPc D n0 ex dA S h (.ref a :: As) (Value.ref (sg n0 ex a) :: As.map (cv n0 ex)).toArray U := fun U hU hW => ⟨rfl, mCx_moved X hS hU hW, by rw [hU]; exact hP, by rw [hU]; exact hHs⟩
  have hstk : st0.map (cv n0 ex) = (As.map (cv n0 ex)).reverse ++ .ref (sg n0 ex a) :: st.map (cv n0 ex) := by
    rw [hst]; simp [cv]
  have hln : (As.map (cv n0 ex)).length = mAr N := by rw [List.length_map]; exact har
  have hlz : la.size = mMaxL M := hla
  rcases hkd with hkd | hkd
  · -- a constructor
    rw [if_pos hkd] at hd
    obtain ⟨n1, n2⟩ := g9 hkd
    rw [n2] at hcodew hM hws
    rw [if_neg (by omega)] at g2
    by_cases hk3 : kind < 3
    · rw [if_pos hk3] at g1
      exact va_runI (Ts := mTbl) (own := mNmOf (mOwn M)) (index := idx) (n := mAr N) (bytes := mCode N) (maxL := mMaxL N) (As := As.map (cv n0 ex)) (b := sg n0 ex a) (rest := st.map (cv n0 ex)) ⟨F.1, F.2.1, F.2.2.2.1, F.2.2.2.2.2.2.1, fun w hw => mTb_use X.2.2.2.2.1 hw⟩ hM ⟨⟨rfl, rfl, Nat.le_trans hr1 hRf, Nat.le_trans hr2 hRl, hws, List.mem_cons_self, mTb_use X.2.2.2.2.1 hcodew, mTb_use X.2.2.2.2.1 g4, g5, m_lenn g6, mTb_use X.2.2.2.2.1 g1⟩, n1, mTb_use X.2.2.2.2.1 g2⟩ ⟨mPc_blind, hpre⟩ rfl hln hlz hstk (m_cats (m := m) (pc := pc) (la := la) st hr3) hd ⟨hRc, hRs⟩
    · rw [if_neg hk3] at g1
      exact va_runIN (Ts := mTbl) (own := mNmOf (mOwn M)) (index := idx) (n := mAr N) (bytes := mCode N) (maxL := mMaxL N) (host := "MeshWalk") (As := As.map (cv n0 ex)) (b := sg n0 ex a) (rest := st.map (cv n0 ex)) ⟨F.1, F.2.1, F.2.2.2.1, F.2.2.2.2.2.2.1, fun w hw => mTb_use X.2.2.2.2.1 hw⟩ hM ⟨⟨⟨rfl, rfl, Nat.le_trans hr1 hRf, Nat.le_trans hr2 hRl, hws, List.mem_cons_self⟩, mTb_use X.2.2.2.2.1 hcodew, mTb_use X.2.2.2.2.1 g4, g5, m_lenn g6, mTb_use X.2.2.2.2.1 g1⟩, n1, mTb_use X.2.2.2.2.1 g2⟩ ⟨mPc_blind, hpre⟩ rfl hln hlz hstk (m_cats (m := m) (pc := pc) (la := la) st hr3) hd ⟨hRc, hRs⟩
  · -- a method
    rw [if_neg (by omega)] at hd
    rw [if_neg (by omega)] at g2
    have g3' := g3 hkd
    have hrecv : ∃ cellB : Cell, H[sg n0 ex a]? = some cellB ∧ cellB.vm.isStatics = false ∧ s.vm.findClass (mName N).cls = some cellB.cls := by
      have hlt : ∃ q : vw_C, mcl[ci]? = some q := by
        obtain ⟨r, hr, -⟩ := hP _ _ (mws_at hg)
        exact ⟨r, hr⟩
      obtain ⟨⟨C, T, NN⟩, hc⟩ := hlt
      have := va_recv X.1 hP hc (mws_at hg)
      have hC : C = (mName N).cls := by rw [← g7, hci]; exact (mcl_nm hc).symm
      rw [← hC]
      exact this
    by_cases hk3 : kind < 3
    · rw [if_pos hk3] at g1
      exact va_runV (Ts := mTbl) (own := mNmOf (mOwn M)) (index := idx) (n := mAr N) (bytes := mCode N) (maxL := mMaxL N) (C := (mName N).cls) (As := As.map (cv n0 ex)) (b := sg n0 ex a) (rest := st.map (cv n0 ex)) ⟨F.1, F.2.1, F.2.2.2.1, F.2.2.2.2.2.2.1, fun w hw => mTb_use X.2.2.2.2.1 hw⟩ hM ⟨⟨rfl, rfl, Nat.le_trans hr1 hRf, Nat.le_trans hr2 hRl, hws, List.mem_cons_self, mTb_use X.2.2.2.2.1 hcodew, mTb_use X.2.2.2.2.1 g4, g5, m_lenn g6, mTb_use X.2.2.2.2.1 g1⟩, mTb_use X.2.2.2.2.1 g2, mTb_use X.2.2.2.2.1 g3'⟩ ⟨mPc_blind, hrecv, hpre⟩ rfl hln hlz hstk (m_cats (m := m) (pc := pc) (la := la) st hr3) hd ⟨hRc, hRs⟩
    · rw [if_neg hk3] at g1
      exact va_runVN (Ts := mTbl) (own := mNmOf (mOwn M)) (index := idx) (n := mAr N) (bytes := mCode N) (maxL := mMaxL N) (C := (mName N).cls) (host := "MeshWalk") (As := As.map (cv n0 ex)) (b := sg n0 ex a) (rest := st.map (cv n0 ex)) ⟨F.1, F.2.1, F.2.2.2.1, F.2.2.2.2.2.2.1, fun w hw => mTb_use X.2.2.2.2.1 hw⟩ hM ⟨⟨⟨rfl, rfl, Nat.le_trans hr1 hRf, Nat.le_trans hr2 hRl, hws, List.mem_cons_self⟩, mTb_use X.2.2.2.2.1 hcodew, mTb_use X.2.2.2.2.1 g4, g5, m_lenn g6, mTb_use X.2.2.2.2.1 g1⟩, mTb_use X.2.2.2.2.1 g2, mTb_use X.2.2.2.2.1 g3'⟩ ⟨mPc_blind, hrecv, hpre⟩ rfl hln hlz hstk (m_cats (m := m) (pc := pc) (la := la) st hr3) hd ⟨hRc, hRs⟩
theorem ms_cv (F : mFix M p s m meth c) (X : mCx D n0 ex dA S s) (hP : va_P D mcl (mws n0 ex dA h 0) H) (hS : va_S (mA n0) s.heap H locs) (hla : la.size = mMaxL M) (hRf : mFr M ≤ R.frames) (hRl : mLo M ≤ R.locals) {h' : mHp} {idx N kind w1 w2 w3 w4 w5 a ci : Nat} {fs As st0 : List Value} {v : Option Value} {mc ms : Nat}
    (hd : decode (mCode M) pc = .ok ((if kind % 3 = 2 then .invokespecial idx else .invokevirtual idx), 3)) (hf : (mOwn M, idx, N, kind, w1, w2, w3, w4, w5) ∈ mLnkT) (hkd : kind % 3 = 2 ∨ kind % 3 = 0) (hrm : mroom M N st) (hst : st0 = As.reverse ++ .ref a :: st) (har : As.length = mAr N) (hcw : mcats (.ref a :: As) ≤ mMaxL N) (hg : mget h a = some (.inr (ci, fs))) (hci : mOwn N = ci)
    (hk : mSem l D n0 ex dA S N (0, lv_args 0 (.ref a :: As), [], h) (.inl v, h')) (hsz : s.heap.size + cells = n0 + h.length) (hmc : h.length + mc = h'.length) (hms : msl h + ms = msl h') (hRc : cells + mc ≤ R.cells) (hRs : slots + ms ≤ R.slots)
    (kk : ∀ (H1 : Heap) (locs1 : List Loc), va_P D mcl (mws n0 ex dA h' 0) H1 → va_S (mA n0) s.heap H1 locs1 → W p l e R s m args below meth c H1 locs1 (cells + mc) (slots + ms) Q (F0 m (pc + 3) la ((v.toList ++ st).map (cv n0 ex)))) : W p l e R s m args below meth c H locs cells slots Q (F0 m pc la (st0.map (cv n0 ex))) := by
  refine W.sz (fun hz => ?_)
  have hHs : H.size = n0 + h.length := m_size hP hS hsz X.2.2.2.1 hz
  obtain ⟨g1, g2, g3, g4, g5, g6, g7, g8, g9⟩ := mLnk_spec hf
  have hM := m_met (l := l) (mc := mc) (ms := ms) hk g8 g7 hrm.2.2.2.1 hcw hmc hms
  exact m_back (v := v) (h' := h') (ms_rv F X hP hS hla hRf hRl hd hf hkd hrm hst har hcw hg hci hM hHs hRc hRs) hS (fun H1 locs1 a1 a2 => by
    have := kk H1 locs1 a1 a2
    cases v <;> simpa using this)
set_option maxHeartbeats 4000000 in
theorem ms_rs {Qc : Array Value → State → Outcome → State → Prop} {free : Addr → Prop} (F : mFix M p s m meth c) (X : mCx D n0 ex dA S s) (hP : va_P D mcl (mws n0 ex dA h 0) H) (hS : va_S (mA n0) s.heap H locs) (hla : la.size = mMaxL M) (hRf : mFr M ≤ R.frames) (hRl : mLo M ≤ R.locals) {idx N kind w1 w2 w3 w4 w5 : Nat} {As st0 : List Value} {mc ms : Nat}
    (hd : decode (mCode M) pc = .ok (.invokestatic idx, 3)) (hf : (mOwn M, idx, N, kind, w1, w2, w3, w4, w5) ∈ mLnkT) (hkd : kind % 3 = 1) (hrm : mroom M N st) (hst : st0 = As.reverse ++ st) (har : As.length = mAr N) (hcw : mcats As ≤ mMaxL N)
    (hM : Met l (mName N) [Cond.code (mName N) (mCode N) (mMaxL N) (mRet N)] ({ frames := mFr N, cells := mc, slots := ms, locals := mLo N }) (mPc D n0 ex dA S h (As)) Qc mc ms free) (hHs : H.size = n0 + h.length) (hRc : cells + mc ≤ R.cells) (hRs : slots + ms ≤ R.slots) :
    va_Run p l e R s m args below meth c H locs cells slots mc ms (F0 m pc la (st0.map (cv n0 ex))) (st.map (cv n0 ex)) (Qc ((As).map (cv n0 ex)).toArray) free := by
  obtain ⟨hr1, hr2, hr3, hr4, hr5⟩ := hrm
  obtain ⟨g1, g2, g3, g4, g5, g6, g7, g8, g9⟩ := mLnk_spec hf
  have hcodew : Cond.code (mName N) (mCode N) (mMaxL N) (mRet N) ∈ mTbl := by
    have := hr5
    unfold mCw at this
    rw [if_pos hr4] at this
    exact this
  have hws : ∀ w ∈ [Cond.code (mName N) (mCode N) (mMaxL N) (mRet N)], ∀ (a' : Array Value) (U : State), s.WarmedH U.vm → w.before a' U = true := fun w hw a' U hW => mTb_warm hW X.2.2.2.2.1 w (by rw [List.mem_singleton.mp hw]; exact hcodew)
  have hpre : ∀ U : State, U.heap = H → s.WarmedH U.vm → mPc D n0 ex dA S h As (As.map (cv n0 ex)).toArray U := fun U hU hW => ⟨rfl, mCx_moved X hS hU hW, by rw [hU]; exact hP, by rw [hU]; exact hHs⟩
  have hstk : st0.map (cv n0 ex) = (As.map (cv n0 ex)).reverse ++ st.map (cv n0 ex) := by
    rw [hst]; simp
  have hln : (As.map (cv n0 ex)).length = mAr N := by rw [List.length_map]; exact har
  have hlz : la.size = mMaxL M := hla
  rw [if_pos hkd] at g2
  by_cases hk3 : kind < 3
  · rw [if_pos hk3] at g1
    exact va_runS (Ts := mTbl) (own := mNmOf (mOwn M)) (index := idx) (n := mAr N) (bytes := mCode N) (maxL := mMaxL N) (As := As.map (cv n0 ex)) (rest := st.map (cv n0 ex)) ⟨F.1, F.2.1, F.2.2.2.1, F.2.2.2.2.2.2.1, fun w hw => mTb_use X.2.2.2.2.1 hw⟩ hM ⟨⟨rfl, rfl, Nat.le_trans hr1 hRf, Nat.le_trans hr2 hRl, hws, List.mem_cons_self, mTb_use X.2.2.2.2.1 hcodew, mTb_use X.2.2.2.2.1 g4, g5, m_lenn g6, mTb_use X.2.2.2.2.1 g1⟩, mTb_use X.2.2.2.2.1 g2⟩ ⟨mPc_blind, hpre⟩ rfl hln hlz hstk (m_cats (m := m) (pc := pc) (la := la) st hr3) hd ⟨hRc, hRs⟩
  · rw [if_neg hk3] at g1
    exact va_runSN (Ts := mTbl) (own := mNmOf (mOwn M)) (index := idx) (n := mAr N) (bytes := mCode N) (maxL := mMaxL N) (host := "MeshWalk") (As := As.map (cv n0 ex)) (rest := st.map (cv n0 ex)) ⟨F.1, F.2.1, F.2.2.2.1, F.2.2.2.2.2.2.1, fun w hw => mTb_use X.2.2.2.2.1 hw⟩ hM ⟨⟨⟨rfl, rfl, Nat.le_trans hr1 hRf, Nat.le_trans hr2 hRl, hws, List.mem_cons_self⟩, mTb_use X.2.2.2.2.1 hcodew, mTb_use X.2.2.2.2.1 g4, g5, m_lenn g6, mTb_use X.2.2.2.2.1 g1⟩, mTb_use X.2.2.2.2.1 g2, trivial⟩ ⟨mPc_blind, hpre⟩ rfl hln hlz hstk (m_cats (m := m) (pc := pc) (la := la) st hr3) hd ⟨hRc, hRs⟩
theorem ms_cs (F : mFix M p s m meth c) (X : mCx D n0 ex dA S s) (hP : va_P D mcl (mws n0 ex dA h 0) H) (hS : va_S (mA n0) s.heap H locs) (hla : la.size = mMaxL M) (hRf : mFr M ≤ R.frames) (hRl : mLo M ≤ R.locals) {h' : mHp} {idx N kind w1 w2 w3 w4 w5 : Nat} {As st0 : List Value} {v : Option Value} {mc ms : Nat}
    (hd : decode (mCode M) pc = .ok (.invokestatic idx, 3)) (hf : (mOwn M, idx, N, kind, w1, w2, w3, w4, w5) ∈ mLnkT) (hkd : kind % 3 = 1) (hrm : mroom M N st) (hst : st0 = As.reverse ++ st) (har : As.length = mAr N) (hcw : mcats As ≤ mMaxL N)
    (hk : mSem l D n0 ex dA S N (0, lv_args 0 As, [], h) (.inl v, h')) (hsz : s.heap.size + cells = n0 + h.length) (hmc : h.length + mc = h'.length) (hms : msl h + ms = msl h') (hRc : cells + mc ≤ R.cells) (hRs : slots + ms ≤ R.slots)
    (kk : ∀ (H1 : Heap) (locs1 : List Loc), va_P D mcl (mws n0 ex dA h' 0) H1 → va_S (mA n0) s.heap H1 locs1 → W p l e R s m args below meth c H1 locs1 (cells + mc) (slots + ms) Q (F0 m (pc + 3) la ((v.toList ++ st).map (cv n0 ex)))) : W p l e R s m args below meth c H locs cells slots Q (F0 m pc la (st0.map (cv n0 ex))) := by
  refine W.sz (fun hz => ?_)
  have hHs : H.size = n0 + h.length := m_size hP hS hsz X.2.2.2.1 hz
  obtain ⟨g1, g2, g3, g4, g5, g6, g7, g8, g9⟩ := mLnk_spec hf
  have hM := m_met (l := l) (mc := mc) (ms := ms) hk g8 g7 hrm.2.2.2.1 hcw hmc hms
  exact m_back (v := v) (h' := h') (ms_rs F X hP hS hla hRf hRl hd hf hkd hrm hst har hcw hM hHs hRc hRs) hS (fun H1 locs1 a1 a2 => by
    have := kk H1 locs1 a1 a2
    cases v <;> simpa using this)
end Calls
