/-! THROWS, 3: entering a method by hand (also one that has handlers, also one that throws); the search for a handler where its class has not been looked up yet -/
theorem fh_cold {E : CtlPost} {e : Env} {d : Bool} {acts : List Action} {s : State} {f : JFrame} {a : Addr} {Q : Handler → Pre} {x : ExceptionTableEntry} {t : List ExceptionTableEntry} {c : ClassId} {vm' : Vm} {cell : Cell} (hx : covers x f.pc = true) (h0 : x.catchType ≠ 0) (hg : (resolveClass f.method.cls x.catchType).Gives e.toSetting s.vm (.ok c) vm') (hsz : vm'.classes.size ≤ s.vm.classes.size) (hcell : s.heap[a]? = some cell) (hobj : ∀ k, cell.vm ≠ .statics k) (hk : ∃ k, vm'.classes[cell.cls]? = some k) (hc : ∃ k, vm'.classes[c]? = some k) :
    wp (findHandler.go f a (x :: t)) Q E e d acts s ↔ if vm'.assignable cell.cls c = true then Q (.found x.handlerPc) d acts (s.setVm vm') else wp (findHandler.go f a t) Q E e d acts (s.setVm vm') := by
  simp only [covers] at hx
  obtain ⟨ha, ht⟩ := hg.op (op := VmOp.resolveClass f.method.cls x.catchType) rfl
  cases hfit : vm'.assignable cell.cls c <;>
    simp [findHandler.go, hx, h0, ha, ht, hsz, hcell, hobj, hk, hc, hfit, VmOp.dirties, VmOp.acts]
theorem st_catch {e : Env} {s : State} {a : Addr} {f : JFrame} {r : List Frame} {pc : Nat} {vm' : Vm} (hfind : ∀ (Q : Handler → Pre) (E : CtlPost) (d : Bool) (acts : List Action), wp (findHandler f a) Q E e d acts s ↔ Q (.found pc) d acts (s.setVm vm')) :
    (stepThrowing e s a (.java f :: r)).Is ((s.setVm vm').setFrames (.java { f with pc := pc, stack := [.ref a] } :: r)) [] := by
  simp only [stepThrowing, searchFrame, vmDo]
  generalize hr : Sem.go _ e false [] s = res
  obtain ⟨as, rfl, ha⟩ := Sem.eq_ok_of hr (a := Handler.found pc) (s' := s.setVm vm') (acts' := []) (by simp [hfind _ _ _ _])
  exact ⟨rfl, ha⟩
theorem st_caught {tb : Tables} {e : Env} {s target : State} {g : JFrame} {c : Code} {below : List Frame} {a : Addr} (h : At s g.method c below) {pc : Nat} {vm' : Vm} (hfind : ∀ (Q : Handler → Pre) (E : CtlPost) (d : Bool) (acts : List Action), wp (findHandler g a) Q E e d acts ((s.setTop g).pushFrame (.throwing a)) ↔ Q (.found pc) d acts (((s.setTop g).pushFrame (.throwing a)).setVm vm'))
    (hrest : Steps tb e below ((s.setVm vm').setTop { g with pc := pc, stack := [.ref a] }) target) : Steps tb e below ((s.setTop g).pushFrame (.throwing a)) target := by
  obtain ⟨hgo, hw⟩ := h.throwing a
  refine Steps.head hgo hw ?_
  rw [stepThread_throwing (frames_entered h.top _), (st_catch (s := (s.setTop g).pushFrame (.throwing a)) hfind).1]
  obtain ⟨g₀, hg⟩ := Option.isSome_iff_exists.mp h.top
  obtain ⟨r, hr⟩ := State.topJava?_eq_some.mp hg
  have hr' : (s.setVm vm').frames = .java g₀ :: r := hr
  rw [State.setTop_of_frames _ hr'] at hrest
  rw [State.pushFrame, State.setTop_of_frames _ hr, State.setFrames_setFrames, hr]
  show Steps tb e below (((s.setVm vm').setFrames (Frame.throwing a :: (s.setFrames (Frame.java g :: r)).frames)).setFrames (Frame.java { g with pc := pc, stack := [.ref a] } :: r)) target
  rw [State.setFrames_setFrames]
  exact hrest
theorem m_code {N : Nat} {A : Array Value} {s : State} (h : (mCw N).before A s = true) : ∃ mk meth c, s.methodNamed? (mName N) = some mk ∧ s.vm.method? mk = some meth ∧ meth.code = some c ∧ c.code = mCode N ∧ c.maxLocals = mMaxL N ∧ c.exceptionTable.toList.map (fun h => (h.startPc, h.endPc, h.handlerPc, h.catchType)) = mHand N ∧ meth.sig.returnType = mRet N ∧ meth.locks = false ∧ parseMethodDescriptor (mName N).desc = some meth.sig := by
  unfold mCw at h
  by_cases hh : mHand N = []
  · rw [if_pos hh] at h
    obtain ⟨mk, hnamed⟩ := Cond.code_named h
    obtain ⟨meth, c, h1, h2, h3, h4, h5, h6, h7, h8⟩ := Cond.code_spec hnamed h
    have h0 : c.exceptionTable.size = 0 := by simpa [Array.isEmpty] using h7
    have h9 : c.exceptionTable.toList = [] := List.eq_nil_of_length_eq_zero (by simpa using h0)
    exact ⟨mk, meth, c, hnamed, h1, h2, h3, h4, by rw [h9, hh]; rfl, h5, h6, h8⟩
  · rw [if_neg hh] at h
    obtain ⟨mk, meth, c, h1, h2, h3, h4, h5, h6, h7, h8, h9⟩ := Cond.codeWith_spec h
    exact ⟨mk, meth, c, h1, h2, h3, h4, h5, h6, h7, h8, h9⟩
/-- what a method does from its entry -/
def mEnt (l : Launch) (D : va_G) (n0 : Nat) (ex : Nat → Nat) (dA : FieldType → ClassId) (S : mE) (N : Nat) (vs : List Value) (h : mHp) (r : mR) : Prop := h.length ≤ r.2.length ∧ msl h ≤ msl r.2 ∧
  ∀ (p : Program) (e : Env) (s : State) (m : MethodId) (below : List Frame) (meth : Method) (c : Code) (mc ms : Nat), mFix N p s m meth c → mCx D n0 ex dA S s → va_P D mcl (mws n0 ex dA h 0) s.heap → s.heap.size = n0 + h.length → h.length + mc = r.2.length → msl h + ms = msl r.2 →
    W p l e ({ frames := mFr N, cells := mc, slots := ms, locals := mLo N } : Room) s m (vs.map (cv n0 ex)).toArray below meth c s.heap [] 0 0 (mQ D n0 ex dA s below mc ms r) (entryFrame m (vs.map (cv n0 ex)).toArray (mMaxL N))
section Ent
variable {l : Launch} {D : va_G} {n0 : Nat} {ex : Nat → Nat} {dA : FieldType → ClassId} {S : mE}
theorem mSem.ent {N : Nat} {vs : List Value} {h : mHp} {r : mR} (k : mSem l D n0 ex dA S N (0, lv_args 0 vs, [], h) r) (hw : mcats vs ≤ mMaxL N) : mEnt l D n0 ex dA S N vs h r := by
  refine ⟨k.1, k.2.1, fun p e s m below meth c mc ms F X hP hsz h1 h2 => ?_⟩
  have hl := lv_entry (vs.map (cv n0 ex)) (n := mMaxL N) (by rw [mcats_sl, mcats_map]; exact hw)
  rw [lg_entry_eq]
  exact k.2.2 p e _ s m _ below meth c s.heap [] _ 0 0 mc ms (msl h) F X hP va_S.rf (by rw [← lv_args_map]; exact hl) (Nat.le_refl _) (Nat.le_refl _) (Nat.le_refl _) (Nat.le_refl _) hsz (by rw [hsz, ← h1]; omega) rfl h2.symm
theorem mSemP.ent {N : Nat} {vs : List Value} {h : mHp} {r : mR} (k : mSemP l D n0 ex dA S N (0, lv_args 0 vs, [], h) r) (hw : mcats vs ≤ mMaxL N) : mEnt l D n0 ex dA S N vs h r := by
  refine ⟨k.1, k.2.1, fun p e s m below meth c mc ms F X hP hsz h1 h2 => ?_⟩
  have hl := lv_entry (vs.map (cv n0 ex)) (n := mMaxL N) (by rw [mcats_sl, mcats_map]; exact hw)
  rw [lg_entry_eq]
  refine W.mono (fun t ht => ?_) (k.2.2 p e _ s m _ below meth c _ mc ms F X hP (by rw [← lv_args_map]; exact hl) (Nat.le_refl _) (Nat.le_refl _) (Nat.le_refl _) (Nat.le_refl _) hsz (by rw [hsz, ← h1]; omega) h2)
  obtain ⟨a1, a2, a3, a4, a5⟩ := ht
  refine ⟨a1, a2, a3, ⟨[], a4, fun q hq => by cases hq⟩, a5, ?_⟩
  refine ⟨a4.2.1, fun q hq _ => ?_⟩
  have hs : s.heap[q]? = some s.heap[q] := Array.getElem?_eq_getElem hq
  rw [hs]
  exact a4.old_cell hs
set_option maxHeartbeats 4000000 in
theorem m_into {p : Program} {e : Env} {R : Room} {s : State} {m : MethodId} {args : Array Value} {below : List Frame} {meth : Method} {c : Code} {T : State} {locs : List Loc} {cells slots : Nat} {N : Nat} {h : mHp} {vs : List Value} {r : mR} {g : JFrame} {ig : Instr} {mk : MethodId} {methk : Method} {ck : Code} {mc ms : Nat}
    (Xs : Stand p l e R s m args below meth c T locs cells slots) (hx : p.tables.exec = Jvm.exec) (X : mCx D n0 ex dA S s) (hP : va_P D mcl (mws n0 ex dA h 0) T.heap) (hS : va_S (mA n0) s.heap T.heap locs) (hsz : T.heap.size = n0 + h.length) (k0 : mEnt l D n0 ex dA S N vs h r)
    (hg : g.method = m) (hgs : g.locals.size = c.maxLocals) (hdg : decode c.code g.pc = .ok (ig, 3)) (hcat : 2 * g.monitorRoom + (g.stack.map fun v => v.category).sum ≤ 8)
    (h1 : s.methodNamed? (mName N) = some mk) (h2 : s.vm.method? mk = some methk) (h3 : methk.code = some ck) (h4 : ck.code = mCode N) (h5 : ck.maxLocals = mMaxL N) (h6 : ck.exceptionTable.toList.map (fun h => (h.startPc, h.endPc, h.handlerPc, h.catchType)) = mHand N) (h7 : methk.sig.returnType = mRet N) (h8 : methk.locks = false)
    (hnm : mNmOf (mOwn N) = (mName N).cls) (hpl : plainFor (mName N) = true) (hf1 : mFr N + 1 ≤ R.frames) (hf2 : 8 + (mMaxL N + 11) + mLo N ≤ R.locals) (hmc : h.length + mc = r.2.length) (hms : msl h + ms = msl r.2) (hRc : cells + mc ≤ R.cells) (hRs : slots + ms ≤ R.slots) :
    ∃ (t : State) (L : List Loc), (∀ acts, Steps p.tables e below (doInvoke e (T.setTop g) acts mk (vs.map (cv n0 ex)).toArray).1 t) ∧ Ended t (.java g :: below) (mOut n0 ex r.1) ∧ (T.calling g mk (vs.map (cv n0 ex)).toArray).WarmedH t.vm ∧ (T.calling g mk (vs.map (cv n0 ex)).toArray).sameButNew ({ t with vm := (T.calling g mk (vs.map (cv n0 ex)).toArray).vm } : State) L mc ms ∧ (∀ q ∈ L, n0 ≤ q.base) ∧ va_P D mcl (mws n0 ex dA r.2 0) t.heap ∧ va_F (mA n0) (T.calling g mk (vs.map (cv n0 ex)).toArray) t := by
  have hnT : T.methodNamed? (mName N) = some mk := Xs.named h1
  have hmT : T.vm.method? mk = some methk := by rw [Xs.warmed.alike.method?]; exact h2
  obtain ⟨Y, hin⟩ := Xs.into hg hgs hdg (vs.map (cv n0 ex)).toArray (R' := ({ frames := mFr N, cells := mc, slots := ms, locals := mLo N } : Room)) hmT h3 h8 (State.plainMethod.of_named hpl hnT hmT) hf1 (by show _ + (ck.maxLocals + 11) + mLo N ≤ R.locals; rw [h5]; omega) hRc hRs
  have hX' : mCx D n0 ex dA S (T.calling g mk (vs.map (cv n0 ex)).toArray) := mCx_moved X hS rfl Xs.warmed
  have hfc : (T.calling g mk (vs.map (cv n0 ex)).toArray).vm.findClass (mNmOf (mOwn N)) = some mk.cls := by
    rw [hnm]
    exact findClass_of_methodNamed (s := T) hnT
  have F' : mFix N p (T.calling g mk (vs.map (cv n0 ex)).toArray) mk methk ck := ⟨hx, h4, h7, h5, h8, (name_of_methodNamed h1 h2).1, hfc, h6⟩
  have K := k0.2.2 p e (T.calling g mk (vs.map (cv n0 ex)).toArray) mk (.java g :: below) methk ck mc ms F' hX' hP hsz hmc hms
  obtain ⟨t, a1, b1, b2, b3, ⟨L, b4, b5⟩, b6, b7⟩ := K ((T.setTop g).pushFrame (.java (entryFrame mk (vs.map (cv n0 ex)).toArray ck.maxLocals))) (by rfl) Y
  refine ⟨t, L, fun acts => ?_, b2, b3, b4, b5, b6, b7⟩
  rw [hin acts, h5]
  rw [h5] at a1
  exact Steps.weaken (mid := [.java g]) a1
end Ent
/-! the rules with throws -/
def mrm (M N : Nat) (st : List Value) : Prop := mFr N + 1 ≤ mFr M ∧ 8 + (mMaxL N + 11) + mLo N ≤ mLo M ∧ mcats st ≤ 8 ∧ mCw N ∈ mTbl
/-- MeshWalkLaw's catch types: which class of mcl -/
def mCatch (ct : Nat) : Nat := match ct with
  | 13 => 10
  | 15 => 11
  | 27 => 12
  | _ => 0
def mfind (hs : List (Nat × Nat × Nat × Nat)) (pc ci : Nat) : Option Nat := match hs with
  | [] => none
  | (a, b, hp, ct) :: t => if a ≤ pc ∧ pc < b then (if mCatch ct = ci then some hp else if ci = 11 ∧ ct = 13 then mfind t pc ci else none) else mfind t pc ci
section RulesX
variable (P : Nat → mF → mR → Prop)
/-- a call on an object throws, and nothing here catches it -/
def mc_tv : Prop := ∀ (M pc : Nat) (ls : mL) (st st0 : List Value) (h h' : mHp) (idx N w1 w2 w3 w4 w5 a ci k : Nat) (fs As : List Value), decode (mCode M) pc = .ok (.invokevirtual idx, 3) → (mOwn M, idx, N, 0, w1, w2, w3, w4, w5) ∈ mLnkT → mrm M N st → st0 = As.reverse ++ .ref a :: st → As.length = mAr N → mcats (.ref a :: As) ≤ mMaxL N → mget h a = some (.inr (ci, fs)) → mOwn N = ci → mHand M = [] →
  (P N (0, lv_args 0 (.ref a :: As), [], h) (.inr k, h') ∨ RunsP N (0, lv_args 0 (.ref a :: As), [], h) (.inr k, h')) → P M (pc, ls, st0, h) (.inr k, h')
/-- .. and a handler here catches it -/
def mc_tc : Prop := ∀ (M pc : Nat) (ls : mL) (st st0 : List Value) (h h' : mHp) (r : mR) (idx N w1 w2 w3 w4 w5 a ci k cx hp : Nat) (fs As : List Value), decode (mCode M) pc = .ok (.invokevirtual idx, 3) → (mOwn M, idx, N, 0, w1, w2, w3, w4, w5) ∈ mLnkT → mrm M N st → st0 = As.reverse ++ .ref a :: st → As.length = mAr N → mcats (.ref a :: As) ≤ mMaxL N → mget h a = some (.inr (ci, fs)) → mOwn N = ci → mOwn M = 13 → mget h' k = some (.inr (cx, [])) → (cx = 10 ∨ cx = 11 ∨ cx = 12) → (∀ q ∈ mHand M, q.2.2.2 = 13 ∨ q.2.2.2 = 15 ∨ q.2.2.2 = 27) → mfind (mHand M) pc cx = some hp →
  (P N (0, lv_args 0 (.ref a :: As), [], h) (.inr k, h') ∨ RunsP N (0, lv_args 0 (.ref a :: As), [], h) (.inr k, h')) → P M (hp, ls, [.ref k], h') r → P M (pc, ls, st0, h) r
/-- a call of a static method that has handlers -/
def mc_hs : Prop := ∀ (M pc : Nat) (ls : mL) (st st0 : List Value) (h h' : mHp) (r : mR) (idx N w1 w2 w3 w4 w5 : Nat) (As : List Value) (v : Option Value), decode (mCode M) pc = .ok (.invokestatic idx, 3) → (mOwn M, idx, N, 1, w1, w2, w3, w4, w5) ∈ mLnkT → mrm M N st → st0 = As.reverse ++ st → As.length = mAr N → mcats As ≤ mMaxL N →
  P N (0, lv_args 0 As, [], h) (.inl v, h') → P M (pc + 3, ls, v.toList ++ st, h') r → P M (pc, ls, st0, h) r
end RulesX
section XSound
variable {l : Launch} {D : va_G} {n0 : Nat} {ex : Nat → Nat} {dA : FieldType → ClassId} {S : mE}
/-- the machine's own step into a method on an object, and what the method does -/
theorem m_stepV {p : Program} {e : Env} {R : Room} {s : State} {m : MethodId} {args : Array Value} {below : List Frame} {meth : Method} {c : Code} {T : State} {locs : List Loc} {cells slots : Nat} {M N pc idx w1 w2 w3 w4 w5 a ci mc ms : Nat} {la : Array Slot} {h : mHp} {st st0 As fs : List Value} {r : mR}
    (Xs : Stand p l e R s m args below meth c T locs cells slots) (F : mFix M p s m meth c) (X : mCx D n0 ex dA S s) (hP : va_P D mcl (mws n0 ex dA h 0) T.heap) (hS : va_S (mA n0) s.heap T.heap locs) (hsz : T.heap.size = n0 + h.length) (hla : la.size = mMaxL M)
    (hd : decode (mCode M) pc = .ok (.invokevirtual idx, 3)) (hf : (mOwn M, idx, N, 0, w1, w2, w3, w4, w5) ∈ mLnkT) (hrm : mrm M N st) (hst : st0 = As.reverse ++ .ref a :: st) (har : As.length = mAr N) (hg : mget h a = some (.inr (ci, fs))) (hci : mOwn N = ci) (hRf : mFr M ≤ R.frames) (hRl : mLo M ≤ R.locals)
    (k0 : mEnt l D n0 ex dA S N (.ref a :: As) h r) (hmc : h.length + mc = r.2.length) (hms : msl h + ms = msl r.2) (hRc : cells + mc ≤ R.cells) (hRs : slots + ms ≤ R.slots) :
    ∃ (vm' : Vm) (mk : MethodId) (t : State) (L : List Loc), Stand p l e R s m args below meth c (T.setVm vm') locs cells slots ∧ (∀ tg, Steps p.tables e below t tg → Steps p.tables e below (T.setTop (F0 m pc la (st0.map (cv n0 ex)))) tg) ∧ Ended t (.java (F0 m pc la (st.map (cv n0 ex))) :: below) (mOut n0 ex r.1) ∧ ((T.setVm vm').calling (F0 m pc la (st.map (cv n0 ex))) mk ((.ref a :: As).map (cv n0 ex)).toArray).WarmedH t.vm ∧ ((T.setVm vm').calling (F0 m pc la (st.map (cv n0 ex))) mk ((.ref a :: As).map (cv n0 ex)).toArray).sameButNew ({ t with vm := ((T.setVm vm').calling (F0 m pc la (st.map (cv n0 ex))) mk ((.ref a :: As).map (cv n0 ex)).toArray).vm } : State) L mc ms ∧ (∀ q ∈ L, n0 ≤ q.base) ∧ va_P D mcl (mws n0 ex dA r.2 0) t.heap ∧ va_F (mA n0) ((T.setVm vm').calling (F0 m pc la (st.map (cv n0 ex))) mk ((.ref a :: As).map (cv n0 ex)).toArray) t := by
  obtain ⟨hr1, hr2, hr3, hr5⟩ := hrm
  obtain ⟨g1, g2, g3, g4, g5, g6, g7, g8, g9⟩ := mLnk_spec hf
  rw [if_pos (by decide)] at g1
  rw [if_neg (by decide)] at g2
  have g3' := g3 (by decide)
  obtain ⟨mk, methM, ck, h1, h2, h3, h4, h5, h6, h7, h8, h9⟩ := m_code (A := args) (mTb_use X.2.2.2.2.1 hr5)
  obtain ⟨mk2, meth2, i1, i2, hstM, habM⟩ := Cond.instanceMethod_spec (mTb_use (a := args) X.2.2.2.2.1 g2)
  cases h1.symm.trans i1
  cases h2.symm.trans i2
  obtain ⟨C, hcl⟩ : ∃ q : vw_C, mcl[ci]? = some q := by
    obtain ⟨r, hr, -⟩ := hP _ _ (mws_at hg)
    exact ⟨r, hr⟩
  obtain ⟨C, TT, NN⟩ := C
  obtain ⟨cellB, b1, b2, b3⟩ := va_recv X.1 hP hcl (mws_at hg)
  have hC : C = (mName N).cls := by rw [← g7, hci]; exact (mcl_nm hcl).symm
  rw [hC] at b3
  obtain ⟨c2, r2, m2, q1, q2, q3, q4, kP, hkP, hkPi⟩ := Cond.selects_spec (mTb_use (a := args) X.2.2.2.2.1 g3')
  cases b3.symm.trans q1
  cases (State.methodFound?_of_named h1 g5).symm.trans q2
  cases h1.symm.trans q3
  have hselP : selectMethod e.platform s.vm cellB.cls mk = .method mk := by rw [Launch.admits_selectMethod Xs.admits]; exact q4
  have hlen : (As.map (cv n0 ex)).length = methM.sig.parameters.length := by
    rw [List.length_map, har]
    exact m_lenn g6 _ h9
  have hstk : (F0 m pc la (st0.map (cv n0 ex))).stack = (As.map (cv n0 ex)).reverse ++ .ref (sg n0 ex a) :: st.map (cv n0 ex) := by
    show st0.map (cv n0 ex) = _
    rw [hst]; simp [cv]
  obtain ⟨vm₁, X₁, hstep₁⟩ := Xs.invokevirtual F.1 F.2.2.2.2.2.2.1 (mTb_use X.2.2.2.2.1 g1) h1 h2 hstM hkP hkPi g5 (a := sg n0 ex a) (cell := cellB) b1 (fun z h => by rw [h] at b2; cases b2) hselP h2 habM hkP hkPi (g := F0 m pc la (st0.map (cv n0 ex))) rfl (argsL := As.map (cv n0 ex)) (rest := st.map (cv n0 ex)) hlen hstk (by rw [F.2.1]; exact hd)
  obtain ⟨t, L, c1, c3, c4, c5, c6, c7, c8⟩ := m_into (mc := mc) (ms := ms) X₁ F.1 X hP hS hsz k0 (g := F0 m pc la (st.map (cv n0 ex))) rfl (hla.trans F.2.2.2.1.symm) (by rw [F.2.1]; exact hd) (m_cats (m := m) (pc := pc) (la := la) st hr3) h1 h2 h3 h4 h5 h6 h7 h8 g7 g8 (Nat.le_trans hr1 hRf) (Nat.le_trans hr2 hRl) hmc hms hRc hRs
  exact ⟨vm₁, mk, t, L, X₁, fun tg hs => hstep₁ tg (fun acts => (c1 acts).trans hs), c3, c4, c5, c6, c7, c8⟩
theorem mSem_tv (hfl : l.flags = pinnedFlags ++ [noTraceFlag]) : mc_tv (mSem l D n0 ex dA S) := by
  intro M pc ls st st0 h h' idx N w1 w2 w3 w4 w5 a ci k fs As hd hf hrm hst har hcw hg hci hhd k1
  have k0 : mEnt l D n0 ex dA S N (.ref a :: As) h (.inr k, h') := by
    rcases k1 with k1 | k1
    · exact mSem.ent k1 hcw
    · exact mSemP.ent (k1.sem hfl) hcw
  have k3 : h.length ≤ h'.length := k0.1
  have k4 : msl h ≤ msl h' := k0.2.1
  refine ⟨k3, k4, fun p e R s m args below meth c H locs la cells slots mc ms sl0 F X hP hS hl hRf hRl hRc hRs g1 g2 g3 g4 => ?_⟩
  have g1' : s.heap.size + cells = n0 + h.length := g1
  have g2' : s.heap.size + mc = n0 + h'.length := g2
  have g3' : msl h = sl0 + slots := g3
  have g4' : msl h' = sl0 + ms := g4
  refine W.sz (fun hz => ?_)
  have hHs : H.size = n0 + h.length := m_size hP hS g1' X.2.2.2.1 hz
  intro T hT Xs
  subst hT
  obtain ⟨vm', mk, t, L, X₁, hgo, hend, hW, hsame, hL, hPt, hFt⟩ := m_stepV (mc := h'.length - h.length) (ms := msl h' - msl h) Xs F X hP hS hHs hl.1 hd hf hrm hst har hg hci hRf hRl k0 (by show h.length + _ = h'.length; omega) (by show msl h + _ = msl h'; omega) (by omega) (by omega)
  obtain ⟨T', X', -, -, ht⟩ := X₁.outOfThrown rfl hend hW hsame
  have hexc : c.exceptionTable.toList = [] := by
    have := F.2.2.2.2.2.2.2
    rw [hhd] at this
    exact List.map_eq_nil_iff.mp this
  obtain ⟨hs1, r1, r2, r3, r4⟩ := X'.leaveThrown (sg n0 ex k) (g := F0 m pc la (st.map (cv n0 ex))) rfl rfl rfl (fun x hx => by rw [hexc] at hx; cases hx) F.2.2.2.2.1
  have hth : t.heap = T'.heap := by rw [ht]; exact throwing_heap T' _ _
  refine ⟨_, hgo _ (by rw [ht]; exact hs1), r1, r2, r3, ⟨locs ++ L, ?_, fun q hq => ?_⟩, by rw [hth] at hPt; exact hPt, ?_⟩
  · have e1 : mc = cells + (h'.length - h.length) := by omega
    have e2 : ms = slots + (msl h' - msl h) := by omega
    rw [e1, e2]
    exact r4
  · rcases List.mem_append.mp hq with hq | hq
    · exact hS.2.2 q hq
    · exact hL q hq
  · obtain ⟨f1, f2⟩ := hFt
    have f1' : T.heap.size ≤ T'.heap.size := by rw [← hth]; exact f1
    refine ⟨Nat.le_trans hS.1 f1', fun q q1 q2 => ?_⟩
    have := f2 q (Nat.lt_of_lt_of_le q1 hS.1) q2
    rw [hth] at this
    exact this.trans (hS.2.1 q q1 q2)
theorem mSem_hs : mc_hs (mSem l D n0 ex dA S) := by
  intro M pc ls st st0 h h' r idx N w1 w2 w3 w4 w5 As v hd hf hrm hst har hcw k1 k
  have k0 : mEnt l D n0 ex dA S N As h (.inl v, h') := mSem.ent k1 hcw
  refine mSem_call k1 k (fun p e R s m args below meth c H locs la cells slots mc ms Q F X hP hS hla hRf hRl g1 g2 g3 g4 g5 kk => ?_)
  refine W.sz (fun hz => ?_)
  have hHs : H.size = n0 + h.length := m_size hP hS g1 X.2.2.2.1 hz
  intro T hT Xs
  subst hT
  obtain ⟨hr1, hr2, hr3, hr5⟩ := hrm
  obtain ⟨l1, l2, l3, l4, l5, l6, l7, l8, l9⟩ := mLnk_spec hf
  rw [if_pos (by decide)] at l1
  rw [if_pos (by decide)] at l2
  obtain ⟨mk, methM, ck, h1, h2, h3, h4, h5, h6, h7, h8, h9⟩ := m_code (A := args) (mTb_use X.2.2.2.2.1 hr5)
  have hstatic : methM.isStatic = true := Cond.static_spec h1 h2 (mTb_use (a := args) X.2.2.2.2.1 l2)
  obtain ⟨kP, hkP, -⟩ := className_of_methodNamed h1
  have hinitP : kP.init = .initialized := Cond.initialized_spec (findClass_of_methodNamed h1) hkP (mTb_use (a := args) X.2.2.2.2.1 l4)
  have hlen : (As.map (cv n0 ex)).length = methM.sig.parameters.length := by
    rw [List.length_map, har]
    exact m_lenn l6 _ h9
  have hstk : (F0 m pc la (st0.map (cv n0 ex))).stack = (As.map (cv n0 ex)).reverse ++ st.map (cv n0 ex) := by
    show st0.map (cv n0 ex) = _
    rw [hst]; simp
  obtain ⟨vm₁, X₁, hstep₁⟩ := Xs.invokestatic F.1 F.2.2.2.2.2.2.1 (mTb_use X.2.2.2.2.1 l1) h1 h2 hstatic hkP hinitP l5 (g := F0 m pc la (st0.map (cv n0 ex))) rfl (argsL := As.map (cv n0 ex)) (rest := st.map (cv n0 ex)) hlen hstk (by rw [F.2.1]; exact hd)
  obtain ⟨t, L, c1, c3, c4, c5, c6, c7, c8⟩ := m_into (mc := mc) (ms := ms) X₁ F.1 X hP hS hHs k0 (g := F0 m pc la (st.map (cv n0 ex))) rfl (hla.trans F.2.2.2.1.symm) (by rw [F.2.1]; exact hd) (m_cats (m := m) (pc := pc) (la := la) st hr3) h1 h2 h3 h4 h5 h6 h7 h8 l7 l8 (Nat.le_trans hr1 hRf) (Nat.le_trans hr2 hRl) g2 g3 g4 g5
  obtain ⟨T', X', -, -, ht⟩ := X₁.outOf (g := F0 m pc la (st.map (cv n0 ex))) rfl (by rw [F.2.1]; exact hd) c3 c4 c5
  have hth : t.heap = T'.heap := by rw [ht]; rfl
  obtain ⟨f1, f2⟩ := c8
  obtain ⟨tg, a1, b1⟩ := kk T'.heap (locs ++ L) (by rw [← hth]; exact c7) ⟨by rw [← hth]; exact Nat.le_trans hS.1 f1, fun q q1 q2 => by
      rw [← hth]
      exact (f2 q (Nat.lt_of_lt_of_le q1 hS.1) q2).trans (hS.2.1 q q1 q2), fun q hq => by
      rcases List.mem_append.mp hq with hq | hq
      · exact hS.2.2 q hq
      · exact c6 q hq⟩ T' rfl X'
  refine ⟨tg, hstep₁ tg (fun acts => (c1 acts).trans ?_), b1⟩
  rw [ht]
  cases v <;> exact a1
theorem mxc_k13 : Cond.classLink "MeshWalkLaw" 13 "java/lang/IllegalArgumentException" ∈ mTbl := mIs.mem (i := 359) (by decide +kernel)
theorem mxc_k15 : Cond.classLink "MeshWalkLaw" 15 "java/lang/IllegalStateException" ∈ mTbl := mIs.mem (i := 360) (by decide +kernel)
theorem mxc_k27 : Cond.classLink "MeshWalkLaw" 27 "java/lang/IndexOutOfBoundsException" ∈ mTbl := mIs.mem (i := 710) (by decide +kernel)
theorem mxc_c10 : Cond.castable "java/lang/IllegalArgumentException" "java/lang/IllegalArgumentException" ∈ mTbl := mIs.mem (i := 373) (by decide +kernel)
theorem mxc_c11 : Cond.castable "java/lang/IllegalStateException" "java/lang/IllegalStateException" ∈ mTbl := mIs.mem (i := 441) (by decide +kernel)
theorem mxc_c12 : Cond.castable "java/lang/IndexOutOfBoundsException" "java/lang/IndexOutOfBoundsException" ∈ mTbl := mIs.mem (i := 721) (by decide +kernel)
theorem mct_spec {ct : Nat} (h : ct = 13 ∨ ct = 15 ∨ ct = 27) : ∃ C, mcl[mCatch ct]? = some (C, mT10, 0) ∧ Cond.classLink "MeshWalkLaw" ct C ∈ mTbl ∧ Cond.castable C C ∈ mTbl := by
  rcases h with rfl | rfl | rfl
  · exact ⟨_, mcl_10, mxc_k13, mxc_c10⟩
  · exact ⟨_, mcl_11, mxc_k15, mxc_c11⟩
  · exact ⟨_, mcl_12, mxc_k27, mxc_c12⟩
/-- the search through the handlers, the classes looked up on the way -/
theorem fh_go {e : Env} {s : State} (hadm : e.platform.magicAccessors = ({} : Platform).magicAccessors) (X : mCx D n0 ex dA S s) {f : JFrame} {x : Addr} {cell : Cell} {cx hp : Nat} (hown : s.vm.findClass "MeshWalkLaw" = some f.method.cls) {C : String} (hcx : mcl[cx]? = some (C, mT10, 0)) (hcc : s.vm.findClass C = some cell.cls) (hobj : ∀ k, cell.vm ≠ .statics k) :
    ∀ (tl : List ExceptionTableEntry) (U : State), s.WarmedH U.vm → U.heap[x]? = some cell → (∀ q ∈ tl.map (fun h => (h.startPc, h.endPc, h.handlerPc, h.catchType)), q.2.2.2 = 13 ∨ q.2.2.2 = 15 ∨ q.2.2.2 = 27) → mfind (tl.map (fun h => (h.startPc, h.endPc, h.handlerPc, h.catchType))) f.pc cx = some hp →
      ∃ vm', s.WarmedH vm' ∧ ∀ (Q : Handler → Pre) (E : CtlPost) (d : Bool) (acts : List Action), wp (findHandler.go f x tl) Q E e d acts U ↔ Q (.found hp) d acts (U.setVm vm') := by
  intro tl
  induction tl with
  | nil => intro U _ _ _ h; cases h
  | cons y t ih =>
    intro U hW hcell hall hm
    simp only [List.map_cons, mfind] at hm
    by_cases hcov : y.startPc ≤ f.pc ∧ f.pc < y.endPc
    · rw [if_pos hcov] at hm
      have hct : y.catchType = 13 ∨ y.catchType = 15 ∨ y.catchType = 27 := hall _ List.mem_cons_self
      have hcv : covers y f.pc = true := by simp [covers, hcov.1, hcov.2]
      have h0 : y.catchType ≠ 0 := by rcases hct with h | h | h <;> rw [h] <;> decide
      obtain ⟨Ct, hcl, hlk, hcst⟩ := mct_spec hct
      obtain ⟨cC, hfcc, hlinks⟩ := Cond.classLink_spec hown (mTb_use (a := #[]) X.2.2.2.2.1 hlk) e.platform hadm
      obtain ⟨hg₁, hwarm₁, hready₁⟩ := State.classEntry (e := e) hW hlinks
      generalize U.vm.noted f.method.cls y.catchType (.cls cC) = vm₁ at hg₁ hwarm₁ hready₁
      have hal := hwarm₁.alike
      obtain ⟨kx, hkx⟩ := Vm.classAt_of_findClass hcc
      obtain ⟨kc, hkc⟩ := Vm.classAt_of_findClass hfcc
      obtain ⟨kx', hkx', -⟩ := hal.2.2 _ _ hkx
      obtain ⟨kc', hkc', -⟩ := hal.2.2 _ _ hkc
      have hsz : vm₁.classes.size ≤ U.vm.classes.size := by
        have h1 := hal.2.1
        have h2 := hW.alike.2.1
        omega
      have key := fun (Q : Handler → Pre) (E : CtlPost) (d : Bool) (acts : List Action) => fh_cold (E := E) (e := e) (d := d) (acts := acts) (Q := Q) (f := f) (a := x) (t := t) hcv h0 hg₁ hsz hcell hobj ⟨kx', hkx'⟩ ⟨kc', hkc'⟩
      have hasg : vm₁.assignable cell.cls cC = s.vm.assignable cell.cls cC := hal.assignable _ _
      by_cases heq : mCatch y.catchType = cx
      · rw [if_pos heq] at hm
        cases hm
        refine ⟨vm₁, hwarm₁, fun Q E d acts => ?_⟩
        have hC : C = Ct := by
          rw [heq] at hcl
          have := hcx.symm.trans hcl
          simp only [Option.some.injEq, Prod.mk.injEq] at this
          exact this.1
        subst hC
        obtain ⟨c1, c2, q1, q2, q3⟩ := Cond.castable_spec (mTb_use (a := #[]) X.2.2.2.2.1 hcst)
        cases hcc.symm.trans q1
        cases hfcc.symm.trans q2
        rw [key Q E d acts, if_pos (by rw [hasg]; exact q3)]
      · rw [if_neg heq] at hm
        by_cases hsp : cx = 11 ∧ y.catchType = 13
        · rw [if_pos hsp] at hm
          obtain ⟨vm', hW', hres⟩ := ih (U.setVm vm₁) hwarm₁ hcell (fun q hq => hall q (List.mem_cons_of_mem _ hq)) hm
          have hno : s.vm.assignable cell.cls cC = false := by
            have hcn := X.2.2.2.2.2.2.2
            obtain ⟨rfl, h13⟩ := hsp
            rw [h13] at hcl
            have e1 : C = "java/lang/IllegalStateException" := by
              have := hcx.symm.trans mcl_11
              simp only [Option.some.injEq, Prod.mk.injEq] at this
              exact this.1
            have e2 : Ct = "java/lang/IllegalArgumentException" := by
              have := hcl.symm.trans mcl_10
              simp only [Option.some.injEq, Prod.mk.injEq] at this
              exact this.1
            subst e1; subst e2
            cases ha : s.vm.assignable cell.cls cC with
            | false => rfl
            | true => simp [Cond.before, Cond.holds, Cond.value, hcc, hfcc, ha] at hcn
          refine ⟨vm', hW', fun Q E d acts => ?_⟩
          rw [key Q E d acts, if_neg (by rw [hasg, hno]; decide), hres Q E d acts]
          rfl
        · rw [if_neg hsp] at hm; cases hm
    · rw [if_neg hcov] at hm
      obtain ⟨vm', hW', hres⟩ := ih U hW hcell (fun q hq => hall q (List.mem_cons_of_mem _ hq)) hm
      refine ⟨vm', hW', fun Q E d acts => ?_⟩
      have hcv : covers y f.pc = false := by
        simp only [covers, Bool.and_eq_false_iff, decide_eq_false_iff_not]
        by_cases h1 : y.startPc ≤ f.pc
        · exact Or.inr (fun h2 => hcov ⟨h1, h2⟩)
        · exact Or.inl h1
      rw [Jvm.W.findHandler_go_skip hcv]
      exact hres Q E d acts
theorem mSem_tc (hfl : l.flags = pinnedFlags ++ [noTraceFlag]) : mc_tc (mSem l D n0 ex dA S) := by
  intro M pc ls st st0 h h' r idx N w1 w2 w3 w4 w5 a ci k cx hp fs As hd hf hrm hst har hcw hg hci hM hgx hcx hall hfd k1 kq
  have k0 : mEnt l D n0 ex dA S N (.ref a :: As) h (.inr k, h') := by
    rcases k1 with k1 | k1
    · exact mSem.ent k1 hcw
    · exact mSemP.ent (k1.sem hfl) hcw
  have k3 : h.length ≤ h'.length := k0.1
  have k4 : msl h ≤ msl h' := k0.2.1
  have k5 : h'.length ≤ r.2.length := kq.1
  have k6 : msl h' ≤ msl r.2 := kq.2.1
  refine ⟨Nat.le_trans k3 k5, Nat.le_trans k4 k6, fun p e R s m args below meth c H locs la cells slots mc ms sl0 F X hP hS hl hRf hRl hRc hRs g1 g2 g3 g4 => ?_⟩
  have g1' : s.heap.size + cells = n0 + h.length := g1
  have g3' : msl h = sl0 + slots := g3
  refine W.sz (fun hz => ?_)
  have hHs : H.size = n0 + h.length := m_size hP hS g1' X.2.2.2.1 hz
  intro T hT Xs
  subst hT
  obtain ⟨vm', mk, t, L, X₁, hgo, hend, hW, hsame, hL, hPt, hFt⟩ := m_stepV (mc := h'.length - h.length) (ms := msl h' - msl h) Xs F X hP hS hHs hl.1 hd hf hrm hst har hg hci hRf hRl k0 (by show h.length + _ = h'.length; omega) (by show msl h + _ = msl h'; omega) (by omega) (by omega)
  obtain ⟨T', X', -, -, ht⟩ := X₁.outOfThrown rfl hend hW hsame
  have hth : t.heap = T'.heap := by rw [ht]; exact throwing_heap T' _ _
  have hPT : va_P D mcl (mws n0 ex dA h' 0) T'.heap := by rw [← hth]; exact hPt
  obtain ⟨C, hcl⟩ : ∃ C, mcl[cx]? = some (C, mT10, 0) := by
    rcases hcx with rfl | rfl | rfl
    · exact ⟨_, mcl_10⟩
    · exact ⟨_, mcl_11⟩
    · exact ⟨_, mcl_12⟩
  obtain ⟨cell, b1, b2, b3⟩ := va_recv X.1 hPT hcl (mws_at hgx)
  have hownS : s.vm.findClass "MeshWalkLaw" = some (F0 m pc la (st.map (cv n0 ex))).method.cls := by
    have := F.2.2.2.2.2.2.1
    rw [hM] at this
    exact this
  have hpl : e.platform.magicAccessors = ({} : Platform).magicAccessors := by rw [Xs.admits.platform]
  obtain ⟨vm2, hW2, hfind⟩ := fh_go hpl X (f := F0 m pc la (st.map (cv n0 ex))) (x := sg n0 ex k) (cell := cell) (hp := hp) hownS hcl b3 (fun z hz => by rw [hz] at b2; cases b2) c.exceptionTable.toList ((T'.setTop (F0 m pc la (st.map (cv n0 ex)))).pushFrame (.throwing (sg n0 ex k))) (by rw [throwing_vm]; exact X'.warmed) (by rw [throwing_heap]; exact b1) (by rw [F.2.2.2.2.2.2.2]; exact hall) (by rw [F.2.2.2.2.2.2.2]; exact hfd)
  have hfind' : ∀ (Q : Handler → Pre) (E : CtlPost) (d : Bool) (acts : List Action), wp (findHandler (F0 m pc la (st.map (cv n0 ex))) (sg n0 ex k)) Q E e d acts ((T'.setTop (F0 m pc la (st.map (cv n0 ex)))).pushFrame (.throwing (sg n0 ex k))) ↔ Q (.found hp) d acts (((T'.setTop (F0 m pc la (st.map (cv n0 ex)))).pushFrame (.throwing (sg n0 ex k))).setVm vm2) := fun Q E d acts => by
    rw [Jvm.W.findHandler_eq (meth := meth) (code := c) (by rw [throwing_vm]; exact X'.method') X'.code]
    exact hfind Q E d acts
  have hS' : va_S (mA n0) s.heap T'.heap (locs ++ L) := by
    obtain ⟨f1, f2⟩ := hFt
    refine ⟨by rw [← hth]; exact Nat.le_trans hS.1 f1, fun q q1 q2 => ?_, fun q hq => ?_⟩
    · rw [← hth]
      exact (f2 q (Nat.lt_of_lt_of_le q1 hS.1) q2).trans (hS.2.1 q q1 q2)
    · rcases List.mem_append.mp hq with hq | hq
      · exact hS.2.2 q hq
      · exact hL q hq
  obtain ⟨tg, a1, b1'⟩ := kq.2.2 p e R s m args below meth c T'.heap (locs ++ L) la (cells + (h'.length - h.length)) (slots + (msl h' - msl h)) mc ms sl0 F X hPT hS' hl hRf hRl hRc hRs (by show _ = n0 + h'.length; omega) g2 (by show msl h' = _; omega) g4 (T'.setVm vm2) rfl (X'.noted hW2)
  refine ⟨tg, hgo _ ?_, b1'⟩
  rw [ht]
  exact st_caught X'.here hfind' a1
end XSound
