/-! THE CLAIM OUT OF ONE WALK OF THE LAW'S BODY. Your part is whole_start (and what it stands on); all else here is the same for every law, but numbers. -/
def R_law : String := "MeshWalkLaw"
def lw_P (b : Addr) (xs : List Int32) (args : Array Value) (s : State) : Prop := args = #[.ref b] ∧ s.IntsAt b xs ∧ xs.length ≤ 2560 ∧ (Jvm.Cond.and given_1 narrow_1).before args s = true
def lw_Q (_ : Array Value) (s : State) (o : Outcome) (t : State) : Prop := o = .returned (some (.int 1)) ∧ Framed s o t [] 1068 17378
def lw_Z (below : List Frame) (a : Array Value) (s : State) : State → Prop := fun t => ∃ o, t.status = .running ∧ Ended t below o ∧ lw_Q a s o t
/-- the law's own end, with 1 on the stack, nothing written that was there before, its room as the claim has it -/
theorem lw_ret {p : Program} {l : Launch} {e : Env} {s : State} {m : MethodId} {below : List Frame} {meth : Method} {c : Code} {b : Nat} (hx : p.tables.exec = Jvm.exec) (hb : c.code = code) (hr : meth.sig.returnType = ret) (hlocks : meth.locks = false) {pc : Nat} {H : Heap} {ls : Array Slot} (hdg : decode code pc = .ok (.ireturn, 1)) : W p l e room_1 s m #[Value.ref b] below meth c H [] 1068 17378 (lw_Z below #[Value.ref b] s) (F0 m pc ls [.int 1]) := by
  intro T hT X
  obtain ⟨fs, hret, hrun, hended, hW, hframe⟩ := X.leave (v := some (.int 1)) (hlocks := hlocks) (fun h => by rw [hr] at h; cases h)
  have hmeth' : T.vm.method? m = some meth := X.method'
  refine ⟨T.setFrames fs, ?_, .returned (some (.int 1)), hrun, hended, rfl, ⟨_, rfl⟩, hW, hframe⟩
  jvm_step X.here [X.here.top, hx, hb, hdg, hmeth', hr, ret, narrow_b1]
  (try refine ⟨rfl, ?_⟩); (try refine ⟨rfl, ?_⟩)
  first | (intro acts; rw [hret _ acts rfl rfl rfl]) | rw [hret _ _ rfl rfl rfl]
  exact Steps.refl _
/-- what holds at the law's entry: the machine, the code, the tables' words (any of lw_tbl by 'hts w (by decide +kernel)'), the script of L ints xs at the cell b, what the Statement gives of the start (any of its parts by flat_of_before) -/
def lw_At (p : Program) (s : State) (m : MethodId) (meth : Method) (c : Code) (b L : Nat) (xs : Nat → Int32) : Prop :=
  p.tables.exec = Jvm.exec ∧ c.code = code ∧ meth.sig.returnType = ret ∧ c.maxLocals = 7 ∧ s.vm.findClass R_law = some m.cls ∧ (∀ w ∈ lw_tbl, w.before #[Value.ref b] s = true) ∧ va_X b L xs s s.heap ∧ b < s.heap.size ∧ meth.locks = false ∧ (Jvm.Cond.and given_1 narrow_1).before #[Value.ref b] s = true
/-! from a Run of the law to the law's walk -/
theorem m_tb {s : State} {A : Array Value} (hts : ∀ w ∈ lw_tbl, w.before A s = true) : mTb s := by
  intro w hw
  have g : mGood w = true := (List.mem_filter.mp hw).2
  have hb := hts w (List.mem_filter.mp hw).1
  unfold mGood at g
  by_cases hg : goodWord w = true
  · exact word_at (State.WarmedH.refl s) (good_of_word hg) hb
  · cases w with
    | fieldLinkNest a i b n d h => exact va_Nw.of rfl hb
    | methodLinkNest a i x h => exact va_Nw.of rfl hb
    | castable a b => exact va_Nw.of rfl hb
    | declares x => exact va_Nw.of rfl hb
    | _ => simp [hg] at g
theorem m_inst {ci : Nat} {C : String} {T : u_T} {N : Nat} (h : mcl[ci]? = some (C, T, N)) : ∃ n, Cond.instantiable C n ∈ mTbl := by
  match ci, h with
  | 0, h => cases h; exact ⟨4, mIs.mem (i := 209) (by decide +kernel)⟩
  | 1, h => cases h; exact ⟨8, mIs.mem (i := 203) (by decide +kernel)⟩
  | 2, h => cases h; exact ⟨5, mIs.mem (i := 175) (by decide +kernel)⟩
  | 3, h => cases h; exact ⟨3, mIs.mem (i := 121) (by decide +kernel)⟩
  | 4, h => cases h; exact ⟨9, mIs.mem (i := 138) (by decide +kernel)⟩
  | 5, h => cases h; exact ⟨4, mIs.mem (i := 85) (by decide +kernel)⟩
  | 6, h => cases h; exact ⟨7, mIs.mem (i := 197) (by decide +kernel)⟩
  | 7, h => cases h; exact ⟨3, mIs.mem (i := 91) (by decide +kernel)⟩
  | 8, h => cases h; exact ⟨5, mIs.mem (i := 77) (by decide +kernel)⟩
  | 9, h => cases h; exact ⟨18, mIs.mem (i := 887) (by decide +kernel)⟩
  | 10, h => cases h; exact ⟨6, mIs.mem (i := 372) (by decide +kernel)⟩
  | 11, h => cases h; exact ⟨6, mIs.mem (i := 440) (by decide +kernel)⟩
  | 12, h => cases h; exact ⟨6, mIs.mem (i := 720) (by decide +kernel)⟩
  | n + 13, h => simp [mcl] at h
theorem m_cls {s : State} (hT : mTb s) : ∃ D : va_G, ∀ (c : Nat) (q : vw_C), mcl[c]? = some q → u_Kn s q.1 q.2.1 q.2.2 (D.1 c) (D.2 c) := by
  have key : ∀ c : Nat, ∃ z : ClassId × (Nat → Nat), ∀ q : vw_C, mcl[c]? = some q → u_Kn s q.1 q.2.1 q.2.2 z.1 z.2 := by
    intro c
    cases hq : mcl[c]? with
    | none => exact ⟨((0 : Nat), fun _ => 0), fun q h => by cases h⟩
    | some q =>
      obtain ⟨C, T, N⟩ := q
      obtain ⟨n, hi⟩ := m_inst hq
      obtain ⟨cC, iS, h⟩ := u_known (args := #[]) hT (m_lay hq) (mTb_use hT hi)
      exact ⟨(cC, iS), fun q' h' => by cases h'; exact h⟩
  exact ⟨(fun c => (Classical.choose (key c)).1, fun c => (Classical.choose (key c)).2), fun c q h => Classical.choose_spec (key c) q h⟩
theorem m_arrI {s : State} (hT : mTb s) : ∃ cA : ClassId, ArrOfT s cA .int ∧ va_RA s cA .int := by
  obtain ⟨cA, kA, comp, h1, h2, h3⟩ := Cond.arrayClass_spec (mTb_use (a := #[]) hT marr1)
  exact ⟨cA, fun n z => ⟨fun k h => (by cases h), kA, h2, comp, h3⟩, h1⟩
theorem m_arrJ {s : State} (hT : mTb s) : ∃ cA : ClassId, ArrOfT s cA .long ∧ va_RA s cA .long := by
  obtain ⟨cA, kA, comp, h1, h2, h3⟩ := Cond.arrayClass_spec (mTb_use (a := #[]) hT marr2)
  exact ⟨cA, fun n z => ⟨fun k h => (by cases h), kA, h2, comp, h3⟩, h1⟩
theorem m_arrZ {s : State} (hT : mTb s) : ∃ cA : ClassId, ArrOfT s cA .boolean ∧ va_RA s cA .boolean := by
  obtain ⟨cA, kA, comp, h1, h2, h3⟩ := Cond.arrayClass_spec (mTb_use (a := #[]) hT marr3)
  exact ⟨cA, fun n z => ⟨fun k h => (by cases h), kA, h2, comp, h3⟩, h1⟩
theorem m_st1 {A : Array Value} {s : State} {n d : String} (h1 : (Cond.laysStatic "java/lang/Throwable" n d).before A s = true) (h2 : (Cond.isRef (.static "java/lang/Throwable" n d)).before A s = true) : ∃ c k i f a cell v, s.vm.findClass "java/lang/Throwable" = some c ∧ s.fieldFound? "java/lang/Throwable" n d = some (c, k, i, f) ∧ f.isStatic = true ∧ k.statics = some a ∧ a < s.heap.size ∧ s.heap[a]? = some cell ∧ cell.vm.isStatics = true ∧ cell.cls = c ∧ f.slot < cell.slots.size ∧ k.staticTypes[f.slot]? = some f.type ∧ cell.slots[f.slot]? = some v ∧ v.isRef = true := by
  simp only [Cond.before, Cond.holds, Cond.value] at h1 h2
  cases hc : s.vm.findClass "java/lang/Throwable" with
  | none => simp [hc] at h1
  | some c =>
    cases hf : s.fieldFound? "java/lang/Throwable" n d with
    | none => simp [hc, hf] at h1
    | some x =>
      obtain ⟨c', k, i, f⟩ := x
      cases hs : k.statics with
      | none => simp [hc, hf, hs] at h1
      | some a =>
        cases hh : s.heap[a]? with
        | none => simp [hc, hf, hs, hh] at h1
        | some cell =>
          simp [hc, hf, hs, hh] at h1
          obtain ⟨⟨⟨⟨⟨p1, p2⟩, p3⟩, p4⟩, p5⟩, p6⟩ := h1
          subst p2
          have hv : cell.slots[f.slot]? = some cell.slots[f.slot] := Array.getElem?_eq_getElem p5
          refine ⟨c, k, i, f, a, cell, cell.slots[f.slot], rfl, rfl, p1, hs, (Array.getElem?_eq_some_iff.mp hh).1, hh, p3, p4, p5, p6, hv, ?_⟩
          simp [Term.eval, State.fieldNamed?, hf, p1, hs, hh, p3, hv] at h2
          generalize cell.slots[f.slot] = v at h2
          cases v <;> simp [Value.isRef] at h2 ⊢
theorem m_str1 {A : Array Value} {s : State} {k : Nat} (h2 : (Cond.exactly (.string "MeshWalk" k) "java/lang/String").before A s = true) : ∃ a, (Term.string "MeshWalk" k).eval A s none [] s = some (.ref a) := by
  simp only [Cond.before, Cond.holds, Cond.value] at h2
  cases ht : (Term.string "MeshWalk" k).eval A s none [] s with
  | none => simp [ht] at h2
  | some v =>
    cases v with
    | ref a => exact ⟨a, rfl⟩
    | _ => cases hc : s.vm.findClass "java/lang/String" <;> simp [ht, hc] at h2
theorem m_cast {A : Array Value} {s : State} {X Y : String} (h : (Cond.not (.castable X Y)).before A s = true) : (Cond.castable X Y).before #[] s = false := by
  cases hz : (Cond.castable X Y).before #[] s with
  | false => rfl
  | true =>
    have h3 : (Cond.castable X Y).before A s = true := va_tabs rfl rfl hz
    simp only [Cond.before, Cond.holds] at h3
    simp only [Cond.before, Cond.holds] at h
    rw [show (Cond.not (.castable X Y)).value A s none s [] = ((Cond.castable X Y).value A s none s []).map (!·) from by simp only [Cond.value]] at h
    generalize (Cond.castable X Y).value A s none s [] = z at h h3
    cases z with
    | none => simp at h
    | some b => cases b <;> simp at h h3
theorem m_start {p : Program} {e : Env} {s : State} {m : MethodId} {below : List Frame} {meth : Method} {c : Code} (l : Launch) (hfl : l.flags = pinnedFlags ++ [noTraceFlag]) {b L : Nat} {xs : Nat → Int32} (C0 : lw_At p s m meth c b L xs) (hnm : meth.name = "law") (hxt : c.exceptionTable.toList.map (fun h => (h.startPc, h.endPc, h.handlerPc, h.catchType)) = []) {h' : mHp} (k : Run (L, xs) 171 (0, [(0, .ref 0)], [], []) (.inl (some (.int 1)), h')) (hc : h'.length ≤ 1068) (hs : msl h' ≤ 17378) : W p l e room_1 s m #[Value.ref b] below meth c s.heap [] 0 0 (lw_Z below #[Value.ref b] s) (entryFrame m ([Value.ref b] : List Value).toArray 7) := by
  obtain ⟨hx, hb, hr, hml, hown, hts, hX, hbl, hlk, hgv⟩ := C0
  have hT : mTb s := m_tb hts
  have hfl0 := flat_of_before _ hgv
  obtain ⟨D, hD⟩ := m_cls hT
  obtain ⟨cI, i1, i2⟩ := m_arrI hT
  obtain ⟨cJ, j1, j2⟩ := m_arrJ hT
  obtain ⟨cZ, z1, z2⟩ := m_arrZ hT
  have hSt : mSt s.heap.size s := by
    intro q hq
    simp only [mStatT, List.mem_cons, List.not_mem_nil, or_false] at hq
    rcases hq with rfl | rfl
    · exact m_st1 (hts (.laysStatic "java/lang/Throwable" "UNASSIGNED_STACK" "[Ljava/lang/StackTraceElement;") (by decide +kernel)) (hfl0 _ (by decide +kernel))
    · exact m_st1 (hts (.laysStatic "java/lang/Throwable" "SUPPRESSED_SENTINEL" "Ljava/util/List;") (by decide +kernel)) (hfl0 _ (by decide +kernel))
  obtain ⟨a1, t1⟩ := m_str1 (hfl0 (.exactly (.string "MeshWalk" 168) "java/lang/String") (by decide +kernel))
  obtain ⟨a2, t2⟩ := m_str1 (hfl0 (.exactly (.string "MeshWalk" 60) "java/lang/String") (by decide +kernel))
  obtain ⟨a3, t3⟩ := m_str1 (hfl0 (.exactly (.string "MeshWalk" 170) "java/lang/String") (by decide +kernel))
  obtain ⟨a4, t4⟩ := m_str1 (hfl0 (.exactly (.string "MeshWalk" 172) "java/lang/String") (by decide +kernel))
  obtain ⟨a5, t5⟩ := m_str1 (hfl0 (.exactly (.string "MeshWalk" 176) "java/lang/String") (by decide +kernel))
  obtain ⟨a6, t6⟩ := m_str1 (hfl0 (.exactly (.string "MeshWalk" 144) "java/lang/String") (by decide +kernel))
  have X : mCx D s.heap.size (fun j => [b, a1, a2, a3, a4, a5, a6].getD j 0) (fun ty => match ty with | .int => cI | .long => cJ | _ => cZ) (L, xs) s := by
    refine ⟨⟨hD, ?_⟩, hX, hbl, Nat.le_refl _, hT, hSt, ?_, m_cast (hfl0 (.not (.castable "java/lang/IllegalStateException" "java/lang/IllegalArgumentException")) (by decide +kernel))⟩
    · intro k q hq
      match k, hq with
      | 0, h => cases h; exact ⟨i1, i2⟩
      | 1, h => cases h; exact ⟨j1, j2⟩
      | 2, h => cases h; exact ⟨z1, z2⟩
      | n + 3, h => simp [mtys] at h
    · intro q hq
      simp only [mStrT, List.mem_cons, List.not_mem_nil, or_false] at hq
      rcases hq with rfl | rfl | rfl | rfl | rfl | rfl
      · exact vk_R.of (hts _ (by decide +kernel)) t1
      · exact vk_R.of (hts _ (by decide +kernel)) t2
      · exact vk_R.of (hts _ (by decide +kernel)) t3
      · exact vk_R.of (hts _ (by decide +kernel)) t4
      · exact vk_R.of (hts _ (by decide +kernel)) t5
      · exact vk_R.of (hts _ (by decide +kernel)) t6
  have F : mFix 171 p s m meth c := ⟨hx, hb, hr, hml, hlk, hnm, hown, hxt⟩
  have hl := lv_entry ([Value.ref b]) (n := 7) (Nat.le_of_ble_eq_true rfl)
  have K := (Run.sem (l := l) (D := D) (n0 := s.heap.size) (ex := fun j => [b, a1, a2, a3, a4, a5, a6].getD j 0) (dA := fun ty => match ty with | .int => cI | .long => cJ | _ => cZ) hfl k).2.2 p e room_1 s m #[Value.ref b] below meth c s.heap [] _ 0 0 h'.length (msl h') 0 F X (fun k q hq => by simp [mws] at hq) va_S.rf hl (by decide) (by decide) hc hs rfl rfl rfl (by simp)
  rw [lg_entry_eq]
  refine W.mono (fun t ht => ?_) K
  obtain ⟨q1, q2, q3, ⟨Lc, q4, q5⟩, q6, q7⟩ := ht
  exact ⟨_, q1, q2, rfl, ⟨_, rfl⟩, q3, (State.sameButNew.drop_fresh (L := []) (J := Lc) q4 q5).mono hc hs⟩
