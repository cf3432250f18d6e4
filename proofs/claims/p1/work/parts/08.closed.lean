section Closed
variable {l : Launch} {D : va_G} {n0 : Nat} {ex : Nat → Nat} {dA : FieldType → ClassId} {S : mE}
/-- a step that leaves the heap -/
theorem mSem_step {M pc pc' : Nat} {ls ls' : mL} {st st' : List Value} {h : mHp} {r : mR} (k : mSem l D n0 ex dA S M (pc', ls', st', h) r)
    (hs : ∀ (p : Program) (e : Env) (R : Room) (s : State) (m : MethodId) (args : Array Value) (below : List Frame) (meth : Method) (c : Code) (H : Heap) (locs : List Loc) (la : Array Slot) (cells slots : Nat) (Q : State → Prop), mFix M p s m meth c → mCx D n0 ex dA S s → va_P D mcl (mws n0 ex dA h 0) H → va_S (mA n0) s.heap H locs → lv_has la (mMaxL M) (ls.map (cvp n0 ex)) → mFr M ≤ R.frames → mLo M ≤ R.locals →
      (∀ la' : Array Slot, lv_has la' (mMaxL M) (ls'.map (cvp n0 ex)) → W p l e R s m args below meth c H locs cells slots Q (F0 m pc' la' (st'.map (cv n0 ex)))) → W p l e R s m args below meth c H locs cells slots Q (F0 m pc la (st.map (cv n0 ex)))) : mSem l D n0 ex dA S M (pc, ls, st, h) r := by
  refine ⟨k.1, k.2.1, fun p e R s m args below meth c H locs la cells slots mc ms sl0 F X hP hS hl hRf hRl hRc hRs h1 h2 h3 h4 => ?_⟩
  exact hs p e R s m args below meth c H locs la cells slots _ F X hP hS hl hRf hRl (fun la' hl' => k.2.2 p e R s m args below meth c H locs la' cells slots mc ms sl0 F X hP hS hl' hRf hRl hRc hRs h1 h2 h3 h4)
/-- a step that writes one cell -/
theorem mSem_write {M pc pc' : Nat} {ls : mL} {st st' : List Value} {h h1 : mHp} {r : mR} (k : mSem l D n0 ex dA S M (pc', ls, st', h1) r) (hlen : h1.length = h.length) (hsl : msl h1 = msl h)
    (hs : ∀ (p : Program) (e : Env) (R : Room) (s : State) (m : MethodId) (args : Array Value) (below : List Frame) (meth : Method) (c : Code) (H : Heap) (locs : List Loc) (la : Array Slot) (cells slots : Nat) (Q : State → Prop), mFix M p s m meth c → mCx D n0 ex dA S s → va_P D mcl (mws n0 ex dA h 0) H → va_S (mA n0) s.heap H locs → 
      (∀ (H1 : Heap) (locs1 : List Loc), va_P D mcl (mws n0 ex dA h1 0) H1 → va_S (mA n0) s.heap H1 locs1 → W p l e R s m args below meth c H1 locs1 cells slots Q (F0 m pc' la (st'.map (cv n0 ex)))) → W p l e R s m args below meth c H locs cells slots Q (F0 m pc la (st.map (cv n0 ex)))) : mSem l D n0 ex dA S M (pc, ls, st, h) r := by
  have k1 : h1.length ≤ r.2.length := k.1
  have k2 : msl h1 ≤ msl r.2 := k.2.1
  refine ⟨by rw [hlen] at k1; exact k1, by rw [hsl] at k2; exact k2, fun p e R s m args below meth c H locs la cells slots mc ms sl0 F X hP hS hl hRf hRl hRc hRs g1 g2 g3 g4 => ?_⟩
  exact hs p e R s m args below meth c H locs la cells slots _ F X hP hS (fun H1 locs1 hP1 hS1 => k.2.2 p e R s m args below meth c H1 locs1 la cells slots mc ms sl0 F X hP1 hS1 hl hRf hRl hRc hRs (by show _ = n0 + h1.length; rw [hlen]; exact g1) g2 (by show msl h1 = _; rw [hsl]; exact g3) g4)
/-- a step that makes one cell -/
theorem mSem_make {M pc pc' : Nat} {ls : mL} {st st' : List Value} {h : mHp} {x : mC} {r : mR} (k : mSem l D n0 ex dA S M (pc', ls, st', h ++ [x]) r)
    (hs : ∀ (p : Program) (e : Env) (R : Room) (s : State) (m : MethodId) (args : Array Value) (below : List Frame) (meth : Method) (c : Code) (H : Heap) (locs : List Loc) (la : Array Slot) (cells slots : Nat) (Q : State → Prop), mFix M p s m meth c → mCx D n0 ex dA S s → va_P D mcl (mws n0 ex dA h 0) H → va_S (mA n0) s.heap H locs → s.heap.size + cells = n0 + h.length → cells + 1 ≤ R.cells → slots + mslot x ≤ R.slots →
      (∀ H1 : Heap, va_P D mcl (mws n0 ex dA (h ++ [x]) 0) H1 → va_S (mA n0) s.heap H1 locs → W p l e R s m args below meth c H1 locs (cells + 1) (slots + mslot x) Q (F0 m pc' la (st'.map (cv n0 ex)))) → W p l e R s m args below meth c H locs cells slots Q (F0 m pc la (st.map (cv n0 ex)))) : mSem l D n0 ex dA S M (pc, ls, st, h) r := by
  have k1 : (h ++ [x]).length ≤ r.2.length := k.1
  have k2 : msl (h ++ [x]) ≤ msl r.2 := k.2.1
  rw [msl_app] at k2
  rw [List.length_append, List.length_singleton] at k1
  refine ⟨by show h.length ≤ _; omega, by show msl h ≤ _; omega, fun p e R s m args below meth c H locs la cells slots mc ms sl0 F X hP hS hl hRf hRl hRc hRs g1 g2 g3 g4 => ?_⟩
  have g1' : s.heap.size + cells = n0 + h.length := g1
  have g3' : msl h = sl0 + slots := g3
  exact hs p e R s m args below meth c H locs la cells slots _ F X hP hS g1' (by omega) (by omega) (fun H1 hP1 hS1 => k.2.2 p e R s m args below meth c H1 locs la (cells + 1) (slots + mslot x) mc ms sl0 F X hP1 hS1 hl hRf hRl hRc hRs (by show _ = n0 + (h ++ [x]).length; rw [List.length_append, List.length_singleton]; omega) g2 (by show msl (h ++ [x]) = _; rw [msl_app]; omega) g4)
theorem mSem_ret {M pc : Nat} {ls : mL} {st : List Value} {h : mHp} {v : Option Value}
    (hs : ∀ (p : Program) (e : Env) (R : Room) (s : State) (m : MethodId) (args : Array Value) (below : List Frame) (meth : Method) (c : Code) (H : Heap) (locs : List Loc) (la : Array Slot) (cells slots : Nat), mFix M p s m meth c → va_P D mcl (mws n0 ex dA h 0) H → va_S (mA n0) s.heap H locs → W p l e R s m args below meth c H locs cells slots (MQ below (mQc D n0 ex dA v h) args s cells slots (mA n0)) (F0 m pc la (st.map (cv n0 ex)))) : mSem l D n0 ex dA S M (pc, ls, st, h) (.inl v, h) := by
  refine ⟨Nat.le_refl _, Nat.le_refl _, fun p e R s m args below meth c H locs la cells slots mc ms sl0 F X hP hS hl hRf hRl hRc hRs g1 g2 g3 g4 => ?_⟩
  have g1' : s.heap.size + cells = n0 + h.length := g1
  have g2' : s.heap.size + mc = n0 + h.length := g2
  have g3' : msl h = sl0 + slots := g3
  have g4' : msl h = sl0 + ms := g4
  have e1 : mc = cells := by omega
  have e2 : ms = slots := by omega
  subst e1; subst e2
  refine W.mono (fun t ht => ?_) (hs p e R s m args below meth c H locs la mc ms F hP hS)
  obtain ⟨o, a1, a2, ⟨rfl, a4, a5⟩, L, ⟨-, a6, a7⟩, a8⟩ := ht
  exact ⟨a1, a2, a6, ⟨L, a7, a8⟩, a4, a5⟩
theorem mSem_call {M N pc : Nat} {ls : mL} {st st0 vs : List Value} {h h' : mHp} {v : Option Value} {r : mR} (k0 : mSem l D n0 ex dA S N (0, lv_args 0 vs, [], h) (.inl v, h')) (k : mSem l D n0 ex dA S M (pc + 3, ls, v.toList ++ st, h') r)
    (hs : ∀ (p : Program) (e : Env) (R : Room) (s : State) (m : MethodId) (args : Array Value) (below : List Frame) (meth : Method) (c : Code) (H : Heap) (locs : List Loc) (la : Array Slot) (cells slots mc ms : Nat) (Q : State → Prop), mFix M p s m meth c → mCx D n0 ex dA S s → va_P D mcl (mws n0 ex dA h 0) H → va_S (mA n0) s.heap H locs → la.size = mMaxL M → mFr M ≤ R.frames → mLo M ≤ R.locals → s.heap.size + cells = n0 + h.length → h.length + mc = h'.length → msl h + ms = msl h' → cells + mc ≤ R.cells → slots + ms ≤ R.slots →
      (∀ (H1 : Heap) (locs1 : List Loc), va_P D mcl (mws n0 ex dA h' 0) H1 → va_S (mA n0) s.heap H1 locs1 → W p l e R s m args below meth c H1 locs1 (cells + mc) (slots + ms) Q (F0 m (pc + 3) la ((v.toList ++ st).map (cv n0 ex)))) → W p l e R s m args below meth c H locs cells slots Q (F0 m pc la (st0.map (cv n0 ex)))) : mSem l D n0 ex dA S M (pc, ls, st0, h) r := by
  have k1 : h'.length ≤ r.2.length := k.1
  have k2 : msl h' ≤ msl r.2 := k.2.1
  have k3 : h.length ≤ h'.length := k0.1
  have k4 : msl h ≤ msl h' := k0.2.1
  refine ⟨Nat.le_trans k3 k1, Nat.le_trans k4 k2, fun p e R s m args below meth c H locs la cells slots mc ms sl0 F X hP hS hl hRf hRl hRc hRs g1 g2 g3 g4 => ?_⟩
  have g1' : s.heap.size + cells = n0 + h.length := g1
  have g3' : msl h = sl0 + slots := g3
  exact hs p e R s m args below meth c H locs la cells slots (h'.length - h.length) (msl h' - msl h) _ F X hP hS hl.1 hRf hRl g1' (by omega) (by omega) (by omega) (by omega) (fun H1 locs1 hP1 hS1 => k.2.2 p e R s m args below meth c H1 locs1 la (cells + (h'.length - h.length)) (slots + (msl h' - msl h)) mc ms sl0 F X hP1 hS1 hl hRf hRl hRc hRs (by show _ = n0 + h'.length; omega) g2 (by show msl h' = _; omega) g4)
set_option maxHeartbeats 4000000 in
theorem mSem_closed : mClosed S (mSem l D n0 ex dA S) := by
  refine ⟨?_, ?_, ?_, ?_, ?_, ?_, ?_, ?_, ?_, ?_, ?_, ?_, ?_, ?_, ?_, ?_, ?_, ?_, ?_, ?_, ?_, ?_, ?_, ?_, ?_, ?_⟩
  · intro M pc ls st h r i len ls' st' hd hn hp k
    exact mSem_step k (fun p e R s m args below meth c H locs la cells slots Q F X hP hS hl _ _ kk => ms_pure F.1 F.2.1 hd hn hp hl kk)
  · intro M pc ls st h r i off st' tgt hd hp ht k
    exact mSem_step k (fun p e R s m args below meth c H locs la cells slots Q F X hP hS hl _ _ kk => ms_br F.1 F.2.1 hd hp ht (kk la hl))
  · intro M pc ls st h r i st' hd hnn hp k
    refine mSem_step k (fun p e R s m args below meth c H locs la cells slots Q F X hP hS hl _ _ kk => ms_nb (tg := fun off => ((pc : Int) + off).toNat) F.1 F.2.1 hd ?_ hp (kk la hl))
    intro off ho
    rcases ho with ⟨o, rfl⟩ | ⟨o, rfl⟩
    · have : 0 ≤ (pc : Int) + off := of_decide_eq_true hnn
      exact (Int.toNat_of_nonneg this).symm
    · have : 0 ≤ (pc : Int) + off := of_decide_eq_true hnn
      exact (Int.toNat_of_nonneg this).symm
  · intro M pc ls st h r dflt lo hi offs len x tgt hd ho ht k
    exact mSem_step k (fun p e R s m args below meth c H locs la cells slots Q F X hP hS hl _ _ kk => lv_tableOut F.1 F.2.1 hd ho ht (kk la hl))
  · intro M pc ls st h r dflt lo hi offs len x off tgt hd h1 h2 ho ht k
    exact mSem_step k (fun p e R s m args below meth c H locs la cells slots Q F X hP hS hl _ _ kk => lv_tableIn F.1 F.2.1 hd h1 h2 ho ht (kk la hl))
  · intro M pc ls st h r idx v w hd hf k
    exact mSem_step k (fun p e R s m args below meth c H locs la cells slots Q F X hP hS hl _ _ kk => lv_ldc F.1 F.2.1 F.2.2.2.2.2.2.1 (mTb_use X.2.2.2.2.1 (mCi_spec hf)) hd (kk la hl))
  · intro M pc ls st h r idx v w hd hf k
    exact mSem_step k (fun p e R s m args below meth c H locs la cells slots Q F X hP hS hl _ _ kk => lv_ldc2 F.1 F.2.1 F.2.2.2.2.2.2.1 (mTb_use X.2.2.2.2.1 (mCl_spec hf)) hd (kk la hl))
  · intro M pc ls st h r idx ci k w a fs v hd hf hg hv kq
    exact mSem_step kq (fun p e R s m args below meth c H locs la cells slots Q F X hP hS hl _ _ kk => ms_get F X hP hd hf hg hv (kk la hl))
  · intro M pc ls st h r idx ci k w a fs v hd hf hg hl hn hft hfin kq
    exact mSem_write kq (mput_len _ _ _) (mput_sl hg rfl) (fun p e R s m args below meth c H locs la cells slots Q F X hP hS kk => ms_put F X hP hS hd hf hg hl hn hft hfin kk)
  · intro M pc ls st h r a n f i hd hg hin k
    exact mSem_step k (fun p e R s m args below meth c H locs la cells slots Q F X hP hS hl _ _ kk => ms_ild F X hP hd hg hin (kk la hl))
  · intro M pc ls st h r a n f i hd hg hin k
    exact mSem_step k (fun p e R s m args below meth c H locs la cells slots Q F X hP hS hl _ _ kk => ms_zld F X hP hd hg hin (kk la hl))
  · intro M pc ls st h r a n f i hd hg hin k
    exact mSem_step k (fun p e R s m args below meth c H locs la cells slots Q F X hP hS hl _ _ kk => ms_lld F X hP hd hg hin (kk la hl))
  · intro M pc ls st h r a n f i x hd hg hin k
    exact mSem_write k (mput_len _ _ _) (mput_sl hg rfl) (fun p e R s m args below meth c H locs la cells slots Q F X hP hS kk => ms_ist F X hP hS hd hg hin kk)
  · intro M pc ls st h r a n f i x hd hg hin k
    exact mSem_write k (mput_len _ _ _) (mput_sl hg rfl) (fun p e R s m args below meth c H locs la cells slots Q F X hP hS kk => ms_zst F X hP hS hd hg hin kk)
  · intro M pc ls st h r a n f i x hd hg hin k
    exact mSem_write k (mput_len _ _ _) (mput_sl hg rfl) (fun p e R s m args below meth c H locs la cells slots Q F X hP hS kk => ms_lst F X hP hS hd hg hin kk)
  · intro M pc ls st h r a ty x hd hg hty k
    exact mSem_step k (fun p e R s m args below meth c H locs la cells slots Q F X hP hS hl _ _ kk => ms_len F X hP hd hg hty (kk la hl))
  · intro M pc ls st h r i hd hin k
    exact mSem_step k (fun p e R s m args below meth c H locs la cells slots Q F X hP hS hl _ _ kk => ms_sld F X hS hd hin (kk la hl))
  · intro M pc ls st h r hd k
    exact mSem_step k (fun p e R s m args below meth c H locs la cells slots Q F X hP hS hl _ _ kk => ms_sln F X hS hd (kk la hl))
  · intro M pc ls st h r at_ ty n N hd hat hty hn hN hNb k
    have hms : mslot (.inl (ty, mzero ty N)) = N := by
      simp only [mslot, mzero]
      split <;> rfl
    refine mSem_make k (fun p e R s m args below meth c H locs la cells slots Q F X hP hS g1 g2 g3 kk => ?_)
    rw [hms] at g3 kk
    exact ms_newa F X hP hS hd hat hty hn hN hNb g1 g2 g3 kk
  · intro M pc ls st h r idx ci w1 w2 w3 hd hf k
    exact mSem_make k (fun p e R s m args below meth c H locs la cells slots Q F X hP hS g1 g2 g3 kk => ms_new F X hP hS hd hf g1 g2 g3 kk)
  · intro M pc ls h v ty hd hr hn
    exact mSem_ret (fun p e R s m args below meth c H locs la cells slots F hP hS => W.zret F.1 F.2.1 (F.2.2.1.trans hr) hn (fun t ht _ => ⟨rfl, by rw [ht]; exact hP, hS.F ht⟩) hS.2.2 hd F.2.2.2.2.1)
  · intro M pc ls h v hd hr
    exact mSem_ret (fun p e R s m args below meth c H locs la cells slots F hP hS => W.lret F.1 F.2.1 (F.2.2.1.trans hr) (fun t ht _ => ⟨rfl, by rw [ht]; exact hP, hS.F ht⟩) hS.2.2 hd F.2.2.2.2.1)
  · intro M pc ls h hd hr
    exact mSem_ret (fun p e R s m args below meth c H locs la cells slots F hP hS => W.vret F.1 F.2.1 (F.2.2.1.trans hr) (fun t ht _ => ⟨rfl, by rw [ht]; exact hP, hS.F ht⟩) hS.2.2 hd F.2.2.2.2.1)
  · intro M pc ls st h r idx w a hd hf h1 h2 k
    exact mSem_step k (fun p e R s m args below meth c H locs la cells slots Q F X hP hS hl hRf hRl kk => ms_obj F X hl.1 hd hf (Nat.le_trans h1 hRf) (Nat.le_trans h2 hRl) (kk la hl))
  · intro M pc ls st st0 h h' r idx N kind w1 w2 w3 w4 w5 a ci fs As v hd hf hkd hrm hst har hcw hg hci k0 k
    exact mSem_call k0 k (fun p e R s m args below meth c H locs la cells slots mc ms Q F X hP hS hla hRf hRl g1 g2 g3 g4 g5 kk => ms_cv F X hP hS hla hRf hRl hd hf hkd hrm hst har hcw hg hci k0 g1 g2 g3 g4 g5 kk)
  · intro M pc ls st st0 h h' r idx N kind w1 w2 w3 w4 w5 As v hd hf hkd hrm hst har hcw k0 k
    exact mSem_call k0 k (fun p e R s m args below meth c H locs la cells slots mc ms Q F X hP hS hla hRf hRl g1 g2 g3 g4 g5 kk => ms_cs F X hP hS hla hRf hRl hd hf hkd hrm hst har hcw k0 g1 g2 g3 g4 g5 kk)
theorem Runs.sem {M : Nat} {f : mF} {r : mR} (h : Runs S M f r) : mSem l D n0 ex dA S M f r := h _ mSem_closed
end Closed
