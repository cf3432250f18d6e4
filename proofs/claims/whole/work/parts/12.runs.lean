/-! THE RUNS: the least relation that keeps the rules; its rules as rows (R_ for Run, Q_ for RunsP) -/
/-- what is known of fewer locals is known of more -/
def mc_wk (P : Nat → mF → mR → Prop) : Prop := ∀ (M pc : Nat) (ls ls' : mL) (st : List Value) (h : mHp) (r : mR), (∀ q ∈ ls, q ∈ ls') → P M (pc, ls, st, h) r → P M (pc, ls', st, h) r
theorem mSem_wk {l : Launch} {D : va_G} {n0 : Nat} {ex : Nat → Nat} {dA : FieldType → ClassId} {S : mE} : mc_wk (mSem l D n0 ex dA S) := by
  intro M pc ls ls' st h r hs k
  refine ⟨k.1, k.2.1, ?_⟩
  intro p e R s m args below meth c H locs la cells slots mc ms sl0 F X hP hS hl
  refine k.2.2 p e R s m args below meth c H locs la cells slots mc ms sl0 F X hP hS ⟨hl.1, hl.2.1, ?_⟩
  intro q hq
  obtain ⟨x, hx, rfl⟩ := List.mem_map.mp hq
  exact hl.2.2 _ (List.mem_map_of_mem (hs x hx))
def mClosedX (S : mE) (P : Nat → mF → mR → Prop) : Prop := mClosed S P ∧ mc_tv P ∧ mc_tc P ∧ mc_hs P ∧ mc_wk P
def Run (S : mE) (M : Nat) (f : mF) (r : mR) : Prop := ∀ P : Nat → mF → mR → Prop, mClosedX S P → P M f r
theorem Run.sem {l : Launch} {D : va_G} {n0 : Nat} {ex : Nat → Nat} {dA : FieldType → ClassId} {S : mE} (hfl : l.flags = pinnedFlags ++ [noTraceFlag]) {M : Nat} {f : mF} {r : mR} (h : Run S M f r) : mSem l D n0 ex dA S M f r := h _ ⟨mSem_closed, mSem_tv hfl, mSem_tc hfl, mSem_hs, mSem_wk⟩
theorem Run.closed (S : mE) : mClosedX S (Run S) := by
  refine ⟨⟨?_, ?_, ?_, ?_, ?_, ?_, ?_, ?_, ?_, ?_, ?_, ?_, ?_, ?_, ?_, ?_, ?_, ?_, ?_, ?_, ?_, ?_, ?_, ?_, ?_, ?_⟩, ?_, ?_, ?_, ?_⟩
  · intro M pc ls st h r i len ls' st' a1 a2 a3 k P hP
    exact hP.1.1 M pc ls st h r i len ls' st' a1 a2 a3 (k P hP)
  · intro M pc ls st h r i off st' tgt a1 a2 a3 k P hP
    exact hP.1.2.1 M pc ls st h r i off st' tgt a1 a2 a3 (k P hP)
  · intro M pc ls st h r i st' a1 a2 a3 k P hP
    exact hP.1.2.2.1 M pc ls st h r i st' a1 a2 a3 (k P hP)
  · intro M pc ls st h r dflt lo hi offs len x tgt a1 a2 a3 k P hP
    exact hP.1.2.2.2.1 M pc ls st h r dflt lo hi offs len x tgt a1 a2 a3 (k P hP)
  · intro M pc ls st h r dflt lo hi offs len x off tgt a1 a2 a3 a4 a5 k P hP
    exact hP.1.2.2.2.2.1 M pc ls st h r dflt lo hi offs len x off tgt a1 a2 a3 a4 a5 (k P hP)
  · intro M pc ls st h r idx v w a1 a2 k P hP
    exact hP.1.2.2.2.2.2.1 M pc ls st h r idx v w a1 a2 (k P hP)
  · intro M pc ls st h r idx v w a1 a2 k P hP
    exact hP.1.2.2.2.2.2.2.1 M pc ls st h r idx v w a1 a2 (k P hP)
  · intro M pc ls st h r idx ci j w a fs v a1 a2 a3 a4 k P hP
    exact hP.1.2.2.2.2.2.2.2.1 M pc ls st h r idx ci j w a fs v a1 a2 a3 a4 (k P hP)
  · intro M pc ls st h r idx ci j w a fs v a1 a2 a3 a4 a5 a6 a7 k P hP
    exact hP.1.2.2.2.2.2.2.2.2.1 M pc ls st h r idx ci j w a fs v a1 a2 a3 a4 a5 a6 a7 (k P hP)
  · intro M pc ls st h r a n f i a1 a2 a3 k P hP
    exact hP.1.2.2.2.2.2.2.2.2.2.1 M pc ls st h r a n f i a1 a2 a3 (k P hP)
  · intro M pc ls st h r a n f i a1 a2 a3 k P hP
    exact hP.1.2.2.2.2.2.2.2.2.2.2.1 M pc ls st h r a n f i a1 a2 a3 (k P hP)
  · intro M pc ls st h r a n f i a1 a2 a3 k P hP
    exact hP.1.2.2.2.2.2.2.2.2.2.2.2.1 M pc ls st h r a n f i a1 a2 a3 (k P hP)
  · intro M pc ls st h r a n f i x a1 a2 a3 k P hP
    exact hP.1.2.2.2.2.2.2.2.2.2.2.2.2.1 M pc ls st h r a n f i x a1 a2 a3 (k P hP)
  · intro M pc ls st h r a n f i x a1 a2 a3 k P hP
    exact hP.1.2.2.2.2.2.2.2.2.2.2.2.2.2.1 M pc ls st h r a n f i x a1 a2 a3 (k P hP)
  · intro M pc ls st h r a n f i x a1 a2 a3 k P hP
    exact hP.1.2.2.2.2.2.2.2.2.2.2.2.2.2.2.1 M pc ls st h r a n f i x a1 a2 a3 (k P hP)
  · intro M pc ls st h r a ty x a1 a2 a3 k P hP
    exact hP.1.2.2.2.2.2.2.2.2.2.2.2.2.2.2.2.1 M pc ls st h r a ty x a1 a2 a3 (k P hP)
  · intro M pc ls st h r i a1 a2 k P hP
    exact hP.1.2.2.2.2.2.2.2.2.2.2.2.2.2.2.2.2.1 M pc ls st h r i a1 a2 (k P hP)
  · intro M pc ls st h r a1 k P hP
    exact hP.1.2.2.2.2.2.2.2.2.2.2.2.2.2.2.2.2.2.1 M pc ls st h r a1 (k P hP)
  · intro M pc ls st h r at_ ty n N a1 a2 a3 a4 a5 a6 k P hP
    exact hP.1.2.2.2.2.2.2.2.2.2.2.2.2.2.2.2.2.2.2.1 M pc ls st h r at_ ty n N a1 a2 a3 a4 a5 a6 (k P hP)
  · intro M pc ls st h r idx ci w1 w2 w3 a1 a2 k P hP
    exact hP.1.2.2.2.2.2.2.2.2.2.2.2.2.2.2.2.2.2.2.2.1 M pc ls st h r idx ci w1 w2 w3 a1 a2 (k P hP)
  · intro M pc ls h v ty a1 a2 a3  P hP
    exact hP.1.2.2.2.2.2.2.2.2.2.2.2.2.2.2.2.2.2.2.2.2.1 M pc ls h v ty a1 a2 a3 
  · intro M pc ls h v a1 a2  P hP
    exact hP.1.2.2.2.2.2.2.2.2.2.2.2.2.2.2.2.2.2.2.2.2.2.1 M pc ls h v a1 a2 
  · intro M pc ls h a1 a2  P hP
    exact hP.1.2.2.2.2.2.2.2.2.2.2.2.2.2.2.2.2.2.2.2.2.2.2.1 M pc ls h a1 a2 
  · intro M pc ls st h r idx w a a1 a2 a3 a4 k P hP
    exact hP.1.2.2.2.2.2.2.2.2.2.2.2.2.2.2.2.2.2.2.2.2.2.2.2.1 M pc ls st h r idx w a a1 a2 a3 a4 (k P hP)
  · intro M pc ls st st0 h h' r idx N kind w1 w2 w3 w4 w5 a ci fs As v a1 a2 a3 a4 a5 a6 a7 a8 a9 k0 k P hP
    exact hP.1.2.2.2.2.2.2.2.2.2.2.2.2.2.2.2.2.2.2.2.2.2.2.2.2.1 M pc ls st st0 h h' r idx N kind w1 w2 w3 w4 w5 a ci fs As v a1 a2 a3 a4 a5 a6 a7 a8 a9 (k0 P hP) (k P hP)
  · intro M pc ls st st0 h h' r idx N kind w1 w2 w3 w4 w5 As v a1 a2 a3 a4 a5 a6 a7 k0 k P hP
    exact hP.1.2.2.2.2.2.2.2.2.2.2.2.2.2.2.2.2.2.2.2.2.2.2.2.2.2 M pc ls st st0 h h' r idx N kind w1 w2 w3 w4 w5 As v a1 a2 a3 a4 a5 a6 a7 (k0 P hP) (k P hP)
  · intro M pc ls st st0 h h' idx N w1 w2 w3 w4 w5 a ci k fs As a1 a2 a3 a4 a5 a6 a7 a8 a9 k1 P hP
    exact hP.2.1 M pc ls st st0 h h' idx N w1 w2 w3 w4 w5 a ci k fs As a1 a2 a3 a4 a5 a6 a7 a8 a9 (k1.elim (fun q => Or.inl (q P hP)) Or.inr)
  · intro M pc ls st st0 h h' r idx N w1 w2 w3 w4 w5 a ci k cx hp fs As a1 a2 a3 a4 a5 a6 a7 a8 a9 b1 b2 b3 b4 k1 kk P hP
    exact hP.2.2.1 M pc ls st st0 h h' r idx N w1 w2 w3 w4 w5 a ci k cx hp fs As a1 a2 a3 a4 a5 a6 a7 a8 a9 b1 b2 b3 b4 (k1.elim (fun q => Or.inl (q P hP)) Or.inr) (kk P hP)
  · intro M pc ls st st0 h h' r idx N w1 w2 w3 w4 w5 As v a1 a2 a3 a4 a5 a6 k0 k P hP
    exact hP.2.2.2.1 M pc ls st st0 h h' r idx N w1 w2 w3 w4 w5 As v a1 a2 a3 a4 a5 a6 (k0 P hP) (k P hP)
  · intro M pc ls ls' st h r hs k P hP
    exact hP.2.2.2.2 M pc ls ls' st h r hs (k P hP)
theorem RunsP.closed : mClosedP RunsP := by
  refine ⟨?_, ?_, ?_, ?_, ?_, ?_, ?_, ?_, ?_, ?_, ?_, ?_, ?_, ?_, ?_, ?_⟩
  · intro M pc ls st h r i len ls' st' a1 a2 a3 k P hP
    exact hP.1 M pc ls st h r i len ls' st' a1 a2 a3 (k P hP)
  · intro M pc ls st h r i off st' tgt a1 a2 a3 k P hP
    exact hP.2.1 M pc ls st h r i off st' tgt a1 a2 a3 (k P hP)
  · intro M pc ls st h r i st' a1 a2 a3 k P hP
    exact hP.2.2.1 M pc ls st h r i st' a1 a2 a3 (k P hP)
  · intro M pc ls st h r idx v w a1 a2 k P hP
    exact hP.2.2.2.1 M pc ls st h r idx v w a1 a2 (k P hP)
  · intro M pc ls st h r idx v w a1 a2 k P hP
    exact hP.2.2.2.2.1 M pc ls st h r idx v w a1 a2 (k P hP)
  · intro M pc ls st h r idx ci j w a fs v a1 a2 a3 a4 k P hP
    exact hP.2.2.2.2.2.1 M pc ls st h r idx ci j w a fs v a1 a2 a3 a4 (k P hP)
  · intro M pc ls st h r a n f i a1 a2 a3 k P hP
    exact hP.2.2.2.2.2.2.1 M pc ls st h r a n f i a1 a2 a3 (k P hP)
  · intro M pc ls st h r a n f i a1 a2 a3 k P hP
    exact hP.2.2.2.2.2.2.2.1 M pc ls st h r a n f i a1 a2 a3 (k P hP)
  · intro M pc ls st h r a n f i a1 a2 a3 k P hP
    exact hP.2.2.2.2.2.2.2.2.1 M pc ls st h r a n f i a1 a2 a3 (k P hP)
  · intro M pc ls st h r a ty x a1 a2 a3 k P hP
    exact hP.2.2.2.2.2.2.2.2.2.1 M pc ls st h r a ty x a1 a2 a3 (k P hP)
  · intro M pc ls h v ty a1 a2 a3  P hP
    exact hP.2.2.2.2.2.2.2.2.2.2.1 M pc ls h v ty a1 a2 a3 
  · intro M pc ls h v a1 a2  P hP
    exact hP.2.2.2.2.2.2.2.2.2.2.2.1 M pc ls h v a1 a2 
  · intro M pc ls h a1 a2  P hP
    exact hP.2.2.2.2.2.2.2.2.2.2.2.2.1 M pc ls h a1 a2 
  · intro M pc ls st st0 h r idx N kind w1 w2 w3 w4 w5 a ci fs As v a1 a2 a3 a4 a5 a6 a7 a8 a9 k0 k P hP
    exact hP.2.2.2.2.2.2.2.2.2.2.2.2.2.1 M pc ls st st0 h r idx N kind w1 w2 w3 w4 w5 a ci fs As v a1 a2 a3 a4 a5 a6 a7 a8 a9 (k0 P hP) (k P hP)
  · intro M pc ls st st0 h r idx N kind w1 w2 w3 w4 w5 As v a1 a2 a3 a4 a5 a6 a7 k0 k P hP
    exact hP.2.2.2.2.2.2.2.2.2.2.2.2.2.2.1 M pc ls st st0 h r idx N kind w1 w2 w3 w4 w5 As v a1 a2 a3 a4 a5 a6 a7 (k0 P hP) (k P hP)
  · intro M pc ls st h idx is ic ci q a1 a2 a3 a4 a5 a6 a7 a8 a9 b1 P hP
    exact hP.2.2.2.2.2.2.2.2.2.2.2.2.2.2.2 M pc ls st h idx is ic ci q a1 a2 a3 a4 a5 a6 a7 a8 a9 b1
/-- a run that writes nothing and returns is a run -/
theorem RunsP.run {S : mE} {M : Nat} {f : mF} {v : Option Value} {h : mHp} (k : RunsP M f (.inl v, h)) : Run S M f (.inl v, h) := by
  have key := k (fun M f r => (∃ v, r.1 = .inl v) → Run S M f r) ?_
  · exact key ⟨v, rfl⟩
  have C := Run.closed S
  refine ⟨?_, ?_, ?_, ?_, ?_, ?_, ?_, ?_, ?_, ?_, ?_, ?_, ?_, ?_, ?_, ?_⟩
  · intro M pc ls st h r i len ls' st' a1 a2 a3 k hv
    exact C.1.1 M pc ls st h r i len ls' st' a1 a2 a3 (k hv)
  · intro M pc ls st h r i off st' tgt a1 a2 a3 k hv
    exact C.1.2.1 M pc ls st h r i off st' tgt a1 a2 a3 (k hv)
  · intro M pc ls st h r i st' a1 a2 a3 k hv
    exact C.1.2.2.1 M pc ls st h r i st' a1 a2 a3 (k hv)
  · intro M pc ls st h r idx v w a1 a2 k hv
    exact C.1.2.2.2.2.2.1 M pc ls st h r idx v w a1 a2 (k hv)
  · intro M pc ls st h r idx v w a1 a2 k hv
    exact C.1.2.2.2.2.2.2.1 M pc ls st h r idx v w a1 a2 (k hv)
  · intro M pc ls st h r idx ci j w a fs v a1 a2 a3 a4 k hv
    exact C.1.2.2.2.2.2.2.2.1 M pc ls st h r idx ci j w a fs v a1 a2 a3 a4 (k hv)
  · intro M pc ls st h r a n f i a1 a2 a3 k hv
    exact C.1.2.2.2.2.2.2.2.2.2.1 M pc ls st h r a n f i a1 a2 a3 (k hv)
  · intro M pc ls st h r a n f i a1 a2 a3 k hv
    exact C.1.2.2.2.2.2.2.2.2.2.2.1 M pc ls st h r a n f i a1 a2 a3 (k hv)
  · intro M pc ls st h r a n f i a1 a2 a3 k hv
    exact C.1.2.2.2.2.2.2.2.2.2.2.2.1 M pc ls st h r a n f i a1 a2 a3 (k hv)
  · intro M pc ls st h r a ty x a1 a2 a3 k hv
    exact C.1.2.2.2.2.2.2.2.2.2.2.2.2.2.2.2.1 M pc ls st h r a ty x a1 a2 a3 (k hv)
  · intro M pc ls h v ty a1 a2 a3  hv
    exact C.1.2.2.2.2.2.2.2.2.2.2.2.2.2.2.2.2.2.2.2.2.1 M pc ls h v ty a1 a2 a3 
  · intro M pc ls h v a1 a2  hv
    exact C.1.2.2.2.2.2.2.2.2.2.2.2.2.2.2.2.2.2.2.2.2.2.1 M pc ls h v a1 a2 
  · intro M pc ls h a1 a2  hv
    exact C.1.2.2.2.2.2.2.2.2.2.2.2.2.2.2.2.2.2.2.2.2.2.2.1 M pc ls h a1 a2 
  · intro M pc ls st st0 h r idx N kind w1 w2 w3 w4 w5 a ci fs As v a1 a2 a3 a4 a5 a6 a7 a8 a9 k0 k hv
    exact C.1.2.2.2.2.2.2.2.2.2.2.2.2.2.2.2.2.2.2.2.2.2.2.2.2.1 M pc ls st st0 h h r idx N kind w1 w2 w3 w4 w5 a ci fs As v a1 a2 a3 a4 a5 a6 a7 a8 a9 (k0 ⟨v, rfl⟩) (k hv)
  · intro M pc ls st st0 h r idx N kind w1 w2 w3 w4 w5 As v a1 a2 a3 a4 a5 a6 a7 k0 k hv
    exact C.1.2.2.2.2.2.2.2.2.2.2.2.2.2.2.2.2.2.2.2.2.2.2.2.2.2 M pc ls st st0 h h r idx N kind w1 w2 w3 w4 w5 As v a1 a2 a3 a4 a5 a6 a7 (k0 ⟨v, rfl⟩) (k hv)
  · intro M pc ls st h idx is ic ci q a1 a2 a3 a4 a5 a6 a7 a8 a9 b1 hv
    obtain ⟨v, hv⟩ := hv
    cases hv
