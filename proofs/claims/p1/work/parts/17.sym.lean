/-! rows for walks over wholly known heaps; the loops of part 16 from their beginnings -/
section Sym
variable {S : mE} {M pc : Nat} {ls : mL} {st : List Value} {h : mHp} {r : mR}
theorem R_nv {v v' : Int32} (e : v = v') (k : Run S M (pc, ls, .int v' :: st, h) r) : Run S M (pc, ls, .int v :: st, h) r := e ▸ k
theorem R_nw {v v' : Int64} (e : v = v') (k : Run S M (pc, ls, .long v' :: st, h) r) : Run S M (pc, ls, .long v :: st, h) r := e ▸ k
theorem Q_nv {v v' : Int32} (e : v = v') (k : RunsP M (pc, ls, .int v' :: st, h) r) : RunsP M (pc, ls, .int v :: st, h) r := e ▸ k
theorem vp_ok {i : Int32} {n : Nat} (h : ¬ (i < 0 ∨ n ≤ i.toNatClampNeg)) : vp_in i n := h
theorem R_sldk {N : Nat} {f : Nat → Int32} {i x : Int32} {n : Nat} (hd : decode (mCode M) pc = .ok (.iaload, 1)) (hin : vp_in i N) (hn : i.toNatClampNeg = n) (hx : f n = x) (k : Run (N, f) M (pc + 1, ls, .int x :: st, h) r) : Run (N, f) M (pc, ls, .int i :: .ref 0 :: st, h) r := R_sld hd hin (by rw [hn]; show Run (N, f) M (pc + 1, ls, .int (f n) :: st, h) r; rw [hx]; exact k)
theorem m1_lt {x : Int32} (h : ¬ x < 0) : -1 < x := by
  rw [Int32.lt_iff_toInt_lt] at h ⊢
  have e0 : (0 : Int32).toInt = 0 := by decide
  have e1 : (-1 : Int32).toInt = -1 := by decide
  omega
theorem m1_nlt {x : Int32} (h : x < 0) : ¬ -1 < x := by
  rw [Int32.lt_iff_toInt_lt] at h ⊢
  have e0 : (0 : Int32).toInt = 0 := by decide
  have e1 : (-1 : Int32).toInt = -1 := by decide
  omega
theorem sw_ne {x : Int32} {n : Int32} (h : ¬ x = n) : x.toInt ≠ n.toInt := fun e => h (Int32.toInt_inj.mp e)
theorem sw_out5 {x : Int32} (h0 : ¬ x = 0) (h1 : ¬ x = 1) (h2 : ¬ x = 2) (h3 : ¬ x = 3) (h4 : ¬ x = 4) : x.toInt < 0 ∨ 4 < x.toInt := by
  have a0 := sw_ne h0; have a1 := sw_ne h1; have a2 := sw_ne h2; have a3 := sw_ne h3; have a4 := sw_ne h4
  simp only [show (0 : Int32).toInt = 0 from by decide, show (1 : Int32).toInt = 1 from by decide, show (2 : Int32).toInt = 2 from by decide, show (3 : Int32).toInt = 3 from by decide, show (4 : Int32).toInt = 4 from by decide] at a0 a1 a2 a3 a4
  omega
theorem R_meshCopy {fs : List Value} {L E : Nat → Int32} (hm : mget h 42 = some (.inr (9, fs))) (h4 : fs[4]? = some (.ref 45)) (h5 : fs[5]? = some (.ref 46)) (hL : mget h 45 = some (.inl (.boolean, 1600, .inl L))) (hE : mget h 46 = some (.inl (.boolean, 1600, .inl E))) (kk : Run S 128 (45, [(0, .ref 42), (1, .int 1600)], [], mput h 46 (.inl (.boolean, 1600, .inl (mcpz 1600 L E)))) r) : Run S 128 (20, [(0, .ref 42), (1, .int 0)], [], h) r := by
  refine R_e (20, [(0, .ref 42), (1, .int (nI 0))], [], mput h 46 (.inl (.boolean, 1600, .inl (mcpz 0 L E)))) ?_ (t_meshCopy hm h4 h5 hL hE kk 1600 0 (by omega))
  rw [mcpz_0, mput_self hE]
  rfl
theorem R_clearLoop {fs : List Value} {n : Int32} {L : Nat → Int32} (hm : mget h 42 = some (.inr (9, fs))) (h4 : fs[4]? = some (.ref 45)) (hL : mget h 45 = some (.inl (.boolean, 1600, .inl L))) (kk : Run S 126 (37, [(0, .ref 42), (1, .int n), (2, .int 1600)], [], mput h 45 (.inl (.boolean, 1600, .inl (mfill 1600 0 L)))) r) : Run S 126 (17, [(0, .ref 42), (1, .int n), (2, .int 0)], [], h) r := by
  refine R_e (17, [(0, .ref 42), (1, .int n), (2, .int (nI 0))], [], mput h 45 (.inl (.boolean, 1600, .inl (mfill 0 0 L)))) ?_ (t_clearLoop hm h4 hL kk 1600 0 (by omega))
  rw [mfill_0, mput_self hL]
  rfl
theorem R_addLoop {fs : List Value} {p : Nat} {L : Nat → Int32} {x y v3 : Int32} (hp : p < 40) (hm : mget h 42 = some (.inr (9, fs))) (h1 : fs[1]? = some (.int (nI p))) (h4 : fs[4]? = some (.ref 45)) (hL : mget h 45 = some (.inl (.boolean, 1600, .inl L))) (kk : Run S 114 (224, [(0, .ref 42), (1, .int x), (2, .int y), (3, .int v3), (4, .int 40)], [], mput h 45 (.inl (.boolean, 1600, .inl (mrow p 40 L)))) r) : Run S 114 (179, [(0, .ref 42), (1, .int x), (2, .int y), (3, .int v3), (4, .int 0)], [], h) r := by
  refine R_e (179, [(0, .ref 42), (1, .int x), (2, .int y), (3, .int v3), (4, .int (nI 0))] ++ [], [], mput h 45 (.inl (.boolean, 1600, .inl (mrow p 0 L)))) ?_ (t_addLoop hp hm h1 h4 hL v3 0 (Or.inl rfl) kk 40 0 (by omega))
  rw [mrow_0, mput_self hL]
  rfl
end Sym
