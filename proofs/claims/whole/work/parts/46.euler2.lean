/-! M3: Euler's count -/
def Lx (X Y : Nat → Int) (i : Nat) : Int := 2147483648 * X i + Y i
theorem Lx_inj {X Y : Nat → Int} {n : Nat} (hD : Dst X Y n) (hB : Bd X Y n) : ∀ i j, i < n → j < n → Lx X Y i = Lx X Y j → i = j := by
  intro i j hi hj h
  have b1 := hB i hi
  have b2 := hB j hj
  unfold Lx at h
  exact hD i j hi hj (by omega) (by omega)
theorem aff_L (X Y : Nat → Int) (c : Int) : Aff X Y (fun x => Lx X Y x - c) := ⟨2147483648, 1, -c, fun x => by show Lx X Y x - c = _; unfold Lx; omega⟩
theorem aff_Ln (X Y : Nat → Int) (c : Int) : Aff X Y (fun x => c - Lx X Y x) := ⟨-2147483648, -1, c, fun x => by show c - Lx X Y x = _; unfold Lx; omega⟩
theorem zz_next {X Y f : Nat → Int} {n : Nat} {E : Nat → Nat → Prop} (hD : Dst X Y n) (hM : Mx X Y n E) (hf : Aff X Y f) {p q r : Nat} (h0 : f p = 0) (hq : E p q) (fq : 0 < f q) (hr : E p r) (fr : 0 < f r) (h : 0 < (ar X Y p q r)) : ∃ c, Tr X Y n E p q c ∧ 0 < f c := by
  obtain ⟨c, hc, ⟨hpc, qc, fc⟩, hmin⟩ := fmin1 (n := n) (fun x => E p x ∧ 0 < (ar X Y p q x) ∧ 0 < f x) (bef X Y (fun x => (ar X Y p q x)) p) (fun x y _ _ => bef_total x y) (fun x y z h1 h2 h3 k1 k2 => bef_trans (aff_ar X Y p q) (ar_xyx X Y p q) h1.2.1 h2.2.1 h3.2.1 k1 k2) ⟨r, (hM.1 p r hr).2.1, hr, h, fr⟩
  refine ⟨c, nextTri hD hM hq hpc qc fun d hd ⟨k1, k2⟩ => ?_, fc⟩
  have t := T3 hf h0 q d c
  have e := ar_t X Y p c q
  rw [e, Int.mul_neg] at t
  have g1 := mpp fq k2
  have g2 := mpp fc k1
  have fd : 0 < f d := cpos qc (by rw [Int.mul_comm]; omega)
  have := ar_t X Y p d c
  rcases hmin d (hM.1 p d hd).2.1 ⟨hd, k1, fd⟩ with h | h <;> omega
/-- the last neighbour round, of those with f above zero -/
theorem last_nb {X Y f : Nat → Int} {n : Nat} {E : Nat → Nat → Prop} (hD : Dst X Y n) (hM : Mx X Y n E) (hf : Aff X Y f) {p x : Nat} (hp : p < n) (h0 : f p = 0) (hx : x < n) (fx : 0 < f x) :
    (∃ q, E p q ∧ 0 < f q ∧ ∀ w, E p w → 0 < f w → (ar X Y p q w) ≤ 0) ∧ (∃ q, E p q ∧ 0 < f q ∧ ∀ w, E p w → 0 < f w → 0 ≤ (ar X Y p q w)) := by
  obtain ⟨v, hv, fv⟩ := vis hD hM hf hp h0 ⟨x, hx, fx⟩
  constructor
  · obtain ⟨q, hq, ⟨hpq, fq⟩, hmin⟩ := fmin1 (n := n) (fun x => E p x ∧ 0 < f x) (fun x y => bef X Y f p y x) (fun x y _ _ => bef_total y x) (fun x y z h1 h2 h3 k1 k2 => bef_trans hf h0 h3.2 h2.2 h1.2 k2 k1) ⟨v, (hM.1 p v hv).2.1, hv, fv⟩
    refine ⟨q, hpq, fq, fun w hw fw => ?_⟩
    have := ar_t X Y p q w
    rcases hmin w (hM.1 p w hw).2.1 ⟨hw, fw⟩ with h | h <;> omega
  · obtain ⟨q, hq, ⟨hpq, fq⟩, hmin⟩ := fmin1 (n := n) (fun x => E p x ∧ 0 < f x) (bef X Y f p) (fun x y _ _ => bef_total x y) (fun x y z h1 h2 h3 k1 k2 => bef_trans hf h0 h1.2 h2.2 h3.2 k1 k2) ⟨v, (hM.1 p v hv).2.1, hv, fv⟩
    refine ⟨q, hpq, fq, fun w hw fw => ?_⟩
    rcases hmin w (hM.1 p w hw).2.1 ⟨hw, fw⟩ with h | h <;> omega
def Zz (X Y : Nat → Int) (n : Nat) (E : Nat → Nat → Prop) (p q : Nat) : Prop := (E p q ∧ Lx X Y p < Lx X Y q) ∧ ¬ ∃ w, Tr X Y n E p q w ∧ Lx X Y p < Lx X Y w
theorem zz_uniq {X Y : Nat → Int} {n : Nat} {E : Nat → Nat → Prop} (hD : Dst X Y n) (hM : Mx X Y n E) {p q r : Nat} (h1 : Zz X Y n E p q) (h2 : Zz X Y n E p r) : q = r := by
  refine Decidable.byContradiction fun hne => ?_
  have hf := aff_L X Y (Lx X Y p)
  have key : ∀ q r, Zz X Y n E p q → Zz X Y n E p r → ¬ 0 < (ar X Y p q r) := by
    intro q r h1 h2 h
    obtain ⟨c, hc, fc⟩ := zz_next hD hM hf (p := p) (by show Lx X Y p - Lx X Y p = 0; omega) h1.1.1 (by show 0 < Lx X Y q - Lx X Y p; have := h1.1.2; omega) h2.1.1 (by show 0 < Lx X Y r - Lx X Y p; have := h2.1.2; omega) h
    have fc : 0 < Lx X Y c - Lx X Y p := fc
    exact h1.2 ⟨c, hc, by omega⟩
  have k1 := key q r h1 h2
  have k2 := key r q h2 h1
  have e := ar_t X Y p q r
  have z : (ar X Y p q r) = 0 := by omega
  have l1 := h1.1.2
  have l2 := h2.1.2
  have q1 := hM.1 p q h1.1.1
  have r1 := hM.1 p r h2.1.1
  rcases Int.le_total (Lx X Y q) (Lx X Y r) with h | h
  · exact hM.2.1 p r h2.1.1 q q1.2.1 (Ne.symm q1.2.2.1) hne (oS_of hf (show (ar X Y p r q) = 0 by omega) (by show Lx X Y p - Lx X Y p ≤ Lx X Y q - Lx X Y p; omega) (by show Lx X Y q - Lx X Y p ≤ Lx X Y r - Lx X Y p; omega) (by show Lx X Y p - Lx X Y p < Lx X Y r - Lx X Y p; omega))
  · exact hM.2.1 p q h1.1.1 r r1.2.1 (Ne.symm r1.2.2.1) (Ne.symm hne) (oS_of hf z (by show Lx X Y p - Lx X Y p ≤ Lx X Y r - Lx X Y p; omega) (by show Lx X Y r - Lx X Y p ≤ Lx X Y q - Lx X Y p; omega) (by show Lx X Y p - Lx X Y p < Lx X Y q - Lx X Y p; omega))
theorem zz_ex {X Y : Nat → Int} {n : Nat} {E : Nat → Nat → Prop} (hD : Dst X Y n) (hM : Mx X Y n E) {p x : Nat} (hp : p < n) (hx : x < n) (h : Lx X Y p < Lx X Y x) : ∃ q, Zz X Y n E p q := by
  obtain ⟨⟨q, hq, fq, hl⟩, _⟩ := last_nb hD hM (aff_L X Y (Lx X Y p)) hp (by show Lx X Y p - Lx X Y p = 0; omega) hx (by show 0 < Lx X Y x - Lx X Y p; omega)
  have fq : 0 < Lx X Y q - Lx X Y p := fq
  refine ⟨q, ⟨hq, by omega⟩, fun ⟨w, hw, lw⟩ => ?_⟩
  have := hl w (hM.1 w p hw.2.2.1).2.2.2 (by show 0 < Lx X Y w - Lx X Y p; omega)
  have := hw.2.2.2.1
  omega
theorem cnt_true {α : Type} (l : List α) : cntP l (fun _ => True) = l.length := by
  induction l with
  | nil => rfl
  | cons x l ih => rw [(cnt_cons x l (fun _ => True)).1 trivial, ih]; rfl
theorem cnt_max {k : Nat → Int} {n : Nat} (hn : 0 < n) (hk : ∀ i j, i < n → j < n → k i = k j → i = j) : cntP (List.range n) (fun p => ∃ x, x < n ∧ k p < k x) + 1 = n := by
  obtain ⟨m, hm, _, hmax⟩ := fmin1 (n := n) (fun _ => True) (fun x y => k y ≤ k x) (fun x y _ _ => Int.le_total _ _) (fun x y z _ _ _ h1 h2 => Int.le_trans h2 h1) ⟨0, hn, trivial⟩
  have s := cnt_split (P := fun _ : Nat => True) (Q := fun p => ∃ x, x < n ∧ k p < k x) (List.range n)
  rw [cnt_true, List.length_range] at s
  have e1 : cntP (List.range n) (fun p => True ∧ ∃ x, x < n ∧ k p < k x) = cntP (List.range n) (fun p => ∃ x, x < n ∧ k p < k x) := cnt_congr fun p _ => ⟨fun h => h.2, fun h => ⟨trivial, h⟩⟩
  have one : cntP [m] (fun _ => True) = 1 := cnt_true [m]
  have a := cnt_inj (l := List.range n) (l' := [m]) (P := fun p => True ∧ ¬ ∃ x, x < n ∧ k p < k x) (Q := fun _ => True) id List.nodup_range (fun p hp ⟨_, h⟩ => ⟨by
    have hp := List.mem_range.mp hp
    have := hmax p hp trivial
    have : ¬ k p < k m := fun q => h ⟨m, hm, q⟩
    show p ∈ [m]
    rw [hk p m hp hm (by omega)]
    exact List.mem_cons_self, trivial⟩) (fun x y _ _ _ _ h => h)
  have b := cnt_inj (l := [m]) (l' := List.range n) (P := fun _ => True) (Q := fun p => True ∧ ¬ ∃ x, x < n ∧ k p < k x) id (List.nodup_cons.mpr ⟨List.not_mem_nil, List.nodup_nil⟩) (fun p hp _ => by
    have : p = m := List.mem_singleton.mp hp
    rw [this]
    exact ⟨List.mem_range.mpr hm, trivial, fun ⟨x, hx, h⟩ => by have := hmax x hx trivial; have h : k m < k x := h; omega⟩) (fun x y _ _ _ _ h => h)
  omega
theorem euler_L {X Y : Nat → Int} {n : Nat} {E : Nat → Nat → Prop} (hD : Dst X Y n) (hB : Bd X Y n) (hM : Mx X Y n E) (hn : 0 < n) :
    cntP (prs n) (fun z => E z.1 z.2 ∧ Lx X Y z.1 < Lx X Y z.2) + 1 = cntP (prs n) (fun z => lst X Y n E (Lx X Y) z.1 z.2) + n := by
  have hk := Lx_inj hD hB
  have s := cnt_split (P := fun z : Nat × Nat => E z.1 z.2 ∧ Lx X Y z.1 < Lx X Y z.2) (Q := fun z => ∃ w, Tr X Y n E z.1 z.2 w ∧ Lx X Y z.1 < Lx X Y w) (prs n)
  have e1 : cntP (prs n) (fun z => (E z.1 z.2 ∧ Lx X Y z.1 < Lx X Y z.2) ∧ ∃ w, Tr X Y n E z.1 z.2 w ∧ Lx X Y z.1 < Lx X Y w) = cntP (prs n) (fun z => lst X Y n E (Lx X Y) z.1 z.2) :=
    cnt_congr fun z _ => ⟨fun ⟨⟨_, h1⟩, w, h2, h3⟩ => ⟨w, h2, h1, h3⟩, fun ⟨w, h2, h1, h3⟩ => ⟨⟨h2.1, h1⟩, w, h2, h3⟩⟩
  have m := cnt_max hn hk
  have a := cnt_inj (l := prs n) (l' := List.range n) (P := fun z => Zz X Y n E z.1 z.2) (Q := fun p => ∃ x, x < n ∧ Lx X Y p < Lx X Y x) (fun z => z.1) (prs_nodup n) (fun z hz h => ⟨List.mem_range.mpr (prs_mem.mp hz).1, z.2, (prs_mem.mp hz).2, h.1.2⟩)
    (fun z w _ _ h1 h2 e => by
      have e : z.1 = w.1 := e
      rw [← e] at h2
      exact Prod.ext e (zz_uniq hD hM h1 h2))
  have b := cnt_inj (l := List.range n) (l' := prs n) (P := fun p => ∃ x, x < n ∧ Lx X Y p < Lx X Y x) (Q := fun z => Zz X Y n E z.1 z.2) (fun p => (p, @dite Nat (∃ q, Zz X Y n E p q) (Classical.propDecidable _) (fun h => Classical.choose h) (fun _ => 0))) List.nodup_range
    (fun p hp ⟨x, hx, h⟩ => by
      have ex := zz_ex hD hM (List.mem_range.mp hp) hx h
      rw [dif_pos ex]
      have sp := Classical.choose_spec ex
      exact ⟨prs_mem.mpr ⟨List.mem_range.mp hp, (hM.1 _ _ sp.1.1).2.1⟩, sp⟩)
    (fun x y _ _ _ _ h => congrArg Prod.fst h)
  have e2 : cntP (prs n) (fun z => (E z.1 z.2 ∧ Lx X Y z.1 < Lx X Y z.2) ∧ ¬ ∃ w, Tr X Y n E z.1 z.2 w ∧ Lx X Y z.1 < Lx X Y w) = cntP (prs n) (fun z => Zz X Y n E z.1 z.2) := rfl
  omega
def ik (i : Nat) : Int := (i : Int)
/-- points, edges, triangles, and edges with no triangle to their left -/
theorem euler {X Y : Nat → Int} {n : Nat} {E : Nat → Nat → Prop} (hD : Dst X Y n) (hB : Bd X Y n) (hM : Mx X Y n E) (hn : 0 < n) :
    cntP (prs n) (fun z => E z.1 z.2 ∧ ik z.1 < ik z.2) + 1 = cntP (prs n) (fun z => lst X Y n E ik z.1 z.2) + n ∧
    2 * cntP (prs n) (fun z => E z.1 z.2 ∧ ik z.1 < ik z.2) = 3 * cntP (prs n) (fun z => lst X Y n E ik z.1 z.2) + cntP (prs n) (fun z => E z.1 z.2 ∧ ¬ hasT X Y n E z.1 z.2) := by
  have hk := Lx_inj hD hB
  have hi : ∀ i j, i < n → j < n → ik i = ik j → i = j := fun i j _ _ h => by unfold ik at h; omega
  have t1 := tri3 hM hk
  have t2 := tri3 hM hi
  have g1 := edg2 hM (P := E) hk (fun a b h => h)
  have g2 := edg2 hM (P := E) hi (fun a b h => h)
  have sy : ∀ k : Nat → Int, cntP (prs n) (fun z => E z.2 z.1 ∧ k z.1 < k z.2) = cntP (prs n) (fun z => E z.1 z.2 ∧ k z.1 < k z.2) := fun k => cnt_congr fun z _ => ⟨fun h => ⟨(hM.1 _ _ h.1).2.2.2, h.2⟩, fun h => ⟨(hM.1 _ _ h.1).2.2.2, h.2⟩⟩
  rw [sy] at g1 g2
  have l := euler_L hD hB hM hn
  have s := cnt_split (P := fun z : Nat × Nat => E z.1 z.2) (Q := fun z => hasT X Y n E z.1 z.2) (prs n)
  have e1 : cntP (prs n) (fun z => E z.1 z.2 ∧ hasT X Y n E z.1 z.2) = cntP (prs n) (fun z => hasT X Y n E z.1 z.2) := cnt_congr fun z _ => ⟨fun h => h.2, fun h => ⟨by obtain ⟨c, hc⟩ := h; exact hc.1, h⟩⟩
  omega
theorem col {X Y : Nat → Int} {p q x y z : Nat} (h : nq X Y p q) (hx : (ar X Y p q x) = 0) (hy : (ar X Y p q y) = 0) (hz : (ar X Y p q z) = 0) : (ar X Y x y z) = 0 := by
  have e : sq X Y p q * (ar X Y x y z) = (wb X Y p q y - wb X Y p q x) * ((ar X Y p q z) - (ar X Y p q x)) - ((ar X Y p q y) - (ar X Y p q x)) * (wb X Y p q z - wb X Y p q x) := by unfold sq wb ar; grind
  rw [hx, hy, hz, Int.sub_self, Int.mul_zero, Int.zero_mul, Int.sub_self] at e
  exact czz (sq_pos h) e
/-- not all on one line -/
def nfl (X Y : Nat → Int) (n : Nat) : Prop := ∃ x y z, x < n ∧ y < n ∧ z < n ∧ (ar X Y x y z) ≠ 0
theorem no_T {X Y : Nat → Int} {n : Nat} {E : Nat → Nat → Prop} (hD : Dst X Y n) (hM : Mx X Y n E) {p q : Nat} (h : E p q) (hn : ¬ hasT X Y n E p q) : ∀ x, x < n → (ar X Y p q x) ≤ 0 := fun x hx => Decidable.byContradiction fun k => hn (apex hD hM h hx (by omega))
theorem one_T {X Y : Nat → Int} {n : Nat} {E : Nat → Nat → Prop} (hD : Dst X Y n) (hM : Mx X Y n E) (hf : nfl X Y n) {p q : Nat} (h : E p q) : hasT X Y n E p q ∨ hasT X Y n E q p := by
  refine Classical.byContradiction fun k => ?_
  have h1 := no_T hD hM h (fun j => k (Or.inl j))
  have h2 := no_T hD hM (hM.1 p q h).2.2.2 (fun j => k (Or.inr j))
  have z : ∀ x, x < n → (ar X Y p q x) = 0 := fun x hx => by have := h1 x hx; have := h2 x hx; have := ar_s X Y p q x; omega
  obtain ⟨x, y, w, hx, hy, hw, hne⟩ := hf
  exact hne (col (hD.nq (hM.1 p q h).1 (hM.1 p q h).2.1 (hM.1 p q h).2.2.1) (z x hx) (z y hy) (z w hw))
theorem ext {X Y f : Nat → Int} {n : Nat} {E : Nat → Nat → Prop} (hD : Dst X Y n) (hM : Mx X Y n E) (hf : Aff X Y f) {p x : Nat} (hp : p < n) (h0 : f p = 0) (hx : x < n) (fx : 0 < f x) (hall : ∀ x, x < n → x ≠ p → 0 < f x) :
    (∃ q, E p q ∧ ¬ hasT X Y n E p q) ∧ (∃ q, E p q ∧ ¬ hasT X Y n E q p) := by
  obtain ⟨⟨q, hq, _, h1⟩, r, hr, _, h2⟩ := last_nb hD hM hf hp h0 hx fx
  constructor
  · refine ⟨q, hq, fun ⟨w, hw⟩ => ?_⟩
    have pw := (hM.1 w p hw.2.2.1).2.2.2
    have := h1 w pw (hall w (hM.1 p w pw).2.1 hw.ne.2.2)
    have := hw.2.2.2.1
    omega
  · refine ⟨r, hr, fun ⟨w, hw⟩ => ?_⟩
    have pw := hw.2.1
    have := h2 w pw (hall w (hM.1 p w pw).2.1 (Ne.symm hw.ne.2.1))
    have := hw.2.2.2.1
    have := ar_s X Y r p w
    omega
theorem hull3 {X Y : Nat → Int} {n : Nat} {E : Nat → Nat → Prop} (hD : Dst X Y n) (hB : Bd X Y n) (hM : Mx X Y n E) (hf : nfl X Y n) : 3 ≤ cntP (prs n) (fun z => E z.1 z.2 ∧ ¬ hasT X Y n E z.1 z.2) := by
  have hk := Lx_inj hD hB
  have hf' := hf
  obtain ⟨x, y, z, hx, hy, hz, hne⟩ := hf'
  have nxy : x ≠ y := fun e => hne (by rw [e]; exact ar_xx X Y y z)
  obtain ⟨lo, hlo, _, lmin⟩ := fmin1 (n := n) (fun _ => True) (fun x y => Lx X Y x ≤ Lx X Y y) (fun x y _ _ => Int.le_total _ _) (fun x y z _ _ _ h1 h2 => Int.le_trans h1 h2) ⟨x, hx, trivial⟩
  obtain ⟨hi, hhi, _, hmax⟩ := fmin1 (n := n) (fun _ => True) (fun x y => Lx X Y y ≤ Lx X Y x) (fun x y _ _ => Int.le_total _ _) (fun x y z _ _ _ h1 h2 => Int.le_trans h2 h1) ⟨x, hx, trivial⟩
  have llo : ∀ u, u < n → u ≠ lo → 0 < Lx X Y u - Lx X Y lo := fun u hu hne => by
    have := lmin u hu trivial
    have : Lx X Y u ≠ Lx X Y lo := fun e => hne (hk u lo hu hlo e)
    omega
  have lhi : ∀ u, u < n → u ≠ hi → 0 < Lx X Y hi - Lx X Y u := fun u hu hne => by
    have := hmax u hu trivial
    have : Lx X Y u ≠ Lx X Y hi := fun e => hne (hk u hi hu hhi e)
    omega
  have nlh : lo ≠ hi := by
    intro e
    by_cases h : x = lo
    · have := llo y hy (by omega)
      have := hmax y hy trivial
      rw [← e] at this; omega
    · have := llo x hx h
      have := hmax x hx trivial
      rw [← e] at this; omega
  obtain ⟨⟨q, e1, t1⟩, q', e2, t2⟩ := ext hD hM (aff_L X Y (Lx X Y lo)) hlo (by show Lx X Y lo - Lx X Y lo = 0; omega) hhi (llo hi hhi (Ne.symm nlh)) llo
  obtain ⟨⟨s, e3, t3⟩, s', e4, t4⟩ := ext hD hM (aff_Ln X Y (Lx X Y hi)) hhi (by show Lx X Y hi - Lx X Y hi = 0; omega) hlo (lhi lo hlo nlh) lhi
  have d1 : q ≠ q' := fun e => by
    rw [← e] at t2
    rcases one_T hD hM hf e1 with h | h
    · exact t1 h
    · exact t2 h
  have g : ∀ z3 : Nat × Nat, (E z3.1 z3.2 ∧ ¬ hasT X Y n E z3.1 z3.2) → z3 ≠ (lo, q) → z3 ≠ (q', lo) → 3 ≤ cntP (prs n) (fun z => E z.1 z.2 ∧ ¬ hasT X Y n E z.1 z.2) := by
    intro z3 h3 n1 n2
    have n3 : (lo, q) ≠ (q', lo) := fun e => (hM.1 lo q e1).2.2.1 (congrArg Prod.snd e).symm
    have nd : [z3, (lo, q), (q', lo)].Nodup := by
      simp only [List.nodup_cons, List.mem_cons, List.not_mem_nil, or_false, not_or, List.nodup_nil, and_true, not_false_eq_true]
      exact ⟨⟨n1, n2⟩, n3⟩
    have c := cnt_inj (l := [z3, (lo, q), (q', lo)]) (l' := prs n) (P := fun _ => True) (Q := fun z => E z.1 z.2 ∧ ¬ hasT X Y n E z.1 z.2) id nd (fun z hz _ => by
      have ok : ∀ u : Nat × Nat, (E u.1 u.2 ∧ ¬ hasT X Y n E u.1 u.2) → id u ∈ prs n ∧ (E (id u).1 (id u).2 ∧ ¬ hasT X Y n E (id u).1 (id u).2) := fun u hu => ⟨prs_mem.mpr ⟨(hM.1 _ _ hu.1).1, (hM.1 _ _ hu.1).2.1⟩, hu⟩
      rcases List.mem_cons.mp hz with rfl | hz
      · exact ok z h3
      rcases List.mem_cons.mp hz with rfl | hz
      · exact ok (lo, q) ⟨e1, t1⟩
      rcases List.mem_cons.mp hz with rfl | hz
      · exact ok (q', lo) ⟨(hM.1 _ _ e2).2.2.2, t2⟩
      · cases hz) (fun x y _ _ _ _ h => h)
    rw [cnt_true] at c
    exact c
  by_cases h : q' = hi ∧ s = lo
  · refine g (s', hi) ⟨(hM.1 _ _ e4).2.2.2, t4⟩ (fun e => ?_) (fun e => ?_)
    · have := congrArg Prod.snd e
      have : hi = q := this
      exact d1 (by rw [h.1, this])
    · exact nlh (congrArg Prod.snd e).symm
  · refine g (hi, s) ⟨e3, t3⟩ (fun e => nlh (congrArg Prod.fst e).symm) (fun e => h ⟨(congrArg Prod.fst e).symm, congrArg Prod.snd e⟩)
/-- no more than 2 n - 5 triangles -/
theorem few_T {X Y : Nat → Int} {n : Nat} {E : Nat → Nat → Prop} (hD : Dst X Y n) (hB : Bd X Y n) (hM : Mx X Y n E) (hf : nfl X Y n) : cntP (prs n) (fun z => lst X Y n E ik z.1 z.2) + 5 ≤ 2 * n := by
  have hn : 0 < n := by obtain ⟨x, _, _, hx, _⟩ := hf; omega
  have e := euler hD hB hM hn
  have h := hull3 hD hB hM hf
  omega
