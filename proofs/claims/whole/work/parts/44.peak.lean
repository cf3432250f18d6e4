/-! M3: one of the edges at the peak can be flipped, and so all that cross come away -/
theorem lev {X Y f : Nat → Int} (hf : Aff X Y f) {a b v w : Nat} (h : (ar X Y a b v) = (ar X Y a b w)) : sq X Y a b * (f w - f v) = (wb X Y a b w - wb X Y a b v) * (f b - f a) := by
  obtain ⟨u, c, k, e⟩ := hf
  have : sq X Y a b * (f w - f v) - (wb X Y a b w - wb X Y a b v) * (f b - f a) = ((ar X Y a b w) - (ar X Y a b v)) * (c * (X b - X a) - u * (Y b - Y a)) := by
    rw [e, e, e, e]; unfold sq wb ar; grind
  rw [h, Int.sub_self, Int.zero_mul] at this
  omega
theorem lev_eq {X Y : Nat → Int} {n a b v w : Nat} (hD : Dst X Y n) (ha : a < n) (hb : b < n) (nab : a ≠ b) (hv : v < n) (hw : w < n) (h : (ar X Y a b v) = (ar X Y a b w)) (ht : wb X Y a b v = wb X Y a b w) : v = w := by
  have hs := sq_pos (hD.nq ha hb nab)
  have e1 := lev (aff_x X Y) h
  have e2 := lev (aff_y X Y) h
  rw [ht, Int.sub_self, Int.zero_mul] at e1 e2
  have z1 := czz hs e1
  have z2 := czz hs e2
  exact hD v w hv hw (by omega) (by omega)
/-- of two left ends equally far the one whose edge crosses first comes first -/
theorem eqh {X Y : Nat → Int} {n a b v q w r : Nat} {E : Nat → Nat → Prop} (hD : Dst X Y n) (hM : Mx X Y n E) (ha : a < n) (hb : b < n) (nab : a ≠ b) (h1 : E v q) (h2 : E w r) (x1 : cx X Y a b q v) (x2 : cx X Y a b r w) (hh : (ar X Y a b v) = (ar X Y a b w)) (hp : pl X Y a b v q w r) : wb X Y a b v ≤ wb X Y a b w := by
  refine Decidable.byContradiction fun hlt => ?_
  obtain ⟨m1, m2, m3, m4⟩ := hM
  have hs := sq_pos (hD.nq ha hb nab)
  unfold pl at hp
  have g1 : sq X Y a b * ((ar X Y q v w) - (ar X Y q v v)) = (wb X Y a b w - wb X Y a b v) * ((ar X Y q v b) - (ar X Y q v a)) := lev (aff_ar X Y q v) hh
  have g2 : sq X Y a b * ((ar X Y r w v) - (ar X Y r w w)) = (wb X Y a b v - wb X Y a b w) * ((ar X Y r w b) - (ar X Y r w a)) := lev (aff_ar X Y r w) hh.symm
  rw [ar_yxx X Y q v, Int.sub_zero] at g1
  rw [ar_yxx X Y r w, Int.sub_zero] at g2
  have k1 := mNN (show wb X Y a b w - wb X Y a b v < 0 by omega) (show (ar X Y q v b) - (ar X Y q v a) < 0 by have := x1.2.2.1; have := x1.2.2.2; omega)
  have k2 := mpn (show 0 < wb X Y a b v - wb X Y a b w by omega) (show (ar X Y r w b) - (ar X Y r w a) < 0 by have := x2.2.2.1; have := x2.2.2.2; omega)
  have gw : 0 < (ar X Y q v w) := cpos hs (by omega)
  have gv : (ar X Y r w v) < 0 := cneg hs (by omega)
  have f1 : -(ar X Y a b r) * (ar X Y q v w) + (ar X Y a b w) * (ar X Y q v r) = -(ar X Y r w b) * (ar X Y q v a) + (ar X Y r w a) * (ar X Y q v b) := posX (aff_ar X Y q v) a b w r
  have f2 : -(ar X Y a b q) * (ar X Y r w v) + (ar X Y a b v) * (ar X Y r w q) = -(ar X Y q v b) * (ar X Y r w a) + (ar X Y q v a) * (ar X Y r w b) := posX (aff_ar X Y r w) a b v q
  rw [Int.mul_neg, Int.mul_neg] at hp
  rw [Int.neg_mul (ar X Y r w b), Int.mul_comm (ar X Y r w b)] at f1
  rw [Int.neg_mul (ar X Y q v b), Int.mul_comm (ar X Y q v b)] at f2
  have s1 : 0 < -(ar X Y a b r) := by have := x2.1; omega
  have s2 : 0 < (ar X Y a b w) := x2.2.1
  have s3 : 0 < -(ar X Y a b q) := by have := x1.1; omega
  have s4 : 0 < (ar X Y a b v) := x1.2.1
  have j1 := mpp s1 gw
  have gr : (ar X Y q v r) < 0 := cneg s2 (by omega)
  have j2 := mpn s3 gv
  have gq : 0 < (ar X Y r w q) := cpos s4 (by omega)
  exact m3 q v w r (m1 v q h1).2.2.2 h2 ⟨mpn gw gr, mnp (by have := ar_s X Y w r q; omega) (by have := ar_s X Y w r v; omega)⟩
/-- v is farther from the line than w, or as far and not behind it -/
def fth (X Y : Nat → Int) (a b v w : Nat) : Prop := (ar X Y a b w) < (ar X Y a b v) ∨ ((ar X Y a b w) = (ar X Y a b v) ∧ wb X Y a b v ≤ wb X Y a b w)
theorem peak_flip {X Y : Nat → Int} {n a b v q0 : Nat} {E : Nat → Nat → Prop} (hD : Dst X Y n) (hM : Mx X Y n E) (ha : a < n) (hb : b < n) (nab : a ≠ b) (hc : clr X Y n a b) (h0 : E v q0) (x0 : cx X Y a b q0 v)
    (hmax : ∀ p q, E p q → cx X Y a b q p → fth X Y a b v p) : ∃ r x y, E v r ∧ cx X Y a b r v ∧ FL X Y n E v r y x := by
  have hM' := hM
  obtain ⟨m1, m2, m3, m4⟩ := hM
  have hs := sq_pos (hD.nq ha hb nab)
  obtain ⟨r, hr, ⟨vr, xr⟩, hmin⟩ := fmin1 (n := n) (fun q => E v q ∧ cx X Y a b q v) (fun q q' => (ar X Y a b q) < (ar X Y a b q') ∨ ((ar X Y a b q) = (ar X Y a b q') ∧ wb X Y a b q ≤ wb X Y a b q'))
    (fun x y _ _ => by omega) (fun x y z _ _ _ h1 h2 => by omega) ⟨q0, (m1 v q0 h0).2.1, h0, x0⟩
  have rv := (m1 v r vr).2.2.2
  have s1 := xr.1
  have s2 := xr.2.1
  have s3 := xr.2.2.1
  have s4 := xr.2.2.2
  obtain ⟨x, hx⟩ := apex hD hM' rv ha s3
  obtain ⟨y, hy⟩ := apex hD hM' vr hb (show 0 < (ar X Y v r b) by have := ar_s X Y v r b; omega)
  have nx := NB hx.2.2.2.1 ha (m1 v x hx.2.1).2.1 hx.2.2.2.2 (clr_sym hc) (cx_rev xr)
  have ny := NB hy.2.2.2.1 hb (m1 r y hy.2.1).2.1 hy.2.2.2.2 hc xr
  have hvx := hx.2.1
  have hxr := hx.2.2.1
  have hyv := (m1 y v hy.2.2.1).2.2.2
  have hyr := (m1 r y hy.2.1).2.2.2
  have Ax := hx.2.2.2.1
  have Ay := hy.2.2.2.1
  have lx : ∀ z, (ar X Y r v z) = 0 → (ar X Y a b z) = (ar X Y a b x) → wb X Y a b x < wb X Y a b z := by
    intro z hz he
    have g : sq X Y a b * ((ar X Y r v x) - (ar X Y r v z)) = (wb X Y a b x - wb X Y a b z) * ((ar X Y r v b) - (ar X Y r v a)) := lev (aff_ar X Y r v) he
    rw [hz, Int.sub_zero] at g
    have := mpp hs Ax
    refine Decidable.byContradiction fun k => ?_
    have := zpn (show 0 ≤ wb X Y a b x - wb X Y a b z by omega) (show (ar X Y r v b) - (ar X Y r v a) ≤ 0 by omega)
    omega
  have px : (ar X Y a b r) < (ar X Y a b x) ∧ (ar X Y a b x) < (ar X Y a b v) := by
    have e1 := ar_s X Y b a x
    rcases nx with e | ⟨k1, k2⟩ | ⟨k1, k2⟩
    · rw [e, ar_xyx]; omega
    · refine ⟨?_, by omega⟩
      rcases hmin x (m1 v x hvx).2.1 ⟨hvx, cx_rev k2⟩ with h | ⟨h, h'⟩
      · exact h
      · have := lx r (ar_xyx X Y r v) h
        omega
    · refine ⟨by omega, ?_⟩
      rcases hmax x r hxr (cx_rev k2) with h | ⟨h, h'⟩
      · exact h
      · have := lx v (ar_yxx X Y r v) h.symm
        omega
  have py : (ar X Y a b r) ≤ (ar X Y a b y) ∧ (ar X Y a b y) ≤ (ar X Y a b v) := by
    rcases ny with e | ⟨k1, k2⟩ | ⟨k1, k2⟩
    · rw [e, ar_yxx]; omega
    · refine ⟨by omega, ?_⟩
      rcases hmax y r hyr k2 with h | ⟨h, h'⟩ <;> omega
    · refine ⟨?_, by omega⟩
      rcases hmin y (m1 v y hyv).2.1 ⟨hyv, k2⟩ with h | ⟨h, h'⟩ <;> omega
  refine ⟨r, x, y, vr, xr, hy, hx, ?_, ?_⟩
  · have t : ((ar X Y a b v) - (ar X Y a b r)) * (ar X Y r x y) + ((ar X Y a b x) - (ar X Y a b r)) * (ar X Y r y v) + ((ar X Y a b y) - (ar X Y a b r)) * (ar X Y r v x) = 0 := T3 (aff_c X Y (aff_ar X Y a b) (ar X Y a b r)) (a := r) (by show (ar X Y a b r) - (ar X Y a b r) = 0; omega) v x y
    have e1 : (ar X Y r x y) = -(ar X Y x r y) := ar_s X Y r x y
    have e2 : (ar X Y r y v) = (ar X Y v r y) := (ar_c X Y v r y).symm
    rw [e1, e2, Int.mul_neg] at t
    have k1 := mpp (show 0 < (ar X Y a b x) - (ar X Y a b r) by omega) Ay
    have k2 := zpp (show 0 ≤ (ar X Y a b y) - (ar X Y a b r) by omega) (Int.le_of_lt Ax)
    exact cpos (show 0 < (ar X Y a b v) - (ar X Y a b r) by omega) (by omega)
  · have t : ((ar X Y a b r) - (ar X Y a b v)) * (ar X Y v x y) + ((ar X Y a b x) - (ar X Y a b v)) * (ar X Y v y r) + ((ar X Y a b y) - (ar X Y a b v)) * (ar X Y v r x) = 0 := T3 (aff_c X Y (aff_ar X Y a b) (ar X Y a b v)) (a := v) (by show (ar X Y a b v) - (ar X Y a b v) = 0; omega) r x y
    have e1 : (ar X Y v y r) = -(ar X Y v r y) := ar_t X Y v y r
    have e2 : (ar X Y v r x) = -(ar X Y r v x) := ar_s X Y v r x
    rw [e1, e2, Int.mul_neg, Int.mul_neg] at t
    have k1 := mnp (show (ar X Y a b x) - (ar X Y a b v) < 0 by omega) Ay
    have k2 := znp (show (ar X Y a b y) - (ar X Y a b v) ≤ 0 by omega) (Int.le_of_lt Ax)
    refine cpos (show 0 < -((ar X Y a b r) - (ar X Y a b v)) by omega) ?_
    rw [Int.neg_mul]; omega
noncomputable def cntP {α : Type} (l : List α) (P : α → Prop) : Nat := (l.filter (fun x => @decide (P x) (Classical.propDecidable _))).length
theorem cnt_cons {α : Type} (x : α) (l : List α) (P : α → Prop) : (P x → cntP (x :: l) P = cntP l P + 1) ∧ (¬ P x → cntP (x :: l) P = cntP l P) := by
  unfold cntP
  constructor
  · intro h
    rw [List.filter_cons, if_pos (@decide_eq_true (P x) (Classical.propDecidable _) h)]
    rfl
  · intro h
    rw [List.filter_cons, if_neg (fun e => h (@of_decide_eq_true (P x) (Classical.propDecidable _) e))]
theorem cnt_le {α : Type} {P Q : α → Prop} : ∀ l : List α, (∀ x, x ∈ l → P x → Q x) → cntP l P ≤ cntP l Q := by
  intro l
  induction l with
  | nil => intro _; exact Nat.le_refl _
  | cons x l ih =>
    intro h
    have i := ih fun y hy => h y (List.mem_cons_of_mem _ hy)
    by_cases p : P x
    · rw [(cnt_cons x l P).1 p, (cnt_cons x l Q).1 (h x List.mem_cons_self p)]
      omega
    · rw [(cnt_cons x l P).2 p]
      by_cases q : Q x
      · rw [(cnt_cons x l Q).1 q]; omega
      · rw [(cnt_cons x l Q).2 q]; omega
theorem cnt_lt {α : Type} {P Q : α → Prop} : ∀ l : List α, (∀ x, x ∈ l → P x → Q x) → (∃ x, x ∈ l ∧ Q x ∧ ¬ P x) → cntP l P < cntP l Q := by
  intro l
  induction l with
  | nil => intro _ ⟨x, hx, _⟩; cases hx
  | cons x l ih =>
    intro h ⟨z, hz, qz, pz⟩
    have hl : ∀ y, y ∈ l → P y → Q y := fun y hy => h y (List.mem_cons_of_mem _ hy)
    rcases List.mem_cons.mp hz with rfl | hz
    · rw [(cnt_cons z l P).2 pz, (cnt_cons z l Q).1 qz]
      have := cnt_le l hl
      omega
    · have i := ih hl ⟨z, hz, qz, pz⟩
      by_cases p : P x
      · rw [(cnt_cons x l P).1 p, (cnt_cons x l Q).1 (h x List.mem_cons_self p)]
        omega
      · rw [(cnt_cons x l P).2 p]
        by_cases q : Q x
        · rw [(cnt_cons x l Q).1 q]; omega
        · rw [(cnt_cons x l Q).2 q]; omega
theorem cnt_len {α : Type} (l : List α) (P : α → Prop) : cntP l P ≤ l.length := List.length_filter_le _ _
noncomputable def rnk (X Y : Nat → Int) (n a b v : Nat) : Nat := cntP (List.range n) (fun w => (ar X Y a b w) < (ar X Y a b v) ∨ ((ar X Y a b w) = (ar X Y a b v) ∧ wb X Y a b v < wb X Y a b w))
noncomputable def dgr (X Y : Nat → Int) (n : Nat) (E : Nat → Nat → Prop) (a b v : Nat) : Nat := cntP (List.range n) (fun q => E v q ∧ cx X Y a b q v)
/-- v is the peak, and m flips will do -/
def Pk (X Y : Nat → Int) (n : Nat) (E : Nat → Nat → Prop) (a b v m : Nat) : Prop := (∃ q, E v q ∧ cx X Y a b q v) ∧ (∀ p q, E p q → cx X Y a b q p → fth X Y a b v p) ∧ rnk X Y n a b v * (n + 1) + dgr X Y n E a b v ≤ m
def Ms (X Y : Nat → Int) (n : Nat) (E : Nat → Nat → Prop) (a b m : Nat) : Prop := (∀ p q, E p q → ¬ cx X Y a b q p) ∨ ∃ v, Pk X Y n E a b v m
theorem Ms_ex {X Y : Nat → Int} {n a b p q : Nat} {E : Nat → Nat → Prop} (hM : Mx X Y n E) (h : E p q) (hx : cx X Y a b q p) : ∃ v, (∃ q, E v q ∧ cx X Y a b q v) ∧ ∀ p q, E p q → cx X Y a b q p → fth X Y a b v p := by
  obtain ⟨v, hv, hv2, hmax⟩ := fmin1 (n := n) (fun v => ∃ q, E v q ∧ cx X Y a b q v) (fth X Y a b) (fun x y _ _ => by unfold fth; omega) (fun x y z _ _ _ h1 h2 => by unfold fth at *; omega) ⟨p, (hM.1 p q h).1, q, h, hx⟩
  exact ⟨v, hv2, fun p q h k => hmax p (hM.1 p q h).1 ⟨q, h, k⟩⟩
theorem Ms_init {X Y : Nat → Int} {n : Nat} {E : Nat → Nat → Prop} (hM : Mx X Y n E) (a b : Nat) : Ms X Y n E a b (n * (n + 1) + n) := by
  by_cases h : ∃ p q, E p q ∧ cx X Y a b q p
  · obtain ⟨p, q, h, k⟩ := h
    obtain ⟨v, h1, h2⟩ := Ms_ex hM h k
    refine Or.inr ⟨v, h1, h2, ?_⟩
    have r := cnt_len (List.range n) (fun w => (ar X Y a b w) < (ar X Y a b v) ∨ ((ar X Y a b w) = (ar X Y a b v) ∧ wb X Y a b v < wb X Y a b w))
    have d := cnt_len (List.range n) (fun q => E v q ∧ cx X Y a b q v)
    rw [List.length_range] at r d
    have := Nat.mul_le_mul_right (n + 1) r
    unfold rnk dgr
    omega
  · exact Or.inl fun p q k1 k2 => h ⟨p, q, k1, k2⟩
theorem Ms_step {X Y : Nat → Int} {n a b v r x y m : Nat} {E : Nat → Nat → Prop} (hD : Dst X Y n) (hM : Mx X Y n E) (ha : a < n) (hb : b < n) (nab : a ≠ b) (hc : clr X Y n a b) (hk : Pk X Y n E a b v (m + 1)) (xr : cx X Y a b r v) (hF : FL X Y n E v r y x) : Ms X Y n (fl E v r y x) a b m := by
  have hM2 := fl_Mx hD hM hF
  obtain ⟨nvr, nvy, nvx, nry, nrx, nyx⟩ := hF.ne
  have vr := hF.1.1
  obtain ⟨hv, hr, _, _⟩ := hM.1 v r vr
  have nx := NB hF.2.1.2.2.2.1 ha (hM.1 v x hF.2.1.2.1).2.1 hF.2.1.2.2.2.2 (clr_sym hc) (cx_rev xr)
  have ny := NB hF.1.2.2.2.1 hb (hM.1 r y hF.1.2.1).2.1 hF.1.2.2.2.2 hc xr
  have e1 := ar_s X Y b a x
  -- who has a crossing edge now had one before
  have old : ∀ p q, fl E v r y x p q → cx X Y a b q p → (E p q ∧ ¬ (p = v ∧ q = r)) ∨ (p ≠ v ∧ ∃ q, E p q ∧ cx X Y a b q p) := by
    intro p q h k
    rcases h with ⟨h, k1, k2⟩ | ⟨h1, h2⟩ | ⟨h1, h2⟩
    · exact Or.inl ⟨h, k1⟩
    · right
      rw [h1] at k ⊢
      refine ⟨Ne.symm nvy, r, (hM.1 r y hF.1.2.1).2.2.2, ?_⟩
      have := k.2.1
      rcases ny with e | ⟨_, k2⟩ | ⟨k1, _⟩
      · rw [e, ar_yxx] at this; omega
      · exact k2
      · omega
    · right
      rw [h1] at k ⊢
      refine ⟨Ne.symm nvx, r, hF.2.1.2.2.1, ?_⟩
      have := k.2.1
      rcases nx with e | ⟨k1, _⟩ | ⟨_, k2⟩
      · rw [e, ar_xyx] at this; omega
      · omega
      · exact cx_rev k2
  obtain ⟨_, hmax, hm⟩ := hk
  have hmax2 : ∀ p q, fl E v r y x p q → cx X Y a b q p → fth X Y a b v p := by
    intro p q h k
    rcases old p q h k with ⟨h, _⟩ | ⟨_, q', h, k'⟩
    · exact hmax p q h k
    · exact hmax p q' h k'
  have dg : dgr X Y n (fl E v r y x) a b v < dgr X Y n E a b v := by
    refine cnt_lt _ (fun q _ ⟨h, k⟩ => ?_) ⟨r, List.mem_range.mpr hr, ⟨vr, xr⟩, fun ⟨h, _⟩ => ?_⟩
    · rcases old v q h k with ⟨h, _⟩ | ⟨h, _⟩
      · exact ⟨h, k⟩
      · exact absurd rfl h
    · rcases h with ⟨_, h, _⟩ | ⟨h, _⟩ | ⟨h, _⟩
      · exact h ⟨rfl, rfl⟩
      · exact nvy h
      · exact nvx h
  by_cases al : ∃ q, fl E v r y x v q ∧ cx X Y a b q v
  · exact Or.inr ⟨v, al, hmax2, by omega⟩
  · by_cases h : ∃ p q, fl E v r y x p q ∧ cx X Y a b q p
    · obtain ⟨p, q, h, k⟩ := h
      obtain ⟨u, ⟨q1, u1, u2⟩, u3⟩ := Ms_ex hM2 h k
      refine Or.inr ⟨u, ⟨q1, u1, u2⟩, u3, ?_⟩
      have nuv : u ≠ v := fun e => al ⟨q1, by rw [e] at u1; exact u1, by rw [e] at u2; exact u2⟩
      have hu := (hM2.1 u q1 u1).1
      have f := hmax2 u q1 u1 u2
      have f2 : (ar X Y a b u) < (ar X Y a b v) ∨ ((ar X Y a b u) = (ar X Y a b v) ∧ wb X Y a b v < wb X Y a b u) := by
        rcases f with f | ⟨f, g⟩
        · exact Or.inl f
        · refine Or.inr ⟨f, Decidable.byContradiction fun k => nuv (lev_eq hD ha hb nab hu hv f (by omega))⟩
      have rk : rnk X Y n a b u < rnk X Y n a b v := by
        refine cnt_lt _ (fun w _ k => ?_) ⟨u, List.mem_range.mpr hu, f2, fun k => ?_⟩ <;> omega
      have d := cnt_len (List.range n) (fun q => fl E v r y x u q ∧ cx X Y a b q u)
      rw [List.length_range] at d
      have := Nat.mul_le_mul_right (n + 1) (show rnk X Y n a b u + 1 ≤ rnk X Y n a b v from rk)
      rw [Nat.add_mul] at this
      unfold dgr at hm dg ⊢
      omega
    · exact Or.inl fun p q k1 k2 => h ⟨p, q, k1, k2⟩
/-- where a, b is no edge it leaves a between two edges of a triangle -/
theorem first_tri {X Y : Nat → Int} {n a b : Nat} {E : Nat → Nat → Prop} (hD : Dst X Y n) (hM : Mx X Y n E) (ha : a < n) (hb : b < n) (nab : a ≠ b) (hc : clr X Y n a b) (hE : ¬ E a b) : ∃ r l, Tr X Y n E a r l ∧ (ar X Y a b r) < 0 ∧ 0 < (ar X Y a b l) := by
  have hM' := hM
  obtain ⟨m1, m2, m3, m4⟩ := hM
  have hex : ∃ p q, p < n ∧ q < n ∧ (E p q ∧ cx X Y a b q p) := Classical.byContradiction fun k => hE (m4 a b ha hb nab hc fun c d hcd hx => by
    have := m1 c d hcd
    rcases cx_of hx with h | h
    · exact k ⟨d, c, this.2.1, this.1, this.2.2.2, h⟩
    · exact k ⟨c, d, this.1, this.2.1, hcd, h⟩)
  obtain ⟨p, q, hp, hq, ⟨hpq, hx⟩, hmin⟩ := fmin2 (n := n) (fun z => E z.1 z.2 ∧ cx X Y a b z.2 z.1) (fun z w => ¬ pl X Y a b w.1 w.2 z.1 z.2)
    (fun z w _ _ => by unfold pl; omega)
    (fun x y z h1 h2 h3 k1 k2 k3 => by
      by_cases h : pl X Y a b y.1 y.2 z.1 z.2
      · exact k1 (by
          have := pl_trans h2.2 h3.2 h1.2 h k3
          exact this)
      · unfold pl at *
        have g1 : 0 < -(ar X Y x.2 x.1 b) := by have := h1.2.2.2.2; omega
        have g2 : 0 < -(ar X Y y.2 y.1 b) := by have := h2.2.2.2.2; omega
        have g3 : 0 < -(ar X Y z.2 z.1 b) := by have := h3.2.2.2.2; omega
        revert k1 k2 k3 g1 g2 g3 h
        generalize -(ar X Y x.2 x.1 b) = dx
        generalize -(ar X Y y.2 y.1 b) = dy
        generalize -(ar X Y z.2 z.1 b) = dz
        generalize (ar X Y x.2 x.1 a) = ax
        generalize (ar X Y y.2 y.1 a) = ay
        generalize (ar X Y z.2 z.1 a) = az
        intro k1 k2 k3 h g1 g2 g3
        have a1 := zpp (show 0 ≤ ay * dx - ax * dy by omega) (Int.le_of_lt g3)
        have b1 := zpp (show 0 ≤ az * dy - ay * dz by omega) (Int.le_of_lt g1)
        have e : (ay * dx - ax * dy) * dz + (az * dy - ay * dz) * dx = dy * (az * dx - ax * dz) := by grind
        have := cnn g2 (show 0 ≤ dy * (az * dx - ax * dz) by omega)
        omega) hex
  have hx : cx X Y a b q p := hx
  have hpq : E p q := hpq
  have near : ∀ u v, E u v → cx X Y a b v u → ¬ pl X Y a b u v p q := fun u v h k => hmin u v (m1 u v h).1 (m1 u v h).2.1 ⟨h, k⟩
  obtain ⟨t, ht⟩ := apex hD hM' (m1 p q hpq).2.2.2 ha hx.2.2.1
  rcases NB ht.2.2.2.1 ha (m1 p t ht.2.1).2.1 ht.2.2.2.2 (clr_sym hc) (cx_rev hx) with e | ⟨_, k⟩ | ⟨_, k⟩
  · rw [e] at ht
    exact ⟨q, p, ht.rot.rot, hx.1, hx.2.1⟩
  · exact absurd (pl_2 (cx_rev k) (by rw [← ar_c X Y q p t]; exact ht.2.2.2.1)) (near p t ht.2.1 (cx_rev k))
  · exact absurd (pl_1 (cx_rev k) (by rw [ar_c X Y t q p]; exact ht.2.2.2.1)) (near t q ht.2.2.1 (cx_rev k))
