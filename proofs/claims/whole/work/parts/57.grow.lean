/-! M3: the new point's edges bend down; sets of triangles in the table -/
theorem new_bend {X Y : Nat → Int} {n v : Nat} {E : Nat → Nat → Prop} (hn : n + 1 ≤ 40) (hD : Dst X Y (n + 1)) (hB : Bd X Y (n + 1)) (hM : Mx X Y n E) (hb : ∀ v w, E v w → oS X Y v w n → bnd X Y n E v w) : bnd X Y (n + 1) (insE X Y n E) n v := by
  have hD' := hD.le (show n ≤ n + 1 by omega)
  have hM2 := ins_Mx hD hM
  intro x y k1 k2
  have l1 := k1.lt hM2
  have l2 := k2.lt hM2
  have ne1 := k1.ne
  have ne2 := k2.ne
  have gi := gd_iff hB hn l1.1 l1.2.1 l1.2.2 l2.2.2 k1.2.2.2.1 k2.2.2.2.1
  by_cases hg : gd X Y n v x y
  · exact gi.1 hg
  exfalso
  obtain ⟨hG, v1, v2⟩ := gi.2 hg
  have T1 := k1.rot
  have T2 := k2.rot.rot
  obtain ⟨vx, q1, q2⟩ := (ins_new hD hM (Ne.symm ne1.1) ne1.2.2).mp T1
  obtain ⟨yv, r1, r2⟩ := (ins_new hD hM (Ne.symm ne2.2.1) ne2.1).mp T2
  have hx := (hM.1 v x vx).2.1
  have hy := (hM.1 y v yv).1
  have hv := (hM.1 v x vx).1
  obtain ⟨w, hw⟩ := apex hD' hM yv hx v1
  obtain ⟨w', hw'⟩ := apex hD' hM vx hy (show 0 < (ar X Y v x y) by rw [← ar_c X Y y v x]; exact v1)
  have iw := r2 w hw
  have iw' := q2 w' hw'
  have e1 : (ar X Y x y n) = -(ar X Y n y x) := by have := ar_c X Y n y x; have := ar_s X Y x y n; omega
  have nxw : x ≠ w := fun e => by rw [← e] at iw; have := iw.2.2; omega
  have nyw : w' ≠ y := fun e => by rw [e] at iw'; have := iw'.2.1; omega
  have z1 : (ar X Y v w n) = 0 := by
    refine Decidable.byContradiction fun k => nxw ?_
    have t := (ins_new hD hM (by omega) (by have := (hM.1 v w hw.2.1).2.1; omega)).mpr ⟨hw.2.1, by have := iw.2.1; omega, fun u hu => by rw [Tr.uniq hM hu hw.rot]; exact inT_rot iw⟩
    exact (Tr.uniq hM2 t.rot.rot k1).symm
  have z2 : (ar X Y w' v n) = 0 := by
    refine Decidable.byContradiction fun k => nyw ?_
    have t := (ins_new hD hM (by have := (hM.1 w' v hw'.2.2.1).1; omega) (by omega)).mpr ⟨hw'.2.2.1, by have := iw'.2.2; omega, fun u hu => by rw [Tr.uniq hM hu hw'.rot.rot]; exact inT_rot (inT_rot iw')⟩
    exact Tr.uniq hM2 t.rot k2
  have o1 : oS X Y v w n := side_on hw.rot.2.2.2.1 (inT_rot iw) z1
  have o2 : oS X Y v w' n := oS_sym (side_on hw'.rot.rot.2.2.2.1 (inT_rot (inT_rot iw')) z2)
  have vw := hw.2.1
  have vw' := (hM.1 w' v hw'.2.2.1).2.2.2
  have hwn := (hM.1 v w vw).2.1
  have hwn' := (hM.1 v w' vw').2.1
  have nvw := (hM.1 v w vw).2.2.1
  have nvw' := (hM.1 v w' vw').2.2.1
  have qvn := hD.nq (show v < n + 1 by omega) (show n < n + 1 by omega) (by omega)
  have t0 : wb X Y v n v = 0 := by unfold wb; grind
  have tn : 0 < wb X Y v n n := by
    have : wb X Y v n n = sq X Y v n := by unfold wb sq; grind
    rw [this]; exact sq_pos qvn
  have tp : ∀ u, u < n → v ≠ u → oS X Y v u n → 0 < wb X Y v n u ∧ (ar X Y v n u) = 0 := by
    intro u hu nvu o
    have q := hD.nq (show v < n + 1 by omega) (show u < n + 1 by omega) nvu
    obtain ⟨w1, w2⟩ := oS_ws o q qvn (hD.nq (show u < n + 1 by omega) (show n < n + 1 by omega) (by omega))
    have t : sq X Y v u * wb X Y v n n = wa X Y v u n * wb X Y v n v + wb X Y v u n * wb X Y v n u := w_aff (aff_wb X Y v n) o.1
    rw [t0, Int.mul_zero, Int.zero_add] at t
    have := mpp (sq_pos q) tn
    exact ⟨cpos w2 (by omega), by have := ar_t X Y v n u; have := o.1; omega⟩
  obtain ⟨p1, c1⟩ := tp w hwn nvw o1
  obtain ⟨p2, c2⟩ := tp w' hwn' nvw' o2
  have ew : w = w' := by
    refine Decidable.byContradiction fun hne => ?_
    have cv := ar_xyx X Y v n
    rcases Int.le_total (wb X Y v n w) (wb X Y v n w') with h | h
    · exact hM.2.1 v w' vw' w hwn (Ne.symm nvw) hne (oS_of (aff_wb X Y v n) (col qvn cv c2 c1) (by show wb X Y v n v ≤ wb X Y v n w; omega) (by show wb X Y v n w ≤ wb X Y v n w'; omega) (by show wb X Y v n v < wb X Y v n w'; omega))
    · exact hM.2.1 v w vw w' hwn' (Ne.symm nvw') (Ne.symm hne) (oS_of (aff_wb X Y v n) (col qvn cv c1 c2) (by show wb X Y v n v ≤ wb X Y v n w'; omega) (by show wb X Y v n w' ≤ wb X Y v n w; omega) (by show wb X Y v n v < wb X Y v n w; omega))
  rw [← ew] at hw'
  have g1 := hb v w vw o1 y x hw.rot hw'.rot.rot
  have g2 := bend_on hD hB (show v < n + 1 by omega) (show w < n + 1 by omega) (show n < n + 1 by omega) nvw (by omega) (by omega) o1 g1 (by rw [← ar_c X Y y v x]; omega)
  rw [GH_s, GH_t] at g2
  omega
/-- what the suspects must hold after a new point -/
theorem ins_BS {X Y : Nat → Int} {n : Nat} {E lk : Nat → Nat → Prop} {l : List Nat} (hn : n + 1 ≤ 40) (hD : Dst X Y (n + 1)) (hB : Bd X Y (n + 1)) (hM : Mx X Y n E) (hg : ∀ x y, ¬ lk x y → bnd X Y n E x y) (hl : ∀ x y, lk x y → ¬ oS X Y x y n)
    (hS : ∀ x y w, Tr X Y (n + 1) (insE X Y n E) x y n → Tr X Y (n + 1) (insE X Y n E) y x w → cd x y ∈ l) : BS X Y (n + 1) (insE X Y n E) lk l := by
  intro x y nl nb
  have hM2 := ins_Mx hD hM
  have nbd : ∀ v, bnd X Y (n + 1) (insE X Y n E) n v := fun v => new_bend hn hD hB hM fun v w _ o => hg v w fun k => hl v w k o
  have hx : x ≠ n := fun e => by rw [e] at nb; exact nb (nbd y)
  have hy : y ≠ n := fun e => by rw [e] at nb; exact nb (bnd_sym (nbd x))
  refine Classical.byContradiction fun hin => nb fun z w k1 k2 => ?_
  by_cases ez : z = n
  · rw [ez] at k1; exact absurd (hS x y w k1 k2) hin
  · by_cases ew : w = n
    · rw [ew] at k2; exact absurd (by rw [cd_comm]; exact hS y x z k2 k1) hin
    · exact hg x y nl z w ((ins_old hD hM hx hy ez).mp k1).1 ((ins_old hD hM hy hx ew).mp k2).1
/-- the table holds just these triangles -/
def TP (s : mS) (K : Nat → Nat → Nat → Prop) : Prop := ∀ x y, x < 40 → y < 40 → (∀ z, K x y z → s.1 24 (40 * x + y) = nI z) ∧ ((∀ z, ¬ K x y z) → s.1 24 (40 * x + y) = -1)
def cells (a b c x y : Nat) : Prop := (x = a ∧ y = b) ∨ (x = b ∧ y = c) ∨ (x = c ∧ y = a)
def rt (a b c x y z : Nat) : Prop := (x = a ∧ y = b ∧ z = c) ∨ (x = b ∧ y = c ∧ z = a) ∨ (x = c ∧ y = a ∧ z = b)
theorem TP_take {s : mS} {K : Nat → Nat → Nat → Prop} (h : TP s K) {a b c : Nat} (ha : a < 40) (hb : b < 40) (hc : c < 40) : TP (uA 24 (th3 (s.1 24) a b c (-1) (-1) (-1)) s) (fun x y z => K x y z ∧ ¬ cells a b c x y) := by
  intro x y hx hy
  rw [uA_at, th3_at ha hb hc hx hy]
  by_cases k : cells a b c x y
  · refine ⟨fun z hz => absurd k hz.2, fun _ => ?_⟩
    rcases k with k | k | k
    · rw [if_pos k]
      split
      · rfl
      · split <;> rfl
    · rw [if_pos k]
      split <;> rfl
    · rw [if_pos k]
  · have n1 : ¬ (x = c ∧ y = a) := fun e => k (Or.inr (Or.inr e))
    have n2 : ¬ (x = b ∧ y = c) := fun e => k (Or.inr (Or.inl e))
    have n3 : ¬ (x = a ∧ y = b) := fun e => k (Or.inl e)
    rw [if_neg n1, if_neg n2, if_neg n3]
    obtain ⟨g1, g2⟩ := h x y hx hy
    exact ⟨fun z hz => g1 z hz.1, fun hn => g2 fun z hz => hn z ⟨hz, k⟩⟩
theorem TP_put {s : mS} {K : Nat → Nat → Nat → Prop} (h : TP s K) {a b c : Nat} (ha : a < 40) (hb : b < 40) (hc : c < 40) (nab : a ≠ b) (nbc : b ≠ c) (nca : c ≠ a) : TP (uA 24 (th3 (s.1 24) a b c (nI c) (nI a) (nI b)) s) (fun x y z => rt a b c x y z ∨ (K x y z ∧ ¬ cells a b c x y)) := by
  intro x y hx hy
  rw [uA_at, th3_at ha hb hc hx hy]
  by_cases k : cells a b c x y
  · have only : ∀ {z w : Nat}, rt a b c x y w → (rt a b c x y z ∨ (K x y z ∧ ¬ cells a b c x y)) → nI w = nI z := by
      intro z w h1 h2
      rcases h2 with h2 | h2
      · congr 1
        unfold rt at h1 h2
        omega
      · exact absurd k h2.2
    rcases k with k | k | k
    · have r : rt a b c x y c := Or.inl ⟨k.1, k.2, rfl⟩
      rw [if_neg (by omega), if_neg (by omega), if_pos k]
      exact ⟨fun z hz => only r hz, fun hn => absurd (Or.inl r) (hn c)⟩
    · have r : rt a b c x y a := Or.inr (Or.inl ⟨k.1, k.2, rfl⟩)
      rw [if_neg (by omega), if_pos k]
      exact ⟨fun z hz => only r hz, fun hn => absurd (Or.inl r) (hn a)⟩
    · have r : rt a b c x y b := Or.inr (Or.inr ⟨k.1, k.2, rfl⟩)
      rw [if_pos k]
      exact ⟨fun z hz => only r hz, fun hn => absurd (Or.inl r) (hn b)⟩
  · have n1 : ¬ (x = c ∧ y = a) := fun e => k (Or.inr (Or.inr e))
    have n2 : ¬ (x = b ∧ y = c) := fun e => k (Or.inr (Or.inl e))
    have n3 : ¬ (x = a ∧ y = b) := fun e => k (Or.inl e)
    rw [if_neg n1, if_neg n2, if_neg n3]
    obtain ⟨g1, g2⟩ := h x y hx hy
    refine ⟨fun z hz => ?_, fun hn => g2 fun z hz => hn z (Or.inr ⟨hz, k⟩)⟩
    rcases hz with hz | hz
    · refine absurd ?_ k
      unfold rt at hz
      unfold cells
      omega
    · exact g1 z hz.1
theorem TH.TP {s : mS} {n : Nat} {E : Nat → Nat → Prop} (h : TH s n E) : TP s (fun x y z => Tr (Xc s) (Yc s) n E x y z) := fun x y hx hy => ⟨(h x y hx hy).1, fun hn => (h x y hx hy).2 fun ⟨z, hz⟩ => hn z hz⟩
theorem TP.TH {s : mS} {n : Nat} {E : Nat → Nat → Prop} {K : Nat → Nat → Nat → Prop} (h : TP s K) (hK : ∀ x y z, K x y z ↔ Tr (Xc s) (Yc s) n E x y z) : TH s n E := fun x y hx hy => ⟨fun z hz => (h x y hx hy).1 z ((hK x y z).mpr hz), fun hn => (h x y hx hy).2 fun z hz => hn ⟨z, (hK x y z).mp hz⟩⟩
theorem TP.congr {s : mS} {K K' : Nat → Nat → Nat → Prop} (h : TP s K) (hK : ∀ x y z, K x y z ↔ K' x y z) : TP s K' := fun x y hx hy => ⟨fun z hz => (h x y hx hy).1 z ((hK x y z).mpr hz), fun hn => (h x y hx hy).2 fun z hz => hn z ((hK x y z).mp hz)⟩
theorem TP.same {s t : mS} {K : Nat → Nat → Nat → Prop} (h : TP s K) (h24 : t.1 24 = s.1 24) : TP t K := fun x y hx hy => by rw [h24]; exact h x y hx hy
theorem rt_Tr {X Y : Nat → Int} {n a b c x y z : Nat} {E : Nat → Nat → Prop} (h : Tr X Y n E a b c) (k : rt a b c x y z) : Tr X Y n E x y z := by
  rcases k with ⟨e1, e2, e3⟩ | ⟨e1, e2, e3⟩ | ⟨e1, e2, e3⟩
  · rw [e1, e2, e3]; exact h
  · rw [e1, e2, e3]; exact h.rot
  · rw [e1, e2, e3]; exact h.rot.rot
theorem Tr_rt {X Y : Nat → Int} {n a b c x y z : Nat} {E : Nat → Nat → Prop} (hM : Mx X Y n E) (h : Tr X Y n E a b c) (k : cells a b c x y) (hz : Tr X Y n E x y z) : rt a b c x y z := by
  rcases k with ⟨e1, e2⟩ | ⟨e1, e2⟩ | ⟨e1, e2⟩
  · rw [e1, e2] at hz; exact Or.inl ⟨e1, e2, Tr.uniq hM hz h⟩
  · rw [e1, e2] at hz; exact Or.inr (Or.inl ⟨e1, e2, Tr.uniq hM hz h.rot⟩)
  · rw [e1, e2] at hz; exact Or.inr (Or.inr ⟨e1, e2, Tr.uniq hM hz h.rot.rot⟩)
