/-! M2: the edges that cross a new link are listed -/
def lf (s t : mS) : Prop := sm [30, 31] [] [4] [] s t
theorem lf.z {s t : mS} (h : lf s t) : mz s t := h.mono (by decide) (by decide) (by decide) (by decide)
theorem f30_ev {s : mS} {n a b : Nat} {E : Nat → Nat → Prop} (hC : CX s n E) (ha : a < n) (hb : b < n) (hex : ∃ r l, Tr (Xc s) (Yc s) n E a r l ∧ ar (Xc s) (Yc s) a b r < 0 ∧ 0 < ar (Xc s) (Yc s) a b l) :
    ∃ r l, ev (fun k => f30 k (nI a) (nI b) s) (nI r) ∧ Tr (Xc s) (Yc s) n E a r l ∧ ar (Xc s) (Yc s) a b r < 0 ∧ 0 < ar (Xc s) (Yc s) a b l := by
  obtain ⟨h1, h2, h3, h4, h5, h6⟩ := hC
  have main : ∀ d v, v + d = n → (∃ r l, v ≤ r ∧ Tr (Xc s) (Yc s) n E a r l ∧ ar (Xc s) (Yc s) a b r < 0 ∧ 0 < ar (Xc s) (Yc s) a b l) → ∃ r l, ev (fun k => r30 k (nI a) (nI b) (nI v) s) (nI r) ∧ Tr (Xc s) (Yc s) n E a r l ∧ ar (Xc s) (Yc s) a b r < 0 ∧ 0 < ar (Xc s) (Yc s) a b l := by
    intro d
    induction d with
    | zero =>
      intro v hv ⟨r, l, hr, hT, _⟩
      have := hT.lt h5
      omega
    | succ d ih =>
      intro v hv ⟨r, l, hr, hT, hs1, hs2⟩
      have go : (∀ l, Tr (Xc s) (Yc s) n E a v l → ¬ (ar (Xc s) (Yc s) a b v < 0 ∧ 0 < ar (Xc s) (Yc s) a b l)) → (∀ k, r30 (k + 1) (nI a) (nI b) (nI v) s = r30 k (nI a) (nI b) (nI (v + 1)) s) → ∃ r l, ev (fun k => r30 k (nI a) (nI b) (nI v) s) (nI r) ∧ Tr (Xc s) (Yc s) n E a r l ∧ ar (Xc s) (Yc s) a b r < 0 ∧ 0 < ar (Xc s) (Yc s) a b l := by
        intro hno hs
        have nrv : r ≠ v := fun e => by rw [e] at hT hs1; exact hno l hT ⟨hs1, hs2⟩
        obtain ⟨r', l', g1, g2⟩ := ih (v + 1) (by omega) ⟨r, l, by omega, hT, hs1, hs2⟩
        exact ⟨r', l', ev1 g1 fun k hk => by show r30 (k + 1) _ _ _ _ = _; rw [hs]; exact hk, g2⟩
      have base : ∀ k, r30 (k + 1) (nI a) (nI b) (nI v) s = (if s.1 24 (40 * a + v) = -1 then r30 k (nI a) (nI b) (nI (v + 1)) s else if 0 ≤ ar (Xc s) (Yc s) a b v then r30 k (nI a) (nI b) (nI (v + 1)) s else (f73 (nI a) (nI b) (s.1 24 (40 * a + v)) s).bind fun q10 => if q10 ≤ 0 then r30 k (nI a) (nI b) (nI (v + 1)) s else some (nI v)) := by
        intro k
        simp only [r30]
        rw [f66_eq h2]
        simp only [Option.bind_some]
        rw [if_neg (fun q => by have := (nI_leI (by omega) (by omega)).mp q; omega), f54_eq (by omega) (by omega), nI_inc]
        simp only [Option.bind_some]
        rw [f73_eq h1 (by omega) (by omega) (by omega)]
        simp only [Option.bind_some, sgn_ge]
      by_cases hh : hasT (Xc s) (Yc s) n E a v
      · obtain ⟨w, hw⟩ := hh
        have lw := hw.lt h5
        have ew := (h6 a v (by omega) (by omega)).1 w hw
        have b2 : ∀ k, r30 (k + 1) (nI a) (nI b) (nI v) s = (if 0 ≤ ar (Xc s) (Yc s) a b v then r30 k (nI a) (nI b) (nI (v + 1)) s else if ar (Xc s) (Yc s) a b w ≤ 0 then r30 k (nI a) (nI b) (nI (v + 1)) s else some (nI v)) := by
          intro k
          rw [base, ew, if_neg (nI_m1 (by omega)), f73_eq h1 (by omega) (by omega) (by omega)]
          simp only [Option.bind_some, sgn_le]
        by_cases c1 : 0 ≤ ar (Xc s) (Yc s) a b v
        · exact go (fun l _ h => by omega) fun k => by rw [b2, if_pos c1]
        · by_cases c2 : ar (Xc s) (Yc s) a b w ≤ 0
          · refine go (fun l hl h => ?_) fun k => by rw [b2, if_neg c1, if_pos c2]
            rw [Tr.uniq h5 hl hw] at h
            omega
          · exact ⟨v, w, ev_c fun k => by show r30 (k + 1) _ _ _ _ = _; rw [b2, if_neg c1, if_neg c2], hw, by omega, by omega⟩
      · exact go (fun l hl _ => hh ⟨l, hl⟩) fun k => by rw [base, (h6 a v (by omega) (by omega)).2 hh, if_pos rfl]
  obtain ⟨r, l, hT, hs⟩ := hex
  exact main n 0 (by omega) ⟨r, l, by omega, hT, hs⟩
/-- the list as it stands in the tables -/
def lst9 (s : mS) (Q : List (Nat × Nat)) : Prop := s.2.2.1 4 = nI Q.length ∧ ∀ i z, Q[i]? = some z → s.1 30 i = nI z.1 ∧ s.1 31 i = nI z.2
/-- an edge that crosses a, b, its left end first -/
def ce (X Y : Nat → Int) (E : Nat → Nat → Prop) (a b : Nat) (z : Nat × Nat) : Prop := E z.1 z.2 ∧ cx X Y a b z.2 z.1
theorem ce_few {s : mS} {n a b : Nat} {E : Nat → Nat → Prop} {L : List Nat} {Q : List (Nat × Nat)} (hC : CX s n E) (hb : b < n) (hL : NL (Xc s) (Yc s) n E 1600 L) (hQ : ∀ z, z ∈ Q → ce (Xc s) (Yc s) E a b z) (hnd : Q.Nodup) : Q.length ≤ L.length := by
  obtain ⟨h1, h2, h3, h4, h5, h6⟩ := hC
  have ex : ∀ z, ce (Xc s) (Yc s) E a b z → ∃ i, i < L.length ∧ ∃ u v w x, L[i]? = some (40 * u + v) ∧ v < 40 ∧ Tr (Xc s) (Yc s) n E u v w ∧ Tr (Xc s) (Yc s) n E z.1 z.2 x ∧ cells u v w z.1 z.2 := by
    intro z hz
    obtain ⟨x, hx⟩ := apex h4 h5 hz.1 hb (show 0 < ar (Xc s) (Yc s) z.1 z.2 b by have := ar_s (Xc s) (Yc s) z.1 z.2 b; have := hz.2.2.2.2; omega)
    obtain ⟨i, u, v, w, hi, e, hv, hT, hc⟩ := NM_ex h3 h5 hL hx
    exact ⟨i, hi, u, v, w, x, e, hv, hT, hx, hc⟩
  have hc := cnt_inj (l := Q) (l' := List.range L.length) (P := fun _ => True) (Q := fun _ => True) (fun z => @dite Nat (ce (Xc s) (Yc s) E a b z) (Classical.propDecidable _) (fun h => Classical.choose (ex z h)) (fun _ => 0)) hnd
    (fun z hz _ => by
      rw [dif_pos (hQ z hz)]
      exact ⟨List.mem_range.mpr (Classical.choose_spec (ex z (hQ z hz))).1, trivial⟩)
    (fun z w hz hw _ _ e => by
      rw [dif_pos (hQ z hz), dif_pos (hQ w hw)] at e
      obtain ⟨i1, u, v, x, y, e1, hv1, hT1, hx1, hc1⟩ := Classical.choose_spec (ex z (hQ z hz))
      obtain ⟨i2, u', v', x', y', e2, hv2, hT2, hx2, hc2⟩ := Classical.choose_spec (ex w (hQ w hw))
      rw [e] at e1
      rw [e1] at e2
      have e2 : 40 * u + v = 40 * u' + v' := by simpa using e2
      have eu : u' = u := by omega
      have ev' : v' = v := by omega
      rw [eu, ev'] at hT2 hc2
      rw [Tr.uniq h5 hT2 hT1] at hc2
      have s1 := (hQ z hz).2.1
      have s2 := (hQ z hz).2.2.1
      have s3 := (hQ w hw).2.1
      have s4 := (hQ w hw).2.2.1
      -- one triangle: its sides have two ends on two sides of the line; only one goes from left to right
      have both : z.1 = w.1 ∧ z.2 = w.2 := by
        rcases hc1 with ⟨p1, p2⟩ | ⟨p1, p2⟩ | ⟨p1, p2⟩ <;> rcases hc2 with ⟨q1, q2⟩ | ⟨q1, q2⟩ | ⟨q1, q2⟩
        · exact ⟨by omega, by omega⟩
        · rw [p2] at s1; rw [q1] at s4; omega
        · rw [p1] at s2; rw [q2] at s3; omega
        · rw [p1] at s2; rw [q2] at s3; omega
        · exact ⟨by omega, by omega⟩
        · rw [p2] at s1; rw [q1] at s4; omega
        · rw [p2] at s1; rw [q1] at s4; omega
        · rw [p1] at s2; rw [q2] at s3; omega
        · exact ⟨by omega, by omega⟩
      exact Prod.ext both.1 both.2)
  rw [cnt_true, cnt_true, List.length_range] at hc
  exact hc
theorem r29_ev {n a b : Nat} {E : Nat → Nat → Prop} {L : List Nat} (ha : a < n) (hb : b < n) (h75 : L.length ≤ 75) : ∀ m s Q l r, CX s n E → NL (Xc s) (Yc s) n E 1600 L → clr (Xc s) (Yc s) n a b → lst9 s Q → (∀ z, z ∈ Q → ce (Xc s) (Yc s) E a b z) → Q.Pairwise (fun z w => pl (Xc s) (Yc s) a b z.1 z.2 w.1 w.2) →
    ce (Xc s) (Yc s) E a b (l, r) → (∀ z, z ∈ Q → pl (Xc s) (Yc s) a b z.1 z.2 l r) → (∀ z, ce (Xc s) (Yc s) E a b z → z ∈ Q ∨ z = (l, r) ∨ pl (Xc s) (Yc s) a b l r z.1 z.2) → Q.length + m = 75 → ∀ nx : Nat, nx < 2 ^ 31 → nx ≠ b →
    ∃ t Q', ev (fun k => r29 k (nI a) (nI b) (nI r) (nI l) (nI nx) s) t ∧ lf s t ∧ lst9 t Q' ∧ (∀ z, z ∈ Q' ↔ ce (Xc s) (Yc s) E a b z) ∧ Q'.Pairwise (fun z w => pl (Xc s) (Yc s) a b z.1 z.2 w.1 w.2) := by
  intro m
  induction m with
  | zero =>
    intro s Q l r hC hL hc hS hQ hpw hlr hbef hall hm nx hnx hnb
    exfalso
    have nd : (Q ++ [(l, r)]).Nodup := by
      have pw : (Q ++ [(l, r)]).Pairwise (fun z w => pl (Xc s) (Yc s) a b z.1 z.2 w.1 w.2) := List.pairwise_append.mpr ⟨hpw, List.pairwise_singleton _ _, fun x hx y hy => by rw [List.mem_singleton.mp hy]; exact hbef x hx⟩
      exact List.Pairwise.imp (fun {x y} h e => by rw [e] at h; exact pl_irr h) pw
    have := ce_few hC hb hL (fun z hz => by
      rcases List.mem_append.mp hz with h | h
      · exact hQ z h
      · rw [List.mem_singleton.mp h]; exact hlr) nd
    rw [List.length_append] at this
    simp at this
    omega
  | succ m ih =>
    intro s Q l r hC hL hc hS hQ hpw hlr hbef hall hm nx hnx hnb
    have hC' := hC
    obtain ⟨h1, h2, h3, h4, h5, h6⟩ := hC
    obtain ⟨hE, hx⟩ := hlr
    have hE : E l r := hE
    have hx : cx (Xc s) (Yc s) a b r l := hx
    obtain ⟨ll, lr, nlr, hrl⟩ := h5.1 l r hE
    have hpb : 0 < ar (Xc s) (Yc s) l r b := by have := ar_s (Xc s) (Yc s) l r b; have := hx.2.2.2; omega
    obtain ⟨w, hw⟩ := apex h4 h5 hE hb hpb
    have lw := hw.lt h5
    have ew := (h6 l r (by omega) (by omega)).1 w hw
    -- the state after the row is written
    let s8 := uA 31 (upd (s.1 31) Q.length (nI r)) (uA 30 (upd (s.1 30) Q.length (nI l)) s)
    let s9 := uF 4 (nI (Q.length + 1)) s8
    have z9 : lf s s9 := ((sm_A (by decide) _ s).trans (sm_A (by decide) _ _)).trans (sm_F (by decide) _ _)
    have hC9 : CX s9 n E := hC'.same z9.z rfl
    have hS9 : lst9 s9 (Q ++ [(l, r)]) := by
      refine ⟨by rw [uF_at, List.length_append]; rfl, fun i z hz => ?_⟩
      show upd (s.1 30) Q.length (nI l) i = nI z.1 ∧ upd (s.1 31) Q.length (nI r) i = nI z.2
      unfold upd
      by_cases il : i < Q.length
      · rw [List.getElem?_append_left il] at hz
        rw [if_neg (by omega), if_neg (by omega)]
        exact hS.2 i z hz
      · have ei : i = Q.length := by
          have := (List.getElem?_eq_some_iff.mp hz).1
          rw [List.length_append] at this
          simp at this
          omega
        rw [ei, List.getElem?_append_right (by omega), Nat.sub_self] at hz
        have ez : (l, r) = z := by simpa using hz
        rw [if_pos ei, if_pos ei, ← ez]
        exact ⟨rfl, rfl⟩
    have hQ9 : ∀ z, z ∈ Q ++ [(l, r)] → ce (Xc s) (Yc s) E a b z := fun z hz => by
      rcases List.mem_append.mp hz with h | h
      · exact hQ z h
      · rw [List.mem_singleton.mp h]; exact ⟨hE, hx⟩
    have hpw9 : (Q ++ [(l, r)]).Pairwise (fun z w => pl (Xc s) (Yc s) a b z.1 z.2 w.1 w.2) := List.pairwise_append.mpr ⟨hpw, List.pairwise_singleton _ _, fun x hx y hy => by rw [List.mem_singleton.mp hy]; exact hbef x hx⟩
    have base : ∀ k, r29 (k + 1) (nI a) (nI b) (nI r) (nI l) (nI nx) s = if ar (Xc s) (Yc s) a b w ≤ 0 then r29 k (nI a) (nI b) (nI w) (nI l) (nI w) s9 else r29 k (nI a) (nI b) (nI r) (nI w) (nI w) s9 := by
      intro k
      have nb : ¬ nI nx = nI b := fun q => hnb ((nI_eq hnx (by omega)).mp q)
      simp only [r29]
      rw [show (75 : Int32) = nI 75 from rfl, hS.1, if_neg (fun q => by have := (nI_leI (by omega) (by omega)).mp q; omega), if_neg (nI_m1 hnx), if_neg nb, rdI_nI (show Q.length < 75 by omega) (by decide), nI_clamp (by omega)]
      simp only [pt]
      have e4 : (uA 30 (upd (s.1 30) Q.length (nI l)) s).2.2.1 4 = nI Q.length := hS.1
      have e31 : (uA 30 (upd (s.1 30) Q.length (nI l)) s).1 31 = s.1 31 := rfl
      rw [e4, e31, rdI_nI (show Q.length < 75 by omega) (by decide), nI_clamp (by omega)]
      have e8 : f54 (nI l) (nI r) s8 = some (nI w) := by rw [f54_eq (by omega) (by omega)]; exact congrArg some ew
      have e9 : s8.2.2.1 4 = nI Q.length := hS.1
      have e10 : f73 (nI a) (nI b) (nI w) s8 = some (sgn (ar (Xc s) (Yc s) a b w)) := f73_eq (s := s8) h1 (by omega) (by omega) (by omega)
      show (f54 (nI l) (nI r) s8).bind _ = _
      rw [e8]
      simp only [Option.bind_some]
      rw [if_neg (nI_m1 (by omega))]
      rw [e10]
      simp only [Option.bind_some, sgn_le]
      rw [e9, nI_1]
    have mem : ∀ z : Nat × Nat, z ∈ Q ++ [(l, r)] ↔ z ∈ Q ∨ z = (l, r) := fun z => by rw [List.mem_append, List.mem_singleton]
    rcases NB hw.2.2.2.1 hb lw.2.2 hw.2.2.2.2 hc hx with e | ⟨sw, xw⟩ | ⟨sw, xw⟩
    · -- the link ends here
      refine ⟨s9, Q ++ [(l, r)], ⟨2, fun k hk => ?_⟩, z9, hS9, fun z => ⟨hQ9 z, fun hz => ?_⟩, hpw9⟩
      · obtain ⟨j, rfl⟩ : ∃ j, k = j + 1 + 1 := ⟨k - 2, by omega⟩
        show r29 (j + 1 + 1) _ _ _ _ _ _ = _
        rw [base, e, ar_yxx, if_pos (by omega)]
        simp only [r29]
        by_cases q : (75 : Int32) ≤ s9.2.2.1 4
        · rw [if_pos q]
        · rw [if_neg q, if_neg (nI_m1 (by omega)), if_pos trivial]
      · rw [mem]
        rcases hall z hz with h | h | h
        · exact Or.inl h
        · exact Or.inr h
        · exact absurd (btw h5 hw hx hz.1 hz.2 h (Or.inr (Or.inr e))) (by simp)
    · -- w to the left
      have wr : E w r := (h5.1 r w hw.2.1).2.2.2
      have nwb : w ≠ b := fun e => by rw [e, ar_yxx] at sw; omega
      obtain ⟨t, Q', q1, q2, q3, q4, q5⟩ := ih s9 (Q ++ [(l, r)]) w r hC9 hL hc hS9 hQ9 hpw9 ⟨wr, xw⟩ (fun z hz => by
        rcases (mem z).mp hz with h | h
        · exact pl_trans (hQ z h).2 hx xw (hbef z h) (pl_1 hx hw.2.2.2.1)
        · rw [h]; exact pl_1 hx hw.2.2.2.1) (fun z hz => by
        rw [mem]
        rcases hall z hz with h | h | h
        · exact Or.inl (Or.inl h)
        · exact Or.inl (Or.inr h)
        · right
          have n1 : ¬ pl (Xc s) (Yc s) a b z.1 z.2 w r := fun q => btw h5 hw hx hz.1 hz.2 h (Or.inl ⟨sw, q⟩)
          by_cases q : pl (Xc s) (Yc s) a b w r z.1 z.2
          · exact Or.inr q
          · have := pl_eq h4 h5 hz.1 wr hz.2 xw n1 q
            exact Or.inl (Prod.ext this.1 this.2)) (by rw [List.length_append]; simp; omega) w (by omega) nwb
      refine ⟨t, Q', ev1 q1 fun k hk => ?_, z9.trans q2, q3, q4, q5⟩
      show r29 (k + 1) _ _ _ _ _ _ = _
      rw [base, if_neg (by omega)]
      exact hk
    · -- w to the right
      have lw2 : E l w := (h5.1 w l hw.2.2.1).2.2.2
      have nwb : w ≠ b := fun e => by rw [e, ar_yxx] at sw; omega
      obtain ⟨t, Q', q1, q2, q3, q4, q5⟩ := ih s9 (Q ++ [(l, r)]) l w hC9 hL hc hS9 hQ9 hpw9 ⟨lw2, xw⟩ (fun z hz => by
        rcases (mem z).mp hz with h | h
        · exact pl_trans (hQ z h).2 hx xw (hbef z h) (pl_2 hx hw.2.2.2.1)
        · rw [h]; exact pl_2 hx hw.2.2.2.1) (fun z hz => by
        rw [mem]
        rcases hall z hz with h | h | h
        · exact Or.inl (Or.inl h)
        · exact Or.inl (Or.inr h)
        · right
          have n1 : ¬ pl (Xc s) (Yc s) a b z.1 z.2 l w := fun q => btw h5 hw hx hz.1 hz.2 h (Or.inr (Or.inl ⟨sw, q⟩))
          by_cases q : pl (Xc s) (Yc s) a b l w z.1 z.2
          · exact Or.inr q
          · have := pl_eq h4 h5 hz.1 lw2 hz.2 xw n1 q
            exact Or.inl (Prod.ext this.1 this.2)) (by rw [List.length_append]; simp; omega) w (by omega) nwb
      refine ⟨t, Q', ev1 q1 fun k hk => ?_, z9.trans q2, q3, q4, q5⟩
      show r29 (k + 1) _ _ _ _ _ _ = _
      rw [base, if_pos (by omega)]
      exact hk
theorem f29_ev {s : mS} {n a b : Nat} {E : Nat → Nat → Prop} {L : List Nat} (hC : CX s n E) (ha : a < n) (hb : b < n) (nab : a ≠ b) (hc : clr (Xc s) (Yc s) n a b) (hL : NL (Xc s) (Yc s) n E 1600 L) (h75 : L.length ≤ 75) (hne : ¬ E a b) :
    ∃ t Q, ev (fun k => f29 k (nI a) (nI b) s) t ∧ lf s t ∧ lst9 t Q ∧ (∀ z, z ∈ Q ↔ ce (Xc s) (Yc s) E a b z) ∧ Q.Pairwise (fun z w => pl (Xc s) (Yc s) a b z.1 z.2 w.1 w.2) := by
  have hC' := hC
  obtain ⟨h1, h2, h3, h4, h5, h6⟩ := hC
  obtain ⟨r, l, g1, hT, sr, sl⟩ := f30_ev hC' ha hb (first_tri h4 h5 ha hb nab hc hne)
  have lt := hT.lt h5
  have ne := hT.ne
  have hE : E l r := (h5.1 r l hT.2.1).2.2.2
  -- the first edge crosses
  have hx : cx (Xc s) (Yc s) a b r l := by
    have nlb : l ≠ b := fun e => by rw [e, ar_yxx] at sl; omega
    have nrb : r ≠ b := fun e => by rw [e, ar_yxx] at sr; omega
    have A : 0 < ar (Xc s) (Yc s) r l a := by rw [← ar_c (Xc s) (Yc s) a r l]; exact hT.2.2.2.1
    refine ⟨sr, sl, A, Decidable.byContradiction fun k => ?_⟩
    have out := hT.2.2.2.2 b hb (Ne.symm nab) (Ne.symm nrb) (Ne.symm nlb)
    refine out ⟨?_, by omega, ?_⟩
    · have := ar_t (Xc s) (Yc s) a r b; omega
    · have := ar_c (Xc s) (Yc s) l a b; omega
  let s6 := uF 4 0 s
  have z6 : lf s s6 := sm_F (by decide) _ s
  have e24 := (h6 a r (by omega) (by omega)).1 l hT
  have hE2 : E l r := hE
  have nlb : l ≠ b := fun e => by rw [e, ar_yxx] at sl; omega
  obtain ⟨t, Q, q1, q2, q3, q4, q5⟩ := r29_ev ha hb h75 75 s6 [] l r (hC'.same z6.z rfl) hL hc ⟨uF_at 4 0 s, fun i z hz => by simp at hz⟩ (fun z hz => by cases hz) List.Pairwise.nil ⟨hE, hx⟩ (fun z hz => by cases hz) (fun z hz => by
    right
    by_cases q : pl (Xc s) (Yc s) a b l r z.1 z.2
    · exact Or.inr q
    · have n1 : ¬ pl (Xc s) (Yc s) a b z.1 z.2 l r := fun q => btw0 h5 hT sr sl hz.1 hz.2 q
      have := pl_eq h4 h5 hz.1 hE2 hz.2 hx n1 q
      exact Or.inl (Prod.ext this.1 this.2)) (by simp) l (by omega) nlb
  refine ⟨t, Q, evm2 g1 q1 fun k hk1 hk2 => ?_, z6.trans q2, q3, q4, q5⟩
  show f29 k (nI a) (nI b) s = some t
  unfold f29
  rw [hk1]
  simp only [Option.bind_some]
  rw [if_pos (nI_m1 (by omega)), f54_eq (by omega) (by omega), e24]
  exact hk2
