/-! locate -/
def hT (X Y : Nat → Int) (T : Nat → Nat → Nat) (i p : Nat) : Prop := inT X Y (T i 0) (T i 1) (T i 2) p
def lyT (X Y : Nat → Int) (m : Nat) (T : Nat → Nat → Nat) (p : Nat) (r : Int32) : Prop := (∃ i, i < m ∧ r = nI i ∧ hT X Y T i p ∧ ∀ j, j < i → ¬ hT X Y T j p) ∨ (r = -1 ∧ ∀ j, j < m → ¬ hT X Y T j p)
theorem lyT_uniq {X Y : Nat → Int} {m p : Nat} {T : Nat → Nat → Nat} {r r' : Int32} (h1 : lyT X Y m T p r) (h2 : lyT X Y m T p r') : r = r' := by
  rcases h1 with ⟨i, a1, a2, a3, a4⟩ | ⟨a1, a2⟩ <;> rcases h2 with ⟨j, b1, b2, b3, b4⟩ | ⟨b1, b2⟩
  · rcases Nat.lt_trichotomy i j with q | q | q
    · exact absurd a3 (b4 i q)
    · rw [a2, b2, q]
    · exact absurd b3 (a4 j q)
  · exact absurd a3 (b2 i a1)
  · exact absurd b3 (a2 j b1)
  · rw [a1, b1]
theorem agr.xlyT {X Y X' Y' : Nat → Int} {m p N : Nat} {T : Nat → Nat → Nat} {r : Int32} (h : agr X Y X' Y' N) (hp : p < N) (hT0 : ∀ i k, i < m → k < 3 → T i k < N) (k : lyT X Y m T p r) : lyT X' Y' m T p r := by
  have e : ∀ i, i < m → (hT X Y T i p ↔ hT X' Y' T i p) := fun i hi => by
    have a0 := hT0 i 0 hi (by decide)
    have a1 := hT0 i 1 hi (by decide)
    have a2 := hT0 i 2 hi (by decide)
    unfold hT inT
    rw [h.xar a0 a1 hp, h.xar a1 a2 hp, h.xar a2 a0 hp]
  rcases k with ⟨i, a1, a2, a3, a4⟩ | ⟨a1, a2⟩
  · exact Or.inl ⟨i, a1, a2, (e i a1).mp a3, fun j hj q => a4 j hj ((e j (by omega)).mpr q)⟩
  · exact Or.inr ⟨a1, fun j hj q => a2 j hj ((e j hj).mpr q)⟩
theorem f50T_ev {s : mS} {n m p : Nat} {E : Nat → Nat → Prop} {T : Nat → Nat → Nat} (hP : P42 s) (hn : n ≤ 40) (hM : Mx (Xc s) (Yc s) n E) (ct : CT s n E m T) (hp : p < 42) : ∃ r, ev (fun k => f50 k (nI p) s) r ∧ lyT (Xc s) (Yc s) m T p r := by
  have h75 := ct.2.1
  have main : ∀ d v, v + d = m → (∀ j, j < v → ¬ hT (Xc s) (Yc s) T j p) → ∃ r, ev (fun k => r50 k (nI p) (nI v) s) r ∧ lyT (Xc s) (Yc s) m T p r := by
    intro d
    induction d with
    | zero =>
      intro v hv hno
      refine ⟨-1, ev_c fun k => ?_, Or.inr ⟨rfl, fun j hj => hno j (by omega)⟩⟩
      simp only [r50]
      rw [ct.2.2.1, if_pos ((nI_leI (by omega) (by omega)).mpr (by omega))]
    | succ d ih =>
      intro v hv hno
      have hvm : v < m := by omega
      have l0 := ct.1.lt hM hvm (show 0 < 3 by decide)
      have l1 := ct.1.lt hM hvm (show 1 < 3 by decide)
      have l2 := ct.1.lt hM hvm (show 2 < 3 by decide)
      obtain ⟨g, g1, g2⟩ := f51_ev hP (show v < 75 by omega) (show T v 0 < 42 by omega) (show T v 1 < 42 by omega) (show T v 2 < 42 by omega) hp (ct.2.2.2 v 0 hvm (by decide)).1 (ct.2.2.2 v 1 hvm (by decide)).1 (ct.2.2.2 v 2 hvm (by decide)).1
      have base : ∀ k, f51 k (nI v) (nI p) s = some (bI g) → r50 (k + 1) (nI p) (nI v) s = if g = false then r50 k (nI p) (nI (v + 1)) s else some (nI v) := by
        intro k hk
        simp only [r50]
        rw [ct.2.2.1, if_neg (fun q => by have := (nI_leI (by omega) (by omega)).mp q; omega), hk, nI_inc]
        simp only [Option.bind_some, bI_0]
      cases g with
      | true =>
        refine ⟨nI v, ev1 g1 fun k hk => ?_, Or.inl ⟨v, hvm, rfl, g2.mp rfl, hno⟩⟩
        show r50 (k + 1) _ _ _ = _
        rw [base k hk, if_neg (by decide)]
      | false =>
        obtain ⟨r, q1, q2⟩ := ih (v + 1) (by omega) (fun j hj q => by
          by_cases e : j = v
          · rw [e] at q
            have := g2.mpr q
            cases this
          · exact hno j (by omega) q)
        refine ⟨r, ev2 g1 q1 fun k hk hk2 => ?_, q2⟩
        show r50 (k + 1) _ _ _ = _
        rw [base k hk, if_pos rfl]
        exact hk2
  exact main m 0 (by omega) (fun j hj => by omega)
theorem f146_ev {s : mS} {m p : Nat} {T : Nat → Nat → Nat} (hP : PM s) (hR : RT s m T) (hm : m ≤ 75) (hT0 : ∀ i k, i < m → k < 3 → T i k < 42) (hp : p < 42) : ∃ r, ev (fun k => f146 k (nI p) s) r ∧ lyT (Xm s) (Ym s) m T p r := by
  have main : ∀ d v, v + d = m → (∀ j, j < v → ¬ hT (Xm s) (Ym s) T j p) → ∃ r, ev (fun k => r146 k (nI p) (nI v) s) r ∧ lyT (Xm s) (Ym s) m T p r := by
    intro d
    induction d with
    | zero =>
      intro v hv hno
      refine ⟨-1, ev_c fun k => ?_, Or.inr ⟨rfl, fun j hj => hno j (by omega)⟩⟩
      simp only [r146]
      rw [hR.1, if_pos ((nI_leI (by omega) (by omega)).mpr (by omega))]
    | succ d ih =>
      intro v hv hno
      have hvm : v < m := by omega
      have l0 := hT0 v 0 hvm (by decide)
      have l1 := hT0 v 1 hvm (by decide)
      have l2 := hT0 v 2 hvm (by decide)
      have a0 : s.1 47 (3 * v) = nI (T v 0) := hR.2 v 0 hvm (by decide)
      have a1 : s.1 47 (3 * v + 1) = nI (T v 1) := hR.2 v 1 hvm (by decide)
      have a2 : s.1 47 (3 * v + 2) = nI (T v 2) := hR.2 v 2 hvm (by decide)
      have base : ∀ k, r146 (k + 1) (nI p) (nI v) s = if sgn (ar (Xm s) (Ym s) (T v 0) (T v 1) p) < 0 then r146 k (nI p) (nI (v + 1)) s else if sgn (ar (Xm s) (Ym s) (T v 1) (T v 2) p) < 0 then r146 k (nI p) (nI (v + 1)) s else if sgn (ar (Xm s) (Ym s) (T v 2) (T v 0) p) < 0 then r146 k (nI p) (nI (v + 1)) s else some (nI v) := by
        intro k
        simp only [r146]
        rw [hR.1, if_neg (fun q => by have := (nI_leI (by omega) (by omega)).mp q; omega), nI_3, nI_1, nI_p (3 * v) 2 2 rfl, rdI_nI (show 3 * v < 300 by omega) (by decide), rdI_nI (show 3 * v + 1 < 300 by omega) (by decide), rdI_nI (show 3 * v + 2 < 300 by omega) (by decide), nI_clamp (by omega), nI_clamp (by omega), nI_clamp (by omega), a0, a1, a2, f119_eq hP l0 l1 hp, f119_eq hP l1 l2 hp, f119_eq hP l2 l0 hp, nI_inc]
        rfl
      by_cases hh : hT (Xm s) (Ym s) T v p
      · refine ⟨nI v, ev_c fun k => ?_, Or.inl ⟨v, hvm, rfl, hh, hno⟩⟩
        show r146 (k + 1) _ _ _ = _
        obtain ⟨x1, x2, x3⟩ := hh
        rw [base, if_neg (fun q => by have := (sgn_lt _).mp q; omega), if_neg (fun q => by have := (sgn_lt _).mp q; omega), if_neg (fun q => by have := (sgn_lt _).mp q; omega)]
      · obtain ⟨r, q1, q2⟩ := ih (v + 1) (by omega) (fun j hj q => by
          by_cases e : j = v
          · rw [e] at q
            exact hh q
          · exact hno j (by omega) q)
        refine ⟨r, ev1 q1 fun k hk => ?_, q2⟩
        show r146 (k + 1) _ _ _ = _
        rw [base]
        split
        · exact hk
        · rename_i n1
          split
          · exact hk
          · rename_i n2
            split
            · exact hk
            · rename_i n3
              exact absurd ⟨Decidable.byContradiction fun q => n1 ((sgn_lt _).mpr (by omega)), Decidable.byContradiction fun q => n2 ((sgn_lt _).mpr (by omega)), Decidable.byContradiction fun q => n3 ((sgn_lt _).mpr (by omega))⟩ hh
  exact main m 0 (by omega) (fun j hj => by omega)
theorem CL.far {s t : mS} {n : Nat} {E lk : Nat → Nat → Prop} {LA LJ LF : List Nat} (h : CL s n E lk) (z : sn LA LJ LF s t) (hA : ∀ j, j ∈ [18, 19, 24, 25, 26, 27] → j ∉ LA) (hJ : ∀ j, j ∈ [22, 28] → j ∉ LJ) (hF : ∀ j, j ∈ [0, 1, 2, 3] → j ∉ LF) : CL t n E lk := by
  have X1 : Xc t = Xc s := funext fun j => by unfold Xc; rw [z.1 18 (hA 18 (by decide))]
  have Y1 : Yc t = Yc s := funext fun j => by unfold Yc; rw [z.1 19 (hA 19 (by decide))]
  refine ⟨h.1.over (fun i _ => by rw [X1, Y1]; exact ⟨rfl, rfl⟩) (fun j hj => by rw [X1, Y1]; exact h.1.1.1 j hj) (z.2.2 0 (hF 0 (by decide))) (z.1 24 (hA 24 (by decide))) (z.1 25 (hA 25 (by decide))) (z.1 26 (hA 26 (by decide))) (z.1 27 (hA 27 (by decide))) (z.2.1 28 (hJ 28 (by decide))) (z.2.2 2 (hF 2 (by decide))) (z.2.2 3 (hF 3 (by decide))) ⟨h.1.2.2.2.1.1, fun x y hx hy => by rw [z.2.1 22 (hJ 22 (by decide))]; exact h.1.2.2.2.1.2 x y hx hy⟩ h.1.2.2.2.2.1 (fun _ _ k => Or.inl k), by rw [z.2.2 1 (hF 1 (by decide))]; exact h.2⟩
/-- the reference's mesh, made where the class has written its own things -/
theorem I0.f128u {s u : mS} {n : Nat} {E lk : Nat → Nat → Prop} {LA LJ LF : List Nat} (h : I0 s n E lk) (z : sn LA LJ LF s u) (hA : ∀ j, j ∈ [45, 46, 47] → j ∉ LA) (hJ : ∀ j, j ∈ [43, 44] → j ∉ LJ) (hF : ∀ j, j ∈ [15, 16, 17] → j ∉ LF) : ∃ t, ev (fun k => f128 k u) t ∧ MM t n E ∧ sn [46, 47] [] [16, 17] u t := by
  have h' := h
  obtain ⟨hC, hq, h15, hl, hcur⟩ := h
  have hM := h'.Mm
  have ag := hq.X.le (show n ≤ 42 by have := hC.1.1.2.2.1; omega)
  have XY := snX z (hJ 43 (by decide)) (hJ 44 (by decide))
  have hcur' : u.2.2.1 16 = 0 ∨ MM u n E := by
    rcases hcur with k | k
    · exact Or.inl (by rw [z.2.2 16 (hF 16 (by decide))]; exact k)
    · exact Or.inr (k.over hM (fun i _ => by rw [XY.1, XY.2]; exact ⟨rfl, rfl⟩) (z.1 46 (hA 46 (by decide))) (z.1 47 (hA 47 (by decide))) (z.2.2 16 (hF 16 (by decide))) (z.2.2 17 (hF 17 (by decide))))
  exact f128_ev (fun j hj => by rw [XY.1, XY.2]; exact hq.P hC.1.1.1 j hj) (by rw [z.2.2 15 (hF 15 (by decide))]; exact h15) hC.1.1.2.2.1 (by rw [XY.1, XY.2]; exact ag.xDst hC.1.1.2.2.2.1) (hl.same (z.1 45 (hA 45 (by decide)))) (fun x y k => (h'.ls x y k).2.2.2) (by rw [XY.1, XY.2]; exact hM) hC.1.2.2.2.2.1 (fun x y k => by rw [XY.1, XY.2]; exact ag.xbnd hC.1.1.2.2.2.2.1 (hC.1.2.2.2.2.2 x y k)) hcur'
theorem pm_z (i : Nat) (x y : Int32) (s : mS) : sn [] [43, 44] [] s (pm i x y s) := ((sm_J (LA := []) (LJ := [43, 44]) (LF := []) (LG := []) (by decide) _ s).trans (sm_J (by decide) _ _)).n
theorem pu_z (i : Nat) (x y : Int32) (s : mS) : sn [18, 19] [] [] s (pu i x y s) := ((sm_A (LA := [18, 19]) (LJ := []) (LF := []) (LG := []) (by decide) _ s).trans (sm_A (by decide) _ _)).n
theorem step10 {s : mS} (hI : Inv s) (x y : Int32) : ∃ k q, g10 k x y s = some q ∧ Inv q.1 := by
  obtain ⟨⟨n, E, lk, h⟩, hw⟩ := hI
  have hC := h.1
  have hq := h.2.1
  have hn4 : n ≤ 40 := hC.1.1.2.2.1
  have hPc : P42 s := hC.1.1.1
  have hPm := hq.P hPc
  by_cases hin : inb x ∧ inb y
  · obtain ⟨m, T, ct, rt⟩ := hC.ct
    have hM := hC.1.1.2.2.2.2.1
    have hm := ct.2.1
    let u := pu 40 x y s
    have hCu : CL u n E lk := ⟨hC.1.xpu hn4 (inb_abs hin.1) (inb_abs hin.2), hC.2⟩
    have agu : agr (Xc s) (Yc s) (Xc u) (Yc u) n := pu_agr hn4 x y s
    have ctu : CT u n E m T := ct.over hM agu rfl rfl rfl
    have hMu := hCu.1.1.2.2.2.2.1
    obtain ⟨v, ⟨K1, v1⟩, v2⟩ := f50T_ev hCu.1.1.1 hn4 hMu ctu (show 40 < 42 by decide)
    let u1 := uF 14 0 (ou v.toInt64 u)
    have zu : sn [18, 19] [53] [14] s u1 := (((pu_z 40 x y s).mono (by decide) (by decide) (by decide)).trans ((ou_z v.toInt64 u).mono (by decide) (by decide) (by decide))).trans ((sm_F (LA := [18, 19]) (LJ := [53]) (LF := [14]) (LG := []) (by decide) 0 (ou v.toInt64 u)).n)
    obtain ⟨t, ⟨K2, e1⟩, e3, e4⟩ := h.f128u zu (by decide) (by decide) (by decide)
    have zt : sn [18, 19, 46, 47] [53] [14, 16, 17] s t := (zu.mono (by decide) (by decide) (by decide)).trans (e4.mono (by decide) (by decide) (by decide))
    have XY := snX zt (by decide) (by decide)
    have agn := hq.X.le (show n ≤ 42 by omega)
    have agt : agr (Xc s) (Yc s) (Xm t) (Ym t) n := by rw [XY.1, XY.2]; exact agn
    obtain ⟨r1, _⟩ := rt t agt e3
    let w := pm 40 x y t
    have ag42 : agr (Xc u) (Yc u) (Xm w) (Ym w) 42 := fun j hj => by
      rw [pu_X, pu_Y, pm_X, pm_Y, XY.1, XY.2]
      have := hq.X j hj
      split
      · exact ⟨rfl, rfl⟩
      · exact this
    have hPt : PM t := fun j hj => by rw [XY.1, XY.2]; exact hPm j hj
    have hPw : PM w := pm_P hPt hin.1 hin.2
    have rw' : RT w m T := r1.same rfl rfl
    have lt42 : ∀ i k, i < m → k < 3 → T i k < 42 := fun i k hi hk => by have := ct.1.lt hM hi hk; omega
    obtain ⟨v', ⟨K3, w1⟩, w2⟩ := f146_ev hPw rw' hm lt42 (show 40 < 42 by decide)
    have ev : v' = v := lyT_uniq w2 (ag42.xlyT (by decide) lt42 v2)
    rw [ev] at w1
    have hk1 := v1 (K1 + K2 + K3) (by omega)
    have hk1 : f50 (K1 + K2 + K3) 40 u = some v := hk1
    have hk2 := e1 (K1 + K2 + K3) (by omega)
    have hk2 : f128 (K1 + K2 + K3) u1 = some t := hk2
    have hk3 := w1 (K1 + K2 + K3) (by omega)
    have hk3 : f146 (K1 + K2 + K3) 40 w = some v := hk3
    have e110 : f110 (K1 + K2 + K3) x y s = some (.inl (v, u)) := by
      unfold f110
      rw [(f97_eq x y s).1 hin, bx_l, show (40 : Int32) = nI 40 from rfl, f68_eq (by decide)]
      show (f50 (K1 + K2 + K3) 40 u).bind _ = _
      rw [hk1]
      rfl
    have zuw : sn [46, 47] [43, 44, 53] [14, 16, 17] u w := ((((ou_z v.toInt64 u).mono (by decide) (by decide) (by decide)).trans ((sm_F (LA := [46, 47]) (LJ := [43, 44, 53]) (LF := [14, 16, 17]) (LG := []) (by decide) 0 (ou v.toInt64 u)).n)).trans (e4.mono (by decide) (by decide) (by decide))).trans ((pm_z 40 x y t).mono (by decide) (by decide) (by decide))
    have f14 : w.2.2.1 14 = 0 := by show t.2.2.1 14 = 0; rw [e4.2.2 14 (by decide)]; exact uF_at 14 0 _
    have e145 : f145 (K1 + K2 + K3) x y (ou v.toInt64 u) = some (v, w) := by
      unfold f145
      rw [(f115_eq x y (ou v.toInt64 u)).1 hin]
      simp only [Option.bind_some]
      rw [if_neg (by decide), f117_eq]
      simp only [Option.bind_some]
      rw [if_pos (by decide)]
      show (f128 (K1 + K2 + K3) u1).bind _ = _
      rw [hk2]
      simp only [Option.bind_some]
      rw [show (40 : Int32) = nI 40 from rfl, rdI_nI (by decide) (by decide), nI_clamp (by decide)]
      simp only [pt]
      rw [rdI_nI (by decide) (by decide)]
      show (f146 (K1 + K2 + K3) 40 w).bind _ = _
      rw [hk3]
      rfl
    refine ⟨K1 + K2 + K3, (w, []), ?_, ⟨n, E, lk, hCu.kM (zuw.mono (by decide) (by decide) (by decide)), fun j hj => ?_, ?_, ?_, Or.inr ?_⟩, hw.same ?_⟩
    · unfold g10 o165
      rw [e110]
      show (f145 (K1 + K2 + K3) x y (ou v.toInt64 u)).bind _ = _
      rw [e145]
      simp only [Option.bind_some]
      unfold f113
      simp only [Option.bind_some]
      have j53 : w.2.1 53 0 = v.toInt64 := by
        show t.2.1 53 0 = _
        rw [e4.2.1 53 (by decide)]
        exact ou_at _ u
      rw [f14, if_pos rfl, if_neg (fun q => q trivial), show Int32.toNatClampNeg 0 = 0 from rfl, j53, if_pos rfl]
    · have a1 : w.1 18 = upd (s.1 18) 40 x := by rw [zuw.1 18 (by decide)]; rfl
      have a2 : w.1 19 = upd (s.1 19) 40 y := by rw [zuw.1 19 (by decide)]; rfl
      have a3 : w.2.1 43 = vp_updL (s.2.1 43) 40 x.toInt64 := by show vp_updL (t.2.1 43) 40 x.toInt64 = _; rw [zt.2.1 43 (by decide)]
      have a4 : w.2.1 44 = vp_updL (s.2.1 44) 40 y.toInt64 := by show vp_updL (t.2.1 44) 40 y.toInt64 = _; rw [zt.2.1 44 (by decide)]
      rw [a1, a2, a3, a4]
      unfold upd vp_updL
      have := hq j hj
      split
      · exact ⟨rfl, rfl⟩
      · exact this
    · show t.2.2.1 15 = nI n
      rw [zt.2.2 15 (by decide)]
      exact h.2.2.1
    · exact h.2.2.2.1.same (by show t.1 45 = s.1 45; exact zt.1 45 (by decide))
    · refine e3.over (by rw [XY.1, XY.2]; exact h.Mm) (fun i hi => ?_) rfl rfl rfl rfl
      show Xm t i = Xm (pm 40 x y t) i ∧ Ym t i = Ym (pm 40 x y t) i
      rw [pm_X, pm_Y, if_neg (by omega), if_neg (by omega)]
      exact ⟨rfl, rfl⟩
    · exact ((zt.mono (by decide) (by decide) (by decide)).trans ((pm_z 40 x y t).mono (by decide) (by decide) (by decide)))
  · have e110 : f110 0 x y s = some (.inr 10) := by
      unfold f110
      rw [(f97_eq x y s).2 hin, bx_r]
    have e145 : f145 0 x y s = some (0, uF 14 1 s) := by
      unfold f145
      rw [(f115_eq x y s).2 hin]
      simp only [Option.bind_some]
      rw [if_pos trivial, f117_eq]
      rfl
    refine ⟨0, (uF 14 1 s, [.inr (10, [])]), ?_, (h.end0 hw).2⟩
    unfold g10 o165
    rw [e110]
    show (f145 0 x y s).bind _ = _
    rw [e145]
    rfl
