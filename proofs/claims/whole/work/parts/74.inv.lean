/-! THE INVARIANT, and the calls that change points and links -/
/-- both have the same places -/
def Cq (s : mS) : Prop := ∀ j, j < 42 → s.2.1 43 j = (s.1 18 j).toInt64 ∧ s.2.1 44 j = (s.1 19 j).toInt64
/-- both have the same last way -/
def WY (s : mS) : Prop := ∃ a b, a ≤ 75 ∧ b ≤ 77 ∧ s.2.2.1 5 = nI a ∧ s.2.2.1 18 = nI a ∧ (∀ i, i < a → s.1 48 i = s.1 33 i) ∧ s.2.2.1 9 = nI b ∧ s.2.2.1 19 = nI b ∧ (∀ i, i < b → s.1 49 i = s.1 41 i)
def I0 (s : mS) (n : Nat) (E lk : Nat → Nat → Prop) : Prop := CL s n E lk ∧ Cq s ∧ s.2.2.1 15 = nI n ∧ tb45 s lk ∧ (s.2.2.1 16 = 0 ∨ MM s n E)
def Inv (s : mS) : Prop := (∃ n E lk, I0 s n E lk) ∧ WY s
theorem WY.same {s t : mS} (h : WY s) (z : sn [18, 19, 24, 25, 26, 27, 30, 31, 45, 46, 47] [22, 28, 43, 44, 53] [0, 1, 2, 3, 4, 14, 15, 16, 17] s t) : WY t := by
  unfold WY at *
  rw [z.1 48 (by decide), z.1 33 (by decide), z.1 49 (by decide), z.1 41 (by decide), z.2.2 5 (by decide), z.2.2 18 (by decide), z.2.2 9 (by decide), z.2.2 19 (by decide)]
  exact h
/-- what the reference's calls write, its last way left out -/
def kM (s t : mS) : Prop := sn [45, 46, 47] [43, 44, 53] [14, 15, 16, 17] s t
theorem CL.kM {s t : mS} {n : Nat} {E lk : Nat → Nat → Prop} (h : CL s n E lk) (z : kM s t) : CL t n E lk := by
  have X1 : Xc t = Xc s := funext fun j => by unfold Xc; rw [z.1 18 (by decide)]
  have Y1 : Yc t = Yc s := funext fun j => by unfold Yc; rw [z.1 19 (by decide)]
  refine ⟨h.1.over (fun i _ => by rw [X1, Y1]; exact ⟨rfl, rfl⟩) (fun j hj => by rw [X1, Y1]; exact h.1.1.1 j hj) (z.2.2 0 (by decide)) (z.1 24 (by decide)) (z.1 25 (by decide)) (z.1 26 (by decide)) (z.1 27 (by decide)) (z.2.1 28 (by decide)) (z.2.2 2 (by decide)) (z.2.2 3 (by decide)) ⟨h.1.2.2.2.1.1, fun x y hx hy => by rw [z.2.1 22 (by decide)]; exact h.1.2.2.2.1.2 x y hx hy⟩ h.1.2.2.2.2.1 (fun _ _ k => Or.inl k), by rw [z.2.2 1 (by decide)]; exact h.2⟩
theorem Cq.X {s : mS} (h : Cq s) : agr (Xc s) (Yc s) (Xm s) (Ym s) 42 := fun j hj => by
  obtain ⟨h1, h2⟩ := h j hj
  unfold Xc Yc Xm Ym
  rw [h1, h2, i64_of32, i64_of32]
  exact ⟨rfl, rfl⟩
theorem agr.le {X Y X' Y' : Nat → Int} {n m : Nat} (h : agr X Y X' Y' m) (hn : n ≤ m) : agr X Y X' Y' n := fun i hi => h i (by omega)
theorem Cq.P {s : mS} (h : Cq s) (hP : P42 s) : PM s := fun j hj => by
  have := h.X j hj
  rw [← this.1, ← this.2]
  exact hP j hj
theorem MM.over {s t : mS} {n : Nat} {E : Nat → Nat → Prop} (h : MM s n E) (hM : Mx (Xm s) (Ym s) n E) (ha : agr (Xm s) (Ym s) (Xm t) (Ym t) n) (h46 : t.1 46 = s.1 46) (h47 : t.1 47 = s.1 47) (h16 : t.2.2.1 16 = s.2.2.1 16) (h17 : t.2.2.1 17 = s.2.2.1 17) : MM t n E := by
  obtain ⟨h1, L, h2, h3, h4⟩ := h
  refine ⟨by rw [h16]; exact h1, L, ha.xNL hM h2, ⟨by rw [h17]; exact h3.1, fun i c z hi hT => ?_⟩, fun k => (h4 k).same h46⟩
  rw [h47]
  exact h3.2 i c z hi ((ha.xTr_iff hM).mpr hT)
theorem I0.Mm {s : mS} {n : Nat} {E lk : Nat → Nat → Prop} (h : I0 s n E lk) : Mx (Xm s) (Ym s) n E := (h.2.1.X.le (show n ≤ 42 by have := h.1.1.1.2.2.1; omega)).xMx h.1.1.1.2.2.2.2.1
theorem I0.ls {s : mS} {n : Nat} {E lk : Nat → Nat → Prop} (h : I0 s n E lk) : ∀ x y, lk x y → x < n ∧ y < n ∧ x ≠ y ∧ lk y x := fun x y k => by
  have := LKc.lt h.1.1 k
  exact ⟨this.1, this.2.1, this.2.2, h.1.1.2.2.2.1.1 x y k⟩
/-- only the reference's refusal is written -/
theorem I0.f14 {s : mS} {n : Nat} {E lk : Nat → Nat → Prop} (h : I0 s n E lk) (v : Int32) : I0 (uF 14 v s) n E lk := by
  have z : kM s (uF 14 v s) := (sm_F (LA := [45, 46, 47]) (LJ := [43, 44, 53]) (LG := []) (by decide) v s).n
  refine ⟨h.1.kM z, h.2.1, h.2.2.1, h.2.2.2.1, ?_⟩
  rcases h.2.2.2.2 with k | k
  · exact Or.inl k
  · exact Or.inr (k.over h.Mm (fun i _ => ⟨rfl, rfl⟩) rfl rfl rfl rfl)
theorem lg0 {k : Nat} {x y : Int32} {s t : mS} {r : Int32} (h : f96 k x y s = some (.inl (r, t))) : o157 k x y s = some (0, uJ 53 (vp_updL (t.2.1 53) 0 r.toInt64) t, []) := by
  unfold o157
  rw [h]
  rfl
theorem step0 {s : mS} (hI : Inv s) (x y : Int32) : ∃ k q, g0 k x y s = some q ∧ Inv q.1 := by
  obtain ⟨⟨n, E, lk, h⟩, hw⟩ := hI
  have h' := h
  obtain ⟨hC, hq, h15, hl, hcur⟩ := h
  have hn4 : n ≤ 40 := hC.1.1.2.2.1
  have hPc : P42 s := hC.1.1.1
  have hF0 : s.2.2.1 0 = nI n := hC.1.1.2.1
  have hPm := hq.P hPc
  by_cases hin : inb x ∧ inb y
  · by_cases e40 : n = 40
    · -- there are 40
      have e96 : ∀ k, f96 k x y s = some (.inr 11) := fun k => by
        unfold f96
        rw [(f97_eq x y s).1 hin, bx_l, f66_eq hF0]
        simp only [Option.bind_some]
        rw [e40, if_neg (fun q => q rfl)]
      have e114 := (f114_ev hPm hn4 h15 h'.ls hl x y).2.1 hin e40
      refine ⟨0, (uF 14 2 s, [.inr (11, [])]), ?_, ⟨n, E, lk, h'.f14 2⟩, hw.same ((sm_F (LG := []) (by decide) 2 s).n)⟩
      unfold g0 o157
      rw [e96]
      show ((f114 0 x y s).bind _) = _
      rw [e114]
      rfl
    · have hn : n < 40 := by omega
      obtain ⟨a1, a2⟩ := f96_ev hC hn hin.1 hin.2
      -- the places after the put, in both
      have pq : ∀ j, j < 42 → Xc (pu n x y s) j = Xm (pm n x y s) j ∧ Yc (pu n x y s) j = Ym (pm n x y s) j := fun j hj => by
        rw [pu_X, pu_Y, pm_X, pm_Y]
        have := hq.X j hj
        split
        · exact ⟨rfl, rfl⟩
        · exact this
      have fr : ∀ q, Xm q = Xm s → Ym q = Ym s → (freeM (pm n x y q) n lk x y ↔ free s n lk x y) := by
        intro q eX eY
        have e1 : ∀ j, Xm (pm n x y q) j = Xm (pm n x y s) j ∧ Ym (pm n x y q) j = Ym (pm n x y s) j := fun j => by rw [pm_X, pm_Y, pm_X, pm_Y, eX, eY]; exact ⟨rfl, rfl⟩
        have eXq : Xm (pm n x y q) = Xm (pm n x y s) := funext fun j => (e1 j).1
        have eYq : Ym (pm n x y q) = Ym (pm n x y s) := funext fun j => (e1 j).2
        have ag : agr (Xc (pu n x y s)) (Yc (pu n x y s)) (Xm (pm n x y s)) (Ym (pm n x y s)) 42 := pq
        unfold freeM free
        rw [eXq, eYq]
        constructor
        · intro ⟨f1, f2⟩
          refine ⟨fun p hp k => f1 p hp ?_, fun c d k hon => f2 c d k ?_⟩
          · rw [pm_X, pm_Y, if_neg (by omega), if_neg (by omega), ← (hq.X p (by omega)).1, ← (hq.X p (by omega)).2]; exact k
          · have l := h'.ls c d k
            exact (ag.xoS (by omega) (by omega) (by omega)).mp hon
        · intro ⟨f1, f2⟩
          refine ⟨fun p hp k => f1 p hp ?_, fun c d k hon => f2 c d k ?_⟩
          · rw [pm_X, pm_Y, if_neg (by omega), if_neg (by omega), ← (hq.X p (by omega)).1, ← (hq.X p (by omega)).2] at k; exact k
          · have l := h'.ls c d k
            exact (ag.xoS (by omega) (by omega) (by omega)).mpr hon
      by_cases hf : free s n lk x y
      · obtain ⟨t, E', b1, b2, b3⟩ := a1 hf
        -- the class's state, with its answer laid down
        let t1 := uJ 53 (vp_updL (t.2.1 53) 0 (nI n).toInt64) t
        have zc : sn [18, 19, 24, 25, 26, 27, 30, 31] [22, 28] [0, 1, 2, 3, 4] s t := by
          refine (((pu_k n x y s).n).trans ((sm_F (LA := [18, 19, 24, 25, 26, 27, 30, 31]) (LJ := [22, 28]) (LF := [0, 1, 2, 3, 4]) (LG := []) (by decide) (nI (n + 1)) (pu n x y s)).n)).trans ((sm.n b3).mono (by decide) (by decide) (by decide))
        have e15 : t1.2.2.1 15 = nI n := by show t.2.2.1 15 = nI n; rw [zc.2.2 15 (by decide)]; exact h15
        have eX : Xm t1 = Xm s := funext fun j => by unfold Xm; show (t.2.1 43 j).toInt = _; rw [zc.2.1 43 (by decide)]
        have eY : Ym t1 = Ym s := funext fun j => by unfold Ym; show (t.2.1 44 j).toInt = _; rw [zc.2.1 44 (by decide)]
        have hl1 : tb45 t1 lk := hl.same (by show t.1 45 = s.1 45; exact zc.1 45 (by decide))
        have hP1 : PM t1 := fun j hj => by rw [eX, eY]; exact hPm j hj
        obtain ⟨t2, c1, c2, c3, c4, c5⟩ := ((f114_ev hP1 hn4 e15 h'.ls hl1 x y).2.2 hin hn).1 ((fr t1 eX eY).mpr hf)
        obtain ⟨K1, k1⟩ := b1
        obtain ⟨K2, k2⟩ := c1
        have hk1 := k1 (K1 + K2) (by omega)
        have hk2 : f114 (K1 + K2) x y t1 = some (nI n, t2) := k2 (K1 + K2) (by omega)
        -- from t1 to t2
        have zm : sn [45] [43, 44] [14, 15, 16] t1 t2 := ((((sm_F (LA := [45]) (LJ := [43, 44]) (LF := [14, 15, 16]) (LG := []) (by decide) 0 t1).n).trans (((sm_J (LA := [45]) (LJ := [43, 44]) (LF := [14, 15, 16]) (LG := []) (by decide) _ (uF 14 0 t1)).trans (sm_J (by decide) _ _)).n))).trans (c2.mono (by decide) (by decide) (by decide))
        have f14 : t2.2.2.1 14 = 0 := by rw [c2.2.2 14 (by decide)]; exact uF_at 14 0 t1
        have j53 : t2.2.1 53 0 = (nI n).toInt64 := by
          rw [zm.2.1 53 (by decide)]
          show vp_updL (t.2.1 53) 0 (nI n).toInt64 0 = _
          unfold vp_updL
          rw [if_pos rfl]
        have z53 : kM t t1 := (sm_J (LA := [45, 46, 47]) (LJ := [43, 44, 53]) (LF := [14, 15, 16, 17]) (LG := []) (by decide) _ t).n
        have kk : kM t t2 := sn.trans z53 (zm.mono (by decide) (by decide) (by decide))
        refine ⟨K1 + K2, (t2, []), ?_, ⟨n + 1, E', lk, b2.kM kk, fun j hj => ?_, c4, c3, Or.inl c5⟩, hw.same ?_⟩
        · unfold g0
          rw [lg0 hk1]
          simp only [Option.bind_some]
          show (f114 (K1 + K2) x y t1).bind _ = _
          rw [hk2]
          simp only [Option.bind_some]
          unfold f113
          simp only [Option.bind_some]
          rw [f14, if_pos rfl, if_neg (fun q => q trivial), show Int32.toNatClampNeg 0 = 0 from rfl, j53, if_pos rfl]
        · have e18 : t2.1 18 = upd (s.1 18) n x := by
            rw [zm.1 18 (by decide)]
            show t.1 18 = _
            rw [b3.1 18 (by decide)]
            rfl
          have e19 : t2.1 19 = upd (s.1 19) n y := by
            rw [zm.1 19 (by decide)]
            show t.1 19 = _
            rw [b3.1 19 (by decide)]
            rfl
          have e43 : t2.2.1 43 = vp_updL (s.2.1 43) n x.toInt64 := by
            rw [c2.2.1 43 (by decide)]
            show vp_updL (t.2.1 43) n x.toInt64 = _
            rw [zc.2.1 43 (by decide)]
          have e44 : t2.2.1 44 = vp_updL (s.2.1 44) n y.toInt64 := by
            rw [c2.2.1 44 (by decide)]
            show vp_updL (t.2.1 44) n y.toInt64 = _
            rw [zc.2.1 44 (by decide)]
          rw [e18, e19, e43, e44]
          unfold upd vp_updL
          have := hq j hj
          split
          · exact ⟨rfl, rfl⟩
          · exact this
        · exact (zc.mono (by decide) (by decide) (by decide)).trans (kk.mono (by decide) (by decide) (by decide))
      · have b1 := a2 hf
        let t := pu n x y s
        let t1 := uJ 53 (vp_updL (t.2.1 53) 0 (-1 : Int32).toInt64) t
        have zc : sn [18, 19, 24, 25, 26, 27, 30, 31] [22, 28] [0, 1, 2, 3, 4] s t := (pu_k n x y s).n
        have e15 : t1.2.2.1 15 = nI n := h15
        obtain ⟨K1, k1⟩ := b1
        obtain ⟨K2, k2⟩ := ((f114_ev (s := t1) hPm hn4 e15 h'.ls hl x y).2.2 hin hn).2 (fun q => hf ((fr t1 rfl rfl).mp q))
        have hk1 := k1 (K1 + K2) (by omega)
        have hk2 : f114 (K1 + K2) x y t1 = some (-1, pm n x y (uF 14 0 t1)) := k2 (K1 + K2) (by omega)
        let t2 := pm n x y (uF 14 0 t1)
        have zm : sn [45] [43, 44] [14, 15, 16] t1 t2 := ((sm_F (LA := [45]) (LJ := [43, 44]) (LF := [14, 15, 16]) (LG := []) (by decide) 0 t1).n).trans (((sm_J (LA := [45]) (LJ := [43, 44]) (LF := [14, 15, 16]) (LG := []) (by decide) _ (uF 14 0 t1)).trans (sm_J (by decide) _ _)).n)
        have z53 : kM t t1 := (sm_J (LA := [45, 46, 47]) (LJ := [43, 44, 53]) (LF := [14, 15, 16, 17]) (LG := []) (by decide) _ t).n
        have kk : kM t t2 := sn.trans z53 (zm.mono (by decide) (by decide) (by decide))
        have hCt : CL t n E lk := ⟨hC.1.xpu (Nat.le_refl n) (inb_abs hin.1) (inb_abs hin.2), hC.2⟩
        refine ⟨K1 + K2, (t2, []), ?_, ⟨n, E, lk, hCt.kM kk, fun j hj => ?_, h15, hl, ?_⟩, hw.same ?_⟩
        · unfold g0
          rw [lg0 hk1]
          simp only [Option.bind_some]
          show (f114 (K1 + K2) x y t1).bind _ = _
          rw [hk2]
          rfl
        · show vp_updL (s.2.1 43) n x.toInt64 j = (upd (s.1 18) n x j).toInt64 ∧ vp_updL (s.2.1 44) n y.toInt64 j = (upd (s.1 19) n y j).toInt64
          unfold upd vp_updL
          have := hq j hj
          split
          · exact ⟨rfl, rfl⟩
          · exact this
        · rcases hcur with k | k
          · exact Or.inl k
          · refine Or.inr (k.over h'.Mm (fun i hi => ?_) rfl rfl rfl rfl)
            have e1 := pm_X n x y (uF 14 0 t1) i
            have e2 := pm_Y n x y (uF 14 0 t1) i
            rw [if_neg (by omega)] at e1 e2
            exact ⟨e1.symm, e2.symm⟩
        · exact (zc.mono (by decide) (by decide) (by decide)).trans (kk.mono (by decide) (by decide) (by decide))
  · have e96 : ∀ k, f96 k x y s = some (.inr 10) := fun k => by
      unfold f96
      rw [(f97_eq x y s).2 hin, bx_r]
    have e114 := (f114_ev hPm hn4 h15 h'.ls hl x y).1 hin
    refine ⟨0, (uF 14 1 s, [.inr (10, [])]), ?_, ⟨n, E, lk, h'.f14 1⟩, hw.same ((sm_F (LG := []) (by decide) 1 s).n)⟩
    unfold g0 o157
    rw [e96]
    show ((f114 0 x y s).bind _) = _
    rw [e114]
    rfl
