/-! link, unlink and clear keep the invariant -/
theorem agr.xokl {X Y X' Y' : Nat → Int} {n a b : Nat} {lk : Nat → Nat → Prop} (h : agr X Y X' Y' n) (hls : ∀ x y, lk x y → x < n ∧ y < n ∧ x ≠ y ∧ lk y x) (ha : a < n) (hb : b < n) : okl X Y n lk a b ↔ okl X' Y' n lk a b := by
  unfold okl
  rw [h.xclr ha hb]
  constructor
  · intro ⟨h1, h2⟩
    exact ⟨h1, fun c d k q => h2 c d k ((h.xcrs ha hb (hls c d k).1 (hls c d k).2.1).mpr q)⟩
  · intro ⟨h1, h2⟩
    exact ⟨h1, fun c d k q => h2 c d k ((h.xcrs ha hb (hls c d k).1 (hls c d k).2.1).mp q)⟩
theorem lg1 {k : Nat} {x y : Int32} {s t : mS} {r : Int32} (h : f100 k x y s = some (.inl (r, t))) : o158 k x y s = some (0, uJ 53 (vp_updL (t.2.1 53) 0 (if r = 0 then (0 : Int64) else 1)) t, []) := by
  unfold o158
  rw [h]
  rfl
theorem lg2 {k : Nat} {x y : Int32} {s t : mS} {r : Int32} (h : f103 k x y s = some (.inl (r, t))) : o159 k x y s = some (0, uJ 53 (vp_updL (t.2.1 53) 0 (if r = 0 then (0 : Int64) else 1)) t, []) := by
  unfold o159
  rw [h]
  rfl
/-- the class's answer laid down -/
def ou (v : Int64) (t : mS) : mS := uJ 53 (vp_updL (t.2.1 53) 0 v) t
theorem ou_z (v : Int64) (t : mS) : sn [] [53] [] t (ou v t) := (sm_J (LA := []) (LJ := [53]) (LF := []) (LG := []) (by decide) _ t).n
theorem ou_at (v : Int64) (t : mS) : (ou v t).2.1 53 0 = v := by
  have e : (ou v t).2.1 53 = vp_updL (t.2.1 53) 0 v := uJ_at 53 _ t
  rw [e]
  unfold vp_updL
  rw [if_pos rfl]
/-- what the class writes between two calls, its last way and its places left out -/
def kN (s t : mS) : Prop := sn [24, 25, 26, 27, 30, 31] [22, 28] [0, 1, 2, 3, 4] s t
theorem kN.Cq {s t : mS} (h : kN s t) (k : Cq s) : Cq t := fun j hj => by
  rw [h.1 18 (by decide), h.1 19 (by decide), h.2.1 43 (by decide), h.2.1 44 (by decide)]
  exact k j hj
theorem kM0.Cq {s t : mS} {LA LF : List Nat} (h : sn LA [53] LF s t) (h1 : 18 ∉ LA) (h2 : 19 ∉ LA) (k : Cq s) : Cq t := fun j hj => by
  rw [h.1 18 h1, h.1 19 h2, h.2.1 43 (by decide), h.2.1 44 (by decide)]
  exact k j hj
theorem step1 {s : mS} (hI : Inv s) (x y : Int32) : ∃ k q, g1 k x y s = some q ∧ Inv q.1 := by
  obtain ⟨⟨n, E, lk, h⟩, hw⟩ := hI
  have h' := h
  obtain ⟨hC, hq, h15, hl, hcur⟩ := h
  have hn4 : n ≤ 40 := hC.1.1.2.2.1
  have hPc : P42 s := hC.1.1.1
  have hF0 : s.2.2.1 0 = nI n := hC.1.1.2.1
  have hPm := hq.P hPc
  by_cases hpr : isPr n x y
  · obtain ⟨⟨a, ha, ea⟩, ⟨b, hb, eb⟩, hne⟩ := hpr
    subst ea eb
    have nab : a ≠ b := fun q => hne (by rw [q])
    obtain ⟨c1, c2, c3⟩ := f100_ev hC ha hb nab
    have ok := (hq.X.le (show n ≤ 42 by omega)).xokl h'.ls ha hb
    -- the end, once the class has answered
    have fin : ∀ (r : Int32) (t : mS) (lk' E' : Nat → Nat → Prop), ev (fun k => f100 k (nI a) (nI b) s) (.inl (r, t)) → CL t n E' lk' → kN s t → ((r = 1 ∧ (lk a b ∨ okl (Xc s) (Yc s) n lk a b) ∧ ∀ u v, lk' u v ↔ lk1 lk a b u v) ∨ (r = 0 ∧ ¬ (lk a b ∨ okl (Xc s) (Yc s) n lk a b) ∧ lk' = lk ∧ E' = E ∧ t = s)) → ∃ k q, g1 k (nI a) (nI b) s = some q ∧ Inv q.1 := by
      intro r t lk' E' e1 hCt zt hr
      let t1 := ou (if r = 0 then (0 : Int64) else 1) t
      have z1 : sn [24, 25, 26, 27, 30, 31] [22, 28, 53] [0, 1, 2, 3, 4] s t1 := (zt.mono (by decide) (by decide) (by decide)).trans ((ou_z _ t).mono (by decide) (by decide) (by decide))
      have XY := snX z1 (by decide) (by decide)
      have hP1 : PM t1 := fun j hj => by rw [XY.1, XY.2]; exact hPm j hj
      have e15 : t1.2.2.1 15 = nI n := by rw [z1.2.2 15 (by decide)]; exact h15
      have hl1 : tb45 t1 lk := hl.same (z1.1 45 (by decide))
      obtain ⟨m1, m2⟩ := (f120_ev hP1 hn4 e15 h'.ls hl1 (nI a) (nI b)).2 a b rfl rfl ha hb nab
      rw [XY.1, XY.2, ← ok] at m1 m2
      have hq1 : Cq t1 := kM0.Cq (ou_z _ t) (by decide) (by decide) (zt.Cq hq)
      obtain ⟨K1, k1⟩ := e1
      rcases hr with ⟨er, hok, hlk⟩ | ⟨er, hok, elk, eE, et⟩
      · obtain ⟨t2, d1, d2, d3, d4, d5⟩ := m1 hok
        obtain ⟨K2, k2⟩ := d1
        have hk1 := k1 (K1 + K2) (by omega)
        have hk2 := k2 (K1 + K2) (by omega)
        have kk : kM t t2 := sn.trans ((ou_z _ t).mono (by decide) (by decide) (by decide)) (d2.mono (by decide) (by decide) (by decide))
        have j53 : t2.2.1 53 0 = 1 := by
          rw [d2.2.1 53 (by decide), ou_at, er]
          rfl
        refine ⟨K1 + K2, (t2, []), ?_, ⟨n, E', lk', hCt.kM kk, kM0.Cq (d2.mono (by decide) (fun _ k => by cases k) (by decide) : sn [45] [53] [14, 16] t1 t2) (by decide) (by decide) hq1, by rw [d2.2.2 15 (by decide)]; exact e15, d3.congr fun u v => (hlk u v).symm, Or.inl d5⟩, hw.same ?_⟩
        · unfold g1
          rw [lg1 hk1]
          simp only [Option.bind_some]
          have hk2 : f120 (K1 + K2) (nI a) (nI b) t1 = some (1, t2) := hk2
          show (f120 (K1 + K2) (nI a) (nI b) t1).bind _ = _
          rw [hk2]
          simp only [Option.bind_some]
          unfold f113
          simp only [Option.bind_some]
          rw [d4, if_pos rfl, if_neg (fun q => q trivial), if_neg (by decide), show Int32.toNatClampNeg 0 = 0 from rfl, j53, if_pos rfl]
        · exact (z1.mono (by decide) (by decide) (by decide)).trans (d2.mono (by decide) (by decide) (by decide))
      · obtain ⟨K2, k2⟩ := m2 hok
        have hk1 := k1 (K1 + K2) (by omega)
        have hk2 := k2 (K1 + K2) (by omega)
        subst elk eE et
        have j53 : (uF 14 0 t1).2.1 53 0 = 0 := by
          show t1.2.1 53 0 = 0
          rw [ou_at, er]
          rfl
        have z2 : sn [] [53] [14] t (uF 14 0 t1) := ((ou_z _ t).mono (by decide) (by decide) (by decide)).trans ((sm_F (LA := []) (LJ := [53]) (LG := []) (by decide) 0 t1).n)
        have kk : kM t (uF 14 0 t1) := z2.mono (by decide) (by decide) (by decide)
        refine ⟨K1 + K2, (uF 14 0 t1, []), ?_, ⟨n, E', lk', hCt.kM kk, kM0.Cq z2 (by decide) (by decide) hq, h15, hl, ?_⟩, hw.same (z2.mono (by decide) (by decide) (by decide))⟩
        · unfold g1
          rw [lg1 hk1]
          simp only [Option.bind_some]
          have hk2 : f120 (K1 + K2) (nI a) (nI b) t1 = some (0, uF 14 0 t1) := hk2
          show (f120 (K1 + K2) (nI a) (nI b) t1).bind _ = _
          rw [hk2]
          simp only [Option.bind_some]
          unfold f113
          simp only [Option.bind_some]
          rw [uF_at, if_pos rfl, if_neg (fun q => q trivial), if_pos trivial, show Int32.toNatClampNeg 0 = 0 from rfl, j53, if_pos rfl]
        · rcases hcur with k | k
          · exact Or.inl k
          · exact Or.inr (k.over h'.Mm (fun i _ => ⟨rfl, rfl⟩) rfl rfl rfl rfl)
    by_cases hlk : lk a b
    · exact fin 1 s lk E (c1 hlk) hC (sn.refl s) (Or.inl ⟨rfl, Or.inl hlk, fun u v => ⟨fun k => Or.inl k, fun k => by
        rcases k with k | ⟨e1, e2⟩ | ⟨e1, e2⟩
        · exact k
        · rw [e1, e2]; exact hlk
        · rw [e1, e2]; exact (h'.ls a b hlk).2.2.2⟩⟩)
    · by_cases hok : okl (Xc s) (Yc s) n lk a b
      · obtain ⟨t, E', q1, q2, q3⟩ := c3 hlk hok
        exact fin 1 t (lk1 lk a b) E' q1 q2 (q3.n.mono (by decide) (by decide) (by decide)) (Or.inl ⟨rfl, Or.inr hok, fun u v => Iff.rfl⟩)
      · exact fin 0 s lk E (c2 hlk hok) hC (sn.refl s) (Or.inr ⟨rfl, fun q => by rcases q with q | q; exact hlk q; exact hok q, rfl, rfl, rfl⟩)
  · have e100 : ∀ k, f100 k x y s = some (.inr 10) := fun k => by
      unfold f100
      rw [(f101_eq hF0 hn4 x y).2 hpr, bx_r]
    have e120 := (f120_ev hPm hn4 h15 h'.ls hl x y).1 hpr
    refine ⟨0, (uF 14 1 s, [.inr (10, [])]), ?_, ⟨n, E, lk, h'.f14 1⟩, hw.same ((sm_F (LG := []) (by decide) 1 s).n)⟩
    unfold g1 o158
    rw [e100]
    show ((f120 0 x y s).bind _) = _
    rw [e120]
    rfl
theorem step2 {s : mS} (hI : Inv s) (x y : Int32) : ∃ k q, g2 k x y s = some q ∧ Inv q.1 := by
  obtain ⟨⟨n, E, lk, h⟩, hw⟩ := hI
  have h' := h
  obtain ⟨hC, hq, h15, hl, hcur⟩ := h
  have hn4 : n ≤ 40 := hC.1.1.2.2.1
  have hPc : P42 s := hC.1.1.1
  have hF0 : s.2.2.1 0 = nI n := hC.1.1.2.1
  by_cases hpr : isPr n x y
  · obtain ⟨⟨a, ha, ea⟩, ⟨b, hb, eb⟩, hne⟩ := hpr
    subst ea eb
    have nab : a ≠ b := fun q => hne (by rw [q])
    obtain ⟨c1, c2⟩ := f103_ev hC ha hb nab
    have fin : ∀ (r : Int32) (t : mS) (E' : Nat → Nat → Prop), ev (fun k => f103 k (nI a) (nI b) s) (.inl (r, t)) → CL t n E' (lk0 lk a b) → kN s t → s.1 45 (40 * a + b) = r → (r = 0 ∨ r = 1) → ∃ k q, g2 k (nI a) (nI b) s = some q ∧ Inv q.1 := by
      intro r t E' e1 hCt zt hr hr2
      let t1 := ou (if r = 0 then (0 : Int64) else 1) t
      have z1 : sn [24, 25, 26, 27, 30, 31] [22, 28, 53] [0, 1, 2, 3, 4] s t1 := (zt.mono (by decide) (by decide) (by decide)).trans ((ou_z _ t).mono (by decide) (by decide) (by decide))
      have e15 : t1.2.2.1 15 = nI n := by rw [z1.2.2 15 (by decide)]; exact h15
      have hl1 : tb45 t1 lk := hl.same (z1.1 45 (by decide))
      obtain ⟨t2, d1, d2, d3, d4, d5⟩ := (f125_ev hn4 e15 hl1 (nI a) (nI b)).2 a b rfl rfl ha hb nab
      have hq1 : Cq t1 := kM0.Cq (ou_z _ t) (by decide) (by decide) (zt.Cq hq)
      obtain ⟨K1, k1⟩ := e1
      have hk1 := k1 K1 (Nat.le_refl _)
      have kk : kM t t2 := sn.trans ((ou_z _ t).mono (by decide) (by decide) (by decide)) (d2.mono (by decide) (by decide) (by decide))
      have e45 : t1.1 45 = s.1 45 := z1.1 45 (by decide)
      have j53 : t2.2.1 53 0 = if r = 0 then (0 : Int64) else 1 := by rw [d2.2.1 53 (by decide), ou_at]
      refine ⟨K1, (t2, []), ?_, ⟨n, E', lk0 lk a b, hCt.kM kk, kM0.Cq (d2.mono (by decide) (fun _ k => by cases k) (by decide) : sn [45] [53] [14, 16] t1 t2) (by decide) (by decide) hq1, by rw [d2.2.2 15 (by decide)]; exact e15, d3, Or.inl d5⟩, hw.same ?_⟩
      · unfold g2
        rw [lg2 hk1]
        simp only [Option.bind_some]
        show (f125 (nI a) (nI b) t1).bind _ = _
        rw [d1]
        simp only [Option.bind_some]
        unfold f113
        simp only [Option.bind_some]
        rw [d4, if_pos rfl, if_neg (fun q => q trivial), show Int32.toNatClampNeg 0 = 0 from rfl, j53, e45, hr]
        rcases hr2 with e | e <;> rw [e] <;> rfl
      · exact (z1.mono (by decide) (by decide) (by decide)).trans (d2.mono (by decide) (by decide) (by decide))
    have hv := hl a b (by omega) (by omega)
    by_cases hlk : lk a b
    · obtain ⟨t, E', q1, q2, q3⟩ := c2 hlk
      exact fin 1 t E' q1 q2 (q3.n.mono (by decide) (by decide) (by decide)) (hv.1 hlk) (Or.inr rfl)
    · have same : lk0 lk a b = lk := funext fun u => funext fun v => propext ⟨fun k => k.1, fun k => ⟨k, fun e => hlk (by rw [← e.1, ← e.2]; exact k), fun e => hlk (by have := (h'.ls u v k).2.2.2; rw [e.1, e.2] at this; exact this)⟩⟩
      exact fin 0 s E (c1 hlk) (by rw [same]; exact hC) (sn.refl s) (hv.2 hlk) (Or.inl rfl)
  · have e103 : ∀ k, f103 k x y s = some (.inr 10) := fun k => by
      unfold f103
      rw [(f101_eq hF0 hn4 x y).2 hpr, bx_r]
    have e125 := (f125_ev hn4 h15 hl x y).1 hpr
    refine ⟨0, (uF 14 1 s, [.inr (10, [])]), ?_, ⟨n, E, lk, h'.f14 1⟩, hw.same ((sm_F (LG := []) (by decide) 1 s).n)⟩
    unfold g2 o159
    rw [e103]
    show ((f125 x y s).bind _) = _
    rw [e125]
    rfl
theorem step3 {s : mS} (hI : Inv s) : ∃ k q, g3 k s = some q ∧ Inv q.1 := by
  obtain ⟨⟨n, E, lk, h⟩, hw⟩ := hI
  obtain ⟨hC, hq, h15, hl, hcur⟩ := h
  obtain ⟨t, ⟨K1, k1⟩, q2, q3⟩ := f92_ev hC
  have e15 : t.2.2.1 15 = nI n := by rw [q3.2.2.1 15 (by decide)]; exact h15
  obtain ⟨t2, ⟨K2, k2⟩, d2, d3, d4, d5, d6⟩ := f126_ev e15
  have hk1 := k1 (K1 + K2) (by omega)
  have hk2 := k2 (K1 + K2) (by omega)
  have hk1 : f92 (K1 + K2) s = some (nI n, t) := hk1
  have hk2 : f126 (K1 + K2) t = some (nI n, t2) := hk2
  have kk : kM t t2 := d2.mono (by decide) (by decide) (by decide)
  refine ⟨K1 + K2, (t2, []), ?_, ⟨0, noE, noE, q2.kM kk, kM0.Cq (d2.mono (by decide) (fun _ k => by cases k) (by decide) : sn [45] [53] [14, 15, 16] t t2) (by decide) (by decide) (fun j hj => ?_), d5, d3, Or.inl d6⟩, hw.same ?_⟩
  · unfold g3
    rw [hk1]
    simp only [Option.bind_some]
    rw [hk2]
    simp only [Option.bind_some]
    rw [if_pos trivial]
  · rw [q3.1 18 (by decide), q3.1 19 (by decide), q3.2.1 43 (by decide), q3.2.1 44 (by decide)]
    exact hq j hj
  · exact (q3.n.mono (by decide) (by decide) (by decide)).trans (d2.mono (by decide) (by decide) (by decide))
