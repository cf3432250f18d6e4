/-! turn, sleeve, side and circle -/
theorem isP_g {n : Nat} (hn : n ≤ 1000) (v : Int32) : (isP n v ↔ ¬ v < 0 ∧ v < nI n) ∧ (isP n v ↔ 0 ≤ v ∧ v ≤ nI n - 1) := by
  have h1 : isP n v ↔ ¬ v < 0 ∧ v < nI n := by
    constructor
    · intro ⟨a, ha, e⟩
      rw [e]
      exact ⟨nI_pos (by omega), nI_lt ha (by omega)⟩
    · intro ⟨h1, h2⟩
      obtain ⟨j, hj, e⟩ := nI_of h1
      rw [e] at h2
      exact ⟨j, (nI_ltI hj (by omega)).mp h2, e⟩
  refine ⟨h1, ?_⟩
  rw [h1]
  have e : (nI n - 1).toInt = (n : Int) - 1 := by
    have o : (1 : Int32).toInt = 1 := by decide
    have t := nI_toInt (show n < 2 ^ 31 by omega)
    rw [i32s (by omega) (by omega), t, o]
  have e0 : (0 : Int32).toInt = 0 := by decide
  rw [Int32.lt_iff_toInt_lt, Int32.lt_iff_toInt_lt, Int32.le_iff_toInt_le, Int32.le_iff_toInt_le, e, e0, nI_toInt (by omega)]
  omega
theorem step12 {s : mS} (hI : Inv s) (x : Int32) : ∃ q, g12 x s = some q ∧ Inv q.1 := by
  obtain ⟨⟨n, E, lk, h⟩, hw⟩ := hI
  have hw' := hw
  obtain ⟨a, b, ha, hb, w1, w2, w3, w4, w5, w6⟩ := hw
  refine ⟨(uF 14 0 s, []), ?_, ⟨n, E, lk, h.f14 0⟩, hw'.same ((sm_F (LG := []) (by decide) 0 s).n)⟩
  have key := isP_g (show b ≤ 1000 by omega) x
  unfold g12 f94 f79 f10 f155
  simp only [pt]
  have e19 : (uF 14 0 s).2.2.1 19 = nI b := w5
  rw [e19, w4]
  by_cases hp : isP b x
  · obtain ⟨k1, k2⟩ := key.1.mp hp
    rw [if_neg k1, if_pos k2, (f116_eq x _ _ _).1 (key.2.mp hp)]
    obtain ⟨i, hi, e⟩ := hp
    rw [e, rdI_nI (show i < 77 by omega) (by decide), rdI_nI (show i < 100 by omega) (by decide), nI_clamp (by omega)]
    simp only [Option.bind_some]
    rw [if_neg (by decide)]
    simp only [Option.bind_some]
    have e49 : (uF 14 0 s).1 49 i = s.1 49 i := rfl
    rw [e49, w6 i hi, if_pos rfl]
  · rw [(f116_eq x _ _ _).2 (fun q => hp (key.2.mpr q))]
    have : (if x < 0 then some (-1 : Int32) else if x < nI b then rdI 77 x (some (s.1 41 (Int32.toNatClampNeg x))) else some (-1)) = some (-1) := by
      by_cases c : x < 0
      · rw [if_pos c]
      · rw [if_neg c, if_neg (fun q => hp (key.1.mpr ⟨c, q⟩))]
    rw [this]
    rfl
theorem step13 {s : mS} (hI : Inv s) (x : Int32) : ∃ q, g13 x s = some q ∧ Inv q.1 := by
  obtain ⟨⟨n, E, lk, h⟩, hw⟩ := hI
  have hw' := hw
  obtain ⟨a, b, ha, hb, w1, w2, w3, w4, w5, w6⟩ := hw
  refine ⟨(uF 14 0 s, []), ?_, ⟨n, E, lk, h.f14 0⟩, hw'.same ((sm_F (LG := []) (by decide) 0 s).n)⟩
  have key := isP_g (show a ≤ 1000 by omega) x
  unfold g13 f95 f80 f156
  simp only [pt]
  have e18 : (uF 14 0 s).2.2.1 18 = nI a := w2
  rw [e18, w1]
  by_cases hp : isP a x
  · obtain ⟨k1, k2⟩ := key.1.mp hp
    rw [if_neg k1, if_pos k2, (f116_eq x _ _ _).1 (key.2.mp hp)]
    obtain ⟨i, hi, e⟩ := hp
    rw [e, rdI_nI (show i < 75 by omega) (by decide), rdI_nI (show i < 100 by omega) (by decide), nI_clamp (by omega)]
    simp only [Option.bind_some]
    rw [if_neg (by decide)]
    simp only [Option.bind_some]
    have e48 : (uF 14 0 s).1 48 i = s.1 48 i := rfl
    rw [e48, w3 i hi, if_pos rfl]
  · rw [(f116_eq x _ _ _).2 (fun q => hp (key.2.mpr q))]
    have : (if x < 0 then some (-1 : Int32) else if x < nI a then rdI 75 x (some (s.1 33 (Int32.toNatClampNeg x))) else some (-1)) = some (-1) := by
      by_cases c : x < 0
      · rw [if_pos c]
      · rw [if_neg c, if_neg (fun q => hp (key.1.mpr ⟨c, q⟩))]
    rw [this]
    rfl
/-- the answer and the refusal laid down -/
theorem I0.xou {s : mS} {n : Nat} {E lk : Nat → Nat → Prop} (h : I0 s n E lk) (v : Int64) : I0 (ou v s) n E lk := by
  have z := ou_z v s
  refine ⟨h.1.kM (z.mono (by decide) (by decide) (by decide)), kM0.Cq z (by decide) (by decide) h.2.1, h.2.2.1, h.2.2.2.1, ?_⟩
  rcases h.2.2.2.2 with k | k
  · exact Or.inl k
  · exact Or.inr (k.over h.Mm (fun i _ => ⟨rfl, rfl⟩) rfl rfl rfl rfl)
/-- longs of sums are nobody's business -/
theorem I0.sums {s t : mS} {n : Nat} {E lk : Nat → Nat → Prop} (h : I0 s n E lk) (z : sn [] [] [] s t) : I0 t n E lk := by
  refine ⟨h.1.kM (z.mono (by decide) (by decide) (by decide)), kM0.Cq (z.mono (by decide) (by decide) (by decide) : sn [] [53] [] s t) (by decide) (by decide) h.2.1, by rw [z.2.2 15 (by decide)]; exact h.2.2.1, h.2.2.2.1.same (z.1 45 (by decide)), ?_⟩
  have XY := snX z (by decide) (by decide)
  rcases h.2.2.2.2 with k | k
  · exact Or.inl (by rw [z.2.2 16 (by decide)]; exact k)
  · exact Or.inr (k.over h.Mm (fun i _ => by rw [XY.1, XY.2]; exact ⟨rfl, rfl⟩) (z.1 46 (by decide)) (z.1 47 (by decide)) (z.2.2 16 (by decide)) (z.2.2 17 (by decide)))
theorem WY.xou {s : mS} (h : WY s) (v : Int64) (w : Int32) : WY (uF 14 w (ou v s)) := h.same (((ou_z v s).mono (by decide) (by decide) (by decide)).trans ((sm_F (LG := []) (by decide) w _).n))
theorem sn0.W {s t : mS} (z : sn [] [] [] s t) (h : WY s) : WY t := h.same (z.mono (by decide) (by decide) (by decide))
theorem step8 {s : mS} (hI : Inv s) (x y z : Int32) : ∃ q, g8 x y z s = some q ∧ Inv q.1 := by
  obtain ⟨⟨n, E, lk, h⟩, hw⟩ := hI
  have h' := h
  obtain ⟨hC, hq, h15, hl, hcur⟩ := h
  have hn4 : n ≤ 40 := hC.1.1.2.2.1
  have hPc : P42 s := hC.1.1.1
  have hF0 : s.2.2.1 0 = nI n := hC.1.1.2.1
  have hPm := hq.P hPc
  by_cases hp : isP n x ∧ isP n y ∧ isP n z
  · obtain ⟨p1, p2, p3⟩ := hp
    have a1 := (f102_eq hF0 hn4 x).1 p1
    have a2 := (f102_eq hF0 hn4 y).1 p2
    have a3 := (f102_eq hF0 hn4 z).1 p3
    obtain ⟨a, ha, ea⟩ := p1
    obtain ⟨b, hb, eb⟩ := p2
    obtain ⟨c, hc, ec⟩ := p3
    let v := sgn (ar (Xc s) (Yc s) a b c)
    have e108 : f108 x y z s = some (.inl v) := by
      unfold f108
      rw [a1, bx_l, a2, bx_l, a3, bx_l, ea, eb, ec, f73_eq hPc (by omega) (by omega) (by omega)]
      rfl
    let t1 := ou v.toInt64 s
    have e15 : t1.2.2.1 15 = nI n := h15
    have ear : ar (Xm t1) (Ym t1) a b c = ar (Xc s) (Yc s) a b c := (hq.X.xar (show a < 42 by omega) (show b < 42 by omega) (show c < 42 by omega)).symm
    have e143 : f143 x y z t1 = some (v, uF 14 0 t1) := by
      unfold f143
      rw [(f122_eq e15 hn4 x).1 ⟨a, ha, ea⟩, (f122_eq e15 hn4 y).1 ⟨b, hb, eb⟩, (f122_eq e15 hn4 z).1 ⟨c, hc, ec⟩]
      simp only [Option.bind_some]
      rw [if_neg (by decide), if_neg (by decide), if_neg (by decide), f117_eq]
      simp only [Option.bind_some]
      rw [if_pos (by decide), ea, eb, ec, f119_eq (s := uF 14 0 t1) hPm (by omega) (by omega) (by omega)]
      show some (sgn (ar (Xm t1) (Ym t1) a b c), uF 14 0 t1) = _
      rw [ear]
    refine ⟨(uF 14 0 t1, []), ?_, ⟨n, E, lk, (h'.xou v.toInt64).f14 0⟩, hw.xou v.toInt64 0⟩
    unfold g8 o163
    rw [e108]
    show (f143 x y z t1).bind _ = _
    rw [e143]
    simp only [Option.bind_some]
    unfold f113
    simp only [Option.bind_some]
    have j53 : (uF 14 0 t1).2.1 53 0 = v.toInt64 := ou_at _ s
    rw [uF_at, if_pos rfl, if_neg (fun q => q trivial), show Int32.toNatClampNeg 0 = 0 from rfl, j53, if_pos rfl]
  · have e108 : f108 x y z s = some (.inr 10) := by
      unfold f108
      by_cases p1 : isP n x
      · rw [(f102_eq hF0 hn4 x).1 p1, bx_l]
        by_cases p2 : isP n y
        · rw [(f102_eq hF0 hn4 y).1 p2, bx_l, (f102_eq hF0 hn4 z).2 (fun q => hp ⟨p1, p2, q⟩), bx_r]
        · rw [(f102_eq hF0 hn4 y).2 p2, bx_r]
      · rw [(f102_eq hF0 hn4 x).2 p1, bx_r]
    have e143 : f143 x y z s = some (0, uF 14 1 s) := by
      unfold f143
      by_cases p1 : isP n x
      · rw [(f122_eq h15 hn4 x).1 p1]
        by_cases p2 : isP n y
        · rw [(f122_eq h15 hn4 y).1 p2, (f122_eq h15 hn4 z).2 (fun q => hp ⟨p1, p2, q⟩)]
          simp only [Option.bind_some]
          rw [if_neg (by decide), if_neg (by decide), if_pos trivial, f117_eq]
          rfl
        · rw [(f122_eq h15 hn4 y).2 p2]
          simp only [Option.bind_some]
          rw [if_neg (by decide), if_pos trivial, f117_eq]
          rfl
      · rw [(f122_eq h15 hn4 x).2 p1]
        simp only [Option.bind_some]
        rw [if_pos trivial, f117_eq]
        rfl
    refine ⟨(uF 14 1 s, [.inr (10, [])]), ?_, ⟨n, E, lk, h'.f14 1⟩, hw.same ((sm_F (LG := []) (by decide) 1 s).n)⟩
    unfold g8 o163
    rw [e108]
    show (f143 x y z s).bind _ = _
    rw [e143]
    rfl
theorem inc_sw (X Y : Nat → Int) (a b c d : Nat) : inc X Y a c b d = -inc X Y a b c d := by unfold inc sq ar; grind
theorem agr.xinc {X Y X' Y' : Nat → Int} {n a b c d : Nat} (h : agr X Y X' Y' n) (ha : a < n) (hb : b < n) (hc : c < n) (hd : d < n) : inc X Y a b c d = inc X' Y' a b c d := by
  unfold inc sq
  rw [h.xar hd hb hc, h.xar hd hc ha, h.xar hd ha hb, (h a ha).1, (h a ha).2, (h b hb).1, (h b hb).2, (h c hc).1, (h c hc).2, (h d hd).1, (h d hd).2]
theorem sgn_neg (z : Int) : sgn (-z) = (-1 : Int32) * sgn z := by
  unfold sgn
  rcases Int.lt_trichotomy z 0 with h | h | h
  · rw [if_pos (by omega), if_neg (by omega), if_pos h]; decide
  · rw [if_neg (by omega), if_neg (by omega), if_neg (by omega), if_neg (by omega)]; decide
  · rw [if_neg (by omega), if_pos (by omega), if_pos h]; decide
theorem sgn_1 {z : Int} (h : 0 < z) : sgn z = 1 := by unfold sgn; rw [if_pos h]
theorem sgn_m1 {z : Int} (h : z < 0) : sgn z = -1 := by unfold sgn; rw [if_neg (by omega), if_pos h]
theorem step9 {s : mS} (hI : Inv s) (x y z w : Int32) : ∃ q, g9 x y z w s = some q ∧ Inv q.1 := by
  obtain ⟨⟨n, E, lk, h⟩, hw⟩ := hI
  have h' := h
  obtain ⟨hC, hq, h15, hl, hcur⟩ := h
  have hn4 : n ≤ 40 := hC.1.1.2.2.1
  have hPc : P42 s := hC.1.1.1
  have hF0 : s.2.2.1 0 = nI n := hC.1.1.2.1
  have hPm := hq.P hPc
  have bad : f109 x y z w s = some (.inr 10) → f144 x y z w s = some (0, uF 14 1 s) → ∃ q, g9 x y z w s = some q ∧ Inv q.1 := by
    intro e109 e144
    refine ⟨(uF 14 1 s, [.inr (10, [])]), ?_, ⟨n, E, lk, h'.f14 1⟩, hw.same ((sm_F (LG := []) (by decide) 1 s).n)⟩
    unfold g9 o164
    rw [e109]
    show (f144 x y z w s).bind _ = _
    rw [e144]
    rfl
  have j0 : ∀ v5 : Int32, v5 = 0 → j144_40 x y z w v5 s = some (0, uF 14 1 s) := fun v5 e => by
    unfold j144_40
    rw [if_pos e, f117_eq]
    rfl
  by_cases hp : isP n x ∧ isP n y ∧ isP n z ∧ isP n w
  · obtain ⟨p1, p2, p3, p4⟩ := hp
    have a1 := (f102_eq hF0 hn4 x).1 p1
    have a2 := (f102_eq hF0 hn4 y).1 p2
    have a3 := (f102_eq hF0 hn4 z).1 p3
    have a4 := (f102_eq hF0 hn4 w).1 p4
    have b1 : ∀ t : mS, t.2.2.1 15 = nI n → f122 x t = some 1 ∧ f122 y t = some 1 ∧ f122 z t = some 1 ∧ f122 w t = some 1 := fun t e => ⟨(f122_eq e hn4 x).1 p1, (f122_eq e hn4 y).1 p2, (f122_eq e hn4 z).1 p3, (f122_eq e hn4 w).1 p4⟩
    obtain ⟨a, ha, ea⟩ := p1
    obtain ⟨b, hb, eb⟩ := p2
    obtain ⟨c, hc, ec⟩ := p3
    obtain ⟨d, hd, ed⟩ := p4
    have ear : ar (Xm s) (Ym s) a b c = ar (Xc s) (Yc s) a b c := (hq.X.xar (show a < 42 by omega) (show b < 42 by omega) (show c < 42 by omega)).symm
    have e144 : ∀ t : mS, t.2.2.1 15 = nI n → f144 x y z w t = j144_40 x y z w 1 t := fun t e => by
      obtain ⟨c1, c2, c3, c4⟩ := b1 t e
      unfold f144
      rw [c1, c2, c3, c4]
      rfl
    by_cases hz : ar (Xc s) (Yc s) a b c = 0
    · refine bad ?_ ?_
      · unfold f109
        rw [a1, bx_l, a2, bx_l, a3, bx_l, a4, bx_l, ea, eb, ec, f73_eq hPc (by omega) (by omega) (by omega), hz]
        rfl
      · rw [e144 s h15]
        unfold j144_40
        rw [if_neg (by decide), ea, eb, ec, f119_eq hPm (by omega) (by omega) (by omega), ear, hz]
        simp only [Option.bind_some]
        rw [if_pos (show sgn 0 = 0 by decide), f117_eq]
        rfl
    · obtain ⟨t, f1, f2⟩ := f75_eq hPc (show a < 42 by omega) (show b < 42 by omega) (show c < 42 by omega) (show d < 42 by omega)
      let v := sgn (ar (Xc s) (Yc s) a b c) * sgn (inc (Xc s) (Yc s) a b c d)
      have e109 : f109 x y z w s = some (.inl (v, t)) := by
        unfold f109
        rw [a1, bx_l, a2, bx_l, a3, bx_l, a4, bx_l, ea, eb, ec, ed, f73_eq hPc (by omega) (by omega) (by omega)]
        simp only [Option.bind_some]
        have nz : ¬ sgn (ar (Xc s) (Yc s) a b c) = 0 := fun q => hz (sgn_zero.mp q)
        rw [if_pos nz, f1]
        rfl
      have zt : sn [] [] [] s t := ⟨fun j _ => by rw [f2.1], fun j _ => by rw [f2.2.1], fun j _ => by rw [f2.2.2.1]⟩
      let t1 := ou v.toInt64 t
      have XY := snX zt (by decide) (by decide)
      have eX : Xm t1 = Xm s := XY.1
      have eY : Ym t1 = Ym s := XY.2
      have e15 : t1.2.2.1 15 = nI n := by show t.2.2.1 15 = nI n; rw [zt.2.2 15 (by decide)]; exact h15
      let t2 := uF 14 0 t1
      have hP2 : PM t2 := fun j hj => by show ((Xm t1 j).natAbs ≤ _) ∧ _; rw [eX]; show _ ∧ ((Ym t1 j).natAbs ≤ _); rw [eY]; exact hPm j hj
      have eX2 : Xm t2 = Xm s := eX
      have eY2 : Ym t2 = Ym s := eY
      have ag := hq.X
      have einc : inc (Xm s) (Ym s) a b c d = inc (Xc s) (Yc s) a b c d := (ag.xinc (show a < 42 by omega) (show b < 42 by omega) (show c < 42 by omega) (show d < 42 by omega)).symm
      have hm : ∃ t3, f144 x y z w t1 = some (v, t3) ∧ sn [] [] [] t2 t3 := by
        have hP1 : PM t1 := fun j hj => by rw [eX, eY]; exact hPm j hj
        have e119 : f119 (nI a) (nI b) (nI c) t1 = some (sgn (ar (Xc s) (Yc s) a b c)) := by rw [f119_eq hP1 (by omega) (by omega) (by omega), eX, eY, ear]
        have e119' : f119 (nI a) (nI b) (nI c) t2 = some (sgn (ar (Xc s) (Yc s) a b c)) := by rw [f119_eq hP2 (by omega) (by omega) (by omega), eX2, eY2, ear]
        have nz : ¬ sgn (ar (Xc s) (Yc s) a b c) = 0 := fun q => hz (sgn_zero.mp q)
        rw [e144 t1 e15]
        have hb0 : j144_40 x y z w 1 t1 = j144_69 x y z w 1 t2 := by
          unfold j144_40
          rw [if_neg (by decide), ea, eb, ec, e119]
          simp only [Option.bind_some]
          rw [if_neg nz, f117_eq]
          rfl
        rw [hb0]
        unfold j144_69
        rw [ea, eb, ec, ed, e119']
        simp only [Option.bind_some]
        by_cases hpos : 0 < ar (Xc s) (Yc s) a b c
        · rw [if_neg (fun q => by have := (sgn_le _).mp q; omega)]
          obtain ⟨t3, g1, g2⟩ := f135_eq hP2 (show a < 42 by omega) (show b < 42 by omega) (show c < 42 by omega) (show d < 42 by omega)
          refine ⟨t3, ?_, g2.n⟩
          rw [g1, eX2, eY2, einc]
          show some (sgn (inc (Xc s) (Yc s) a b c d), t3) = some (sgn (ar (Xc s) (Yc s) a b c) * sgn (inc (Xc s) (Yc s) a b c d), t3)
          rw [sgn_1 hpos, Int32.one_mul]
        · rw [if_pos ((sgn_le _).mpr (by omega))]
          obtain ⟨t3, g1, g2⟩ := f135_eq hP2 (show a < 42 by omega) (show c < 42 by omega) (show b < 42 by omega) (show d < 42 by omega)
          refine ⟨t3, ?_, g2.n⟩
          rw [g1, eX2, eY2, inc_sw, einc]
          show some (sgn (-inc (Xc s) (Yc s) a b c d), t3) = some (sgn (ar (Xc s) (Yc s) a b c) * sgn (inc (Xc s) (Yc s) a b c d), t3)
          rw [sgn_neg, sgn_m1 (show ar (Xc s) (Yc s) a b c < 0 by omega)]
      obtain ⟨t3, g1, g2⟩ := hm
      refine ⟨(t3, []), ?_, ⟨n, E, lk, (((h'.sums zt).xou v.toInt64).f14 0).sums g2⟩, sn0.W g2 ((sn0.W zt hw).xou v.toInt64 0)⟩
      unfold g9 o164
      rw [e109]
      show (f144 x y z w t1).bind _ = _
      rw [g1]
      simp only [Option.bind_some]
      unfold f113
      simp only [Option.bind_some]
      have j53 : t3.2.1 53 0 = v.toInt64 := by
        rw [g2.2.1 53 (by decide)]
        exact ou_at _ t
      have f14 : t3.2.2.1 14 = 0 := by
        rw [g2.2.2 14 (by decide)]
        exact uF_at 14 0 t1
      rw [f14, if_pos rfl, if_neg (fun q => q trivial), show Int32.toNatClampNeg 0 = 0 from rfl, j53, if_pos rfl]
  · refine bad ?_ ?_
    · unfold f109
      by_cases p1 : isP n x
      · rw [(f102_eq hF0 hn4 x).1 p1, bx_l]
        by_cases p2 : isP n y
        · rw [(f102_eq hF0 hn4 y).1 p2, bx_l]
          by_cases p3 : isP n z
          · rw [(f102_eq hF0 hn4 z).1 p3, bx_l, (f102_eq hF0 hn4 w).2 (fun q => hp ⟨p1, p2, p3, q⟩), bx_r]
          · rw [(f102_eq hF0 hn4 z).2 p3, bx_r]
        · rw [(f102_eq hF0 hn4 y).2 p2, bx_r]
      · rw [(f102_eq hF0 hn4 x).2 p1, bx_r]
    · unfold f144
      by_cases p1 : isP n x
      · rw [(f122_eq h15 hn4 x).1 p1]
        by_cases p2 : isP n y
        · rw [(f122_eq h15 hn4 y).1 p2]
          by_cases p3 : isP n z
          · rw [(f122_eq h15 hn4 z).1 p3, (f122_eq h15 hn4 w).2 (fun q => hp ⟨p1, p2, p3, q⟩)]
            simp only [Option.bind_some]
            rw [if_neg (by decide), if_neg (by decide), if_neg (by decide), if_pos trivial]
            exact j0 0 rfl
          · rw [(f122_eq h15 hn4 z).2 p3]
            simp only [Option.bind_some]
            rw [if_neg (by decide), if_neg (by decide), if_pos trivial]
            exact j0 0 rfl
        · rw [(f122_eq h15 hn4 y).2 p2]
          simp only [Option.bind_some]
          rw [if_neg (by decide), if_pos trivial]
          exact j0 0 rfl
      · rw [(f122_eq h15 hn4 x).2 p1]
        simp only [Option.bind_some]
        rw [if_pos trivial]
        exact j0 0 rfl
