/-! corner, across, edge, locate -/
theorem f105_eq {s : mS} {m : Nat} (h2 : s.2.2.1 2 = nI m) (hm : m ≤ 1000) (x y : Int32) : (isP m x ∧ isP 3 y → f105 x y s = some (.inl ())) ∧ (¬ (isP m x ∧ isP 3 y) → f105 x y s = some (.inr 12)) := by
  have kx := (isP_g hm x).1
  have ky := (isP_g (show 3 ≤ 1000 by decide) y).1
  have e3 : ∀ y : Int32, y ≤ 2 ↔ y < nI 3 := fun y => by
    rw [Int32.le_iff_toInt_le, Int32.lt_iff_toInt_lt, nI_toInt (by decide)]
    have : (2 : Int32).toInt = 2 := by decide
    omega
  have ge : nI m ≤ x ↔ ¬ x < nI m := by rw [Int32.le_iff_toInt_le, Int32.lt_iff_toInt_lt]; omega
  unfold f105 f46
  simp only [Option.bind_some]
  rw [h2, kx, ky]
  constructor
  · intro ⟨⟨a, b⟩, c, d⟩
    rw [if_neg a, if_neg (fun q => ge.mp q b), if_neg c, if_pos ((e3 y).mpr d)]
  · intro h
    by_cases a : x < 0
    · rw [if_pos a]
    · rw [if_neg a]
      by_cases b : x < nI m
      · rw [if_neg (fun q => ge.mp q b)]
        by_cases c : y < 0
        · rw [if_pos c]
        · rw [if_neg c, if_neg (fun q => h ⟨⟨a, b⟩, c, (e3 y).mp q⟩)]
      · rw [if_pos (ge.mpr b)]
theorem f140_eq {k : Nat} {s t : mS} {m : Nat} (e : f128 k s = some t) (h17 : t.2.2.1 17 = nI m) (hm : m ≤ 1000) (x y : Int32) : (isP m x ∧ isP 3 y → f140 k x y s = some (1, t)) ∧ (¬ (isP m x ∧ isP 3 y) → f140 k x y s = some (0, t)) := by
  have kx := (isP_g hm x).2
  have ky := (isP_g (show 3 ≤ 1000 by decide) y).2
  have e2 : nI 3 - 1 = (2 : Int32) := by decide
  rw [e2] at ky
  unfold f140
  rw [e]
  simp only [Option.bind_some]
  rw [h17]
  constructor
  · intro ⟨a, b⟩
    rw [(f116_eq x _ _ t).1 (kx.mp a), (f116_eq y _ _ t).1 (ky.mp b)]
    rfl
  · intro h
    by_cases a : isP m x
    · rw [(f116_eq x _ _ t).1 (kx.mp a), (f116_eq y _ _ t).2 (fun q => h ⟨a, ky.mpr q⟩)]
      rfl
    · rw [(f116_eq x _ _ t).2 (fun q => a (kx.mpr q))]
      rfl
/-- the end of a call that asks, both having answered v -/
theorem I0.end0 {s : mS} {n : Nat} {E lk : Nat → Nat → Prop} (h : I0 s n E lk) (hw : WY s) : Inv (uF 14 0 s) ∧ Inv (uF 14 1 s) := ⟨⟨⟨n, E, lk, h.f14 0⟩, hw.same ((sm_F (LG := []) (by decide) 0 s).n)⟩, ⟨⟨n, E, lk, h.f14 1⟩, hw.same ((sm_F (LG := []) (by decide) 1 s).n)⟩⟩
theorem step5 {s : mS} (hI : Inv s) (x y : Int32) : ∃ k q, g5 k x y s = some q ∧ Inv q.1 := by
  obtain ⟨⟨n, E, lk, h⟩, hw⟩ := hI
  obtain ⟨m, T, ct, rt⟩ := h.1.ct
  have hm := ct.2.1
  have hn4 : n ≤ 40 := h.1.1.1.2.2.1
  by_cases hv : isP m x ∧ isP 3 y
  · have e105 := (f105_eq ct.2.2.1 (by omega) x y).1 hv
    have hv' := hv
    obtain ⟨⟨i, hi, ei⟩, ⟨k, hk, ek⟩⟩ := hv'
    let v := nI (T i k)
    have e104 : f104 x y s = some (.inl v) := by
      unfold f104
      rw [e105, bx_l, ei, ek, f52_eq (by omega), (ct.2.2.2 i k hi hk).1]
      rfl
    obtain ⟨t, ⟨K, e1⟩, e2, e3, e4⟩ := (h.xou v.toInt64).xf128
    have e1 := e1 K (Nat.le_refl _)
    have e1 : f128 K (ou v.toInt64 s) = some t := e1
    have ag : agr (Xc s) (Yc s) (Xm t) (Ym t) n := by
      have := (e2.2.1.X.le (show n ≤ 42 by omega))
      have XY : Xc t = Xc s ∧ Yc t = Yc s := ⟨funext fun j => by unfold Xc; rw [e4.1 18 (by decide)]; rfl, funext fun j => by unfold Yc; rw [e4.1 19 (by decide)]; rfl⟩
      rw [XY.1, XY.2] at this
      exact this
    obtain ⟨r1, _⟩ := rt t ag e3
    have ht := (e2.end0 (hw.same (((ou_z v.toInt64 s).mono (by decide) (by decide) (by decide)).trans (e4.mono (by decide) (by decide) (by decide))))).1
    refine ⟨K, (uF 14 0 t, []), ?_, ht⟩
    have e139 : f139 K x y (ou v.toInt64 s) = some (v, uF 14 0 t) := by
      unfold f139
      rw [(f140_eq e1 r1.1 (by omega) x y).1 hv]
      simp only [Option.bind_some]
      rw [if_neg (by decide), f117_eq]
      simp only [Option.bind_some]
      rw [if_pos (by decide), ei, ek, nI_3, nI_add, rdI_nI (show 3 * i + k < 300 by omega) (by decide), nI_clamp (by omega)]
      show some (t.1 47 (3 * i + k), uF 14 0 t) = _
      rw [r1.2 i k hi hk]
    unfold g5 o160
    rw [e104]
    show (f139 K x y (ou v.toInt64 s)).bind _ = _
    rw [e139]
    simp only [Option.bind_some]
    unfold f113
    simp only [Option.bind_some]
    have j53 : (uF 14 0 t).2.1 53 0 = v.toInt64 := by
      show t.2.1 53 0 = _
      rw [e4.2.1 53 (by decide)]
      exact ou_at _ s
    rw [uF_at, if_pos rfl, if_neg (fun q => q trivial), show Int32.toNatClampNeg 0 = 0 from rfl, j53, if_pos rfl]
  · have e105 := (f105_eq ct.2.2.1 (by omega) x y).2 hv
    have e104 : f104 x y s = some (.inr 12) := by
      unfold f104
      rw [e105, bx_r]
    obtain ⟨t, ⟨K, e1⟩, e2, e3, e4⟩ := h.xf128
    have e1 := e1 K (Nat.le_refl _)
    have e1 : f128 K s = some t := e1
    have ag : agr (Xc s) (Yc s) (Xm t) (Ym t) n := by
      have := (e2.2.1.X.le (show n ≤ 42 by omega))
      have XY : Xc t = Xc s ∧ Yc t = Yc s := ⟨funext fun j => by unfold Xc; rw [e4.1 18 (by decide)], funext fun j => by unfold Yc; rw [e4.1 19 (by decide)]⟩
      rw [XY.1, XY.2] at this
      exact this
    obtain ⟨r1, _⟩ := rt t ag e3
    have ht := (e2.end0 (hw.same (e4.mono (by decide) (by decide) (by decide)))).2
    refine ⟨K, (uF 14 1 t, [.inr (12, [])]), ?_, ht⟩
    have e139 : f139 K x y s = some (0, uF 14 1 t) := by
      unfold f139
      rw [(f140_eq e1 r1.1 (by omega) x y).2 hv]
      simp only [Option.bind_some]
      rw [if_pos trivial, f117_eq]
      rfl
    unfold g5 o160
    rw [e104]
    show (f139 K x y s).bind _ = _
    rw [e139]
    rfl
theorem step6 {s : mS} (hI : Inv s) (x y : Int32) : ∃ k q, g6 k x y s = some q ∧ Inv q.1 := by
  obtain ⟨⟨n, E, lk, h⟩, hw⟩ := hI
  obtain ⟨m, T, ct, rt⟩ := h.1.ct
  have hm := ct.2.1
  have hn4 : n ≤ 40 := h.1.1.1.2.2.1
  have hM := h.1.1.1.2.2.2.2.1
  by_cases hv : isP m x ∧ isP 3 y
  · have e105 := (f105_eq ct.2.2.1 (by omega) x y).1 hv
    have hv' := hv
    obtain ⟨⟨i, hi, ei⟩, ⟨k, hk, ek⟩⟩ := hv'
    obtain ⟨v, v1, v2⟩ := f63_ev h.1.1.1 ct hi hk
    have l1 := ct.1.lt hM hi hk
    have l2 := ct.1.lt hM hi (show (k + 1) % 3 < 3 by omega)
    have e106 : f106 x y s = some (.inl v) := by
      unfold f106
      rw [e105, bx_l, ei, ek, v1]
      rfl
    obtain ⟨t, ⟨K1, e1⟩, e2, e3, e4⟩ := (h.xou v.toInt64).xf128
    have ag : agr (Xc s) (Yc s) (Xm t) (Ym t) n := by
      have := (e2.2.1.X.le (show n ≤ 42 by omega))
      have XY : Xc t = Xc s ∧ Yc t = Yc s := ⟨funext fun j => by unfold Xc; rw [e4.1 18 (by decide)]; rfl, funext fun j => by unfold Yc; rw [e4.1 19 (by decide)]; rfl⟩
      rw [XY.1, XY.2] at this
      exact this
    obtain ⟨r1, _⟩ := rt t ag e3
    obtain ⟨w, ⟨K2, w1⟩, w2⟩ := f138_ev (s := uF 14 0 t) hM hn4 ct.1 (r1.same rfl rfl) hm (show T i ((k + 1) % 3) < 40 by omega) (show T i k < 40 by omega)
    have ew : w = v := nb_uniq ct.1 w2 v2
    rw [ew] at w1
    have w1 := w1 (K1 + K2) (by omega)
    have w1 : f138 (K1 + K2) (nI (T i ((k + 1) % 3))) (nI (T i k)) (uF 14 0 t) = some v := w1
    have e1 := e1 (K1 + K2) (by omega)
    have e1 : f128 (K1 + K2) (ou v.toInt64 s) = some t := e1
    have ht := (e2.end0 (hw.same (((ou_z v.toInt64 s).mono (by decide) (by decide) (by decide)).trans (e4.mono (by decide) (by decide) (by decide))))).1
    refine ⟨K1 + K2, (uF 14 0 t, []), ?_, ht⟩
    have q1 : (uF 14 0 t).1 47 (3 * i + k) = nI (T i k) := r1.2 i k hi hk
    have q2 : (uF 14 0 t).1 47 (3 * i + (k + 1) % 3) = nI (T i ((k + 1) % 3)) := r1.2 i _ hi (by omega)
    have e141 : f141 (K1 + K2) x y (ou v.toInt64 s) = some (v, uF 14 0 t) := by
      unfold f141
      rw [(f140_eq e1 r1.1 (by omega) x y).1 hv]
      simp only [Option.bind_some]
      rw [if_neg (by decide), f117_eq]
      simp only [Option.bind_some]
      rw [if_pos (by decide), ei, ek, md3 k hk, nI_3, nI_add, nI_add, rdI_nI (show 3 * i + k < 300 by omega) (by decide), rdI_nI (show 3 * i + (k + 1) % 3 < 300 by omega) (by decide), nI_clamp (by omega), nI_clamp (by omega), q1, q2, w1]
      rfl
    unfold g6 o161
    rw [e106]
    show (f141 (K1 + K2) x y (ou v.toInt64 s)).bind _ = _
    rw [e141]
    simp only [Option.bind_some]
    unfold f113
    simp only [Option.bind_some]
    have j53 : (uF 14 0 t).2.1 53 0 = v.toInt64 := by
      show t.2.1 53 0 = _
      rw [e4.2.1 53 (by decide)]
      exact ou_at _ s
    rw [uF_at, if_pos rfl, if_neg (fun q => q trivial), show Int32.toNatClampNeg 0 = 0 from rfl, j53, if_pos rfl]
  · have e105 := (f105_eq ct.2.2.1 (by omega) x y).2 hv
    have e106 : f106 x y s = some (.inr 12) := by
      unfold f106
      rw [e105, bx_r]
    obtain ⟨t, ⟨K, e1⟩, e2, e3, e4⟩ := h.xf128
    have e1 := e1 K (Nat.le_refl _)
    have e1 : f128 K s = some t := e1
    have ag : agr (Xc s) (Yc s) (Xm t) (Ym t) n := by
      have := (e2.2.1.X.le (show n ≤ 42 by omega))
      have XY : Xc t = Xc s ∧ Yc t = Yc s := ⟨funext fun j => by unfold Xc; rw [e4.1 18 (by decide)], funext fun j => by unfold Yc; rw [e4.1 19 (by decide)]⟩
      rw [XY.1, XY.2] at this
      exact this
    obtain ⟨r1, _⟩ := rt t ag e3
    have ht := (e2.end0 (hw.same (e4.mono (by decide) (by decide) (by decide)))).2
    refine ⟨K, (uF 14 1 t, [.inr (12, [])]), ?_, ht⟩
    have e141 : f141 K x y s = some (0, uF 14 1 t) := by
      unfold f141
      rw [(f140_eq e1 r1.1 (by omega) x y).2 hv]
      simp only [Option.bind_some]
      rw [if_pos trivial, f117_eq]
      rfl
    unfold g6 o161
    rw [e106]
    show (f141 K x y s).bind _ = _
    rw [e141]
    rfl
theorem TL0 {X Y : Nat → Int} {n : Nat} {E : Nat → Nat → Prop} {m : Nat} {T : Nat → Nat → Nat} (hD : Dst X Y n) (hM : Mx X Y n E) (h : TL X Y n E m T) : (0 < m → ∀ a b, E a b → hasT X Y n E a b ∨ hasT X Y n E b a) ∧ (m = 0 → ∀ a b, ¬ hasT X Y n E a b) := by
  constructor
  · intro hm a b hE
    have t := h.1 0 hm
    have l := t.lt hM
    exact one_T hD hM ⟨T 0 0, T 0 1, T 0 2, l.1, l.2.1, l.2.2, by have := t.2.2.2.1; omega⟩ hE
  · intro hm a b ⟨c, hc⟩
    obtain ⟨i, k, hi, _⟩ := h.2.1 a b c hc
    omega
theorem step7 {s : mS} (hI : Inv s) (x y : Int32) : ∃ k q, g7 k x y s = some q ∧ Inv q.1 := by
  obtain ⟨⟨n, E, lk, h⟩, hw⟩ := hI
  obtain ⟨m, T, ct, rt⟩ := h.1.ct
  have hm := ct.2.1
  have hn4 : n ≤ 40 := h.1.1.1.2.2.1
  have hM := h.1.1.1.2.2.2.2.1
  have hD := h.1.1.1.2.2.2.1
  have hF0 : s.2.2.1 0 = nI n := h.1.1.1.2.1
  have h15 := h.2.2.1
  by_cases hpr : isPr n x y
  · have hpr' := hpr
    obtain ⟨⟨a, ha, ea⟩, ⟨b, hb, eb⟩, hne⟩ := hpr'
    have nab : a ≠ b := fun q => hne (by rw [ea, eb, q])
    obtain ⟨g, g1, g2⟩ := f62_eq h.1.1.1 (show a < 40 by omega) (show b < 40 by omega)
    have hbL := h.1.1.2.2.2.1.2 a b (by omega) (by omega)
    have gE : g = true ↔ 0 < m ∧ E a b := by
      rw [g2]
      obtain ⟨p1, p2⟩ := TL0 hD hM ct.1
      constructor
      · intro q
        have hm0 : 0 < m := by
          refine Decidable.byContradiction fun z => ?_
          rcases q with q | q
          · exact p2 (by omega) _ _ q
          · exact p2 (by omega) _ _ q
        refine ⟨hm0, ?_⟩
        rcases q with ⟨c, q⟩ | ⟨c, q⟩
        · exact q.1
        · exact (hM.1 b a q.1).2.2.2
      · intro q
        exact p1 q.1 a b q.2
    let v : Int32 := if g = true then (if bL (s.2.1 22 a) b = true then 2 else 1) else 0
    have e107 : f107 x y s = some (.inl v) := by
      unfold f107
      rw [(f101_eq hF0 hn4 x y).1 hpr, bx_l, ea, eb, g1]
      simp only [Option.bind_some]
      cases g with
      | false => rfl
      | true =>
        rw [if_pos (show ¬ bI true = 0 by decide), f39_eq (by omega) (by omega)]
        simp only [Option.bind_some]
        show _ = some (Sum.inl (if bL (s.2.1 22 a) b = true then (2 : Int32) else 1))
        cases bL (s.2.1 22 a) b <;> rfl
    have h1 := (h.xou v.toInt64).f14 0
    obtain ⟨t, ⟨K, e1⟩, e2, e3, e4⟩ := h1.xf128
    have e1 := e1 K (Nat.le_refl _)
    have e1 : f128 K (uF 14 0 (ou v.toInt64 s)) = some t := e1
    have ag : agr (Xc s) (Yc s) (Xm t) (Ym t) n := by
      have := (e2.2.1.X.le (show n ≤ 42 by omega))
      have XY : Xc t = Xc s ∧ Yc t = Yc s := ⟨funext fun j => by unfold Xc; rw [e4.1 18 (by decide)]; rfl, funext fun j => by unfold Yc; rw [e4.1 19 (by decide)]; rfl⟩
      rw [XY.1, XY.2] at this
      exact this
    obtain ⟨r1, r2⟩ := rt t ag e3
    have f14 : t.2.2.1 14 = 0 := by rw [e4.2.2 14 (by decide)]; exact uF_at 14 0 _
    refine ⟨K, (t, []), ?_, ⟨n, E, lk, e2⟩, (hw.xou v.toInt64 0).same (e4.mono (by decide) (by decide) (by decide))⟩
    have lkb := e2.2.2.2.1.ne (show a < 40 by omega) (show b < 40 by omega)
    have e142 : f142 K x y (ou v.toInt64 s) = some (v, t) := by
      unfold f142
      rw [(f121_eq (s := ou v.toInt64 s) h15 hn4 x y).1 hpr]
      simp only [Option.bind_some]
      rw [if_neg (by decide), f117_eq]
      simp only [Option.bind_some]
      rw [if_pos (by decide), e1]
      simp only [Option.bind_some]
      rw [r1.1, ea, eb, idx2, rdI_nI (show 40 * a + b < 1600 by omega) (by decide), rdI_nI (show 40 * a + b < 1600 by omega) (by decide), nI_clamp (by omega)]
      by_cases hm0 : 0 < m
      · rw [if_neg (fun q => by have := (nI_eq (by omega) (by decide)).mp (show nI m = nI 0 from q); omega)]
        have tb := (r2 hm0).ne (show a < 40 by omega) (show b < 40 by omega)
        by_cases hE : E a b
        · have eg : g = true := gE.mpr ⟨hm0, hE⟩
          rw [if_pos (tb.mpr hE)]
          by_cases hl : lk a b
          · rw [if_neg (lkb.mpr hl)]
            show some (2, t) = some (v, t)
            have : v = 2 := by show (if g = true then (if bL (s.2.1 22 a) b = true then (2 : Int32) else 1) else 0) = 2; rw [if_pos eg, if_pos (hbL.mpr hl)]
            rw [this]
          · rw [if_pos (Decidable.not_not.mp (fun q => hl (lkb.mp q)))]
            have : v = 1 := by show (if g = true then (if bL (s.2.1 22 a) b = true then (2 : Int32) else 1) else 0) = 1; rw [if_pos eg, if_neg (fun q => hl (hbL.mp q))]
            rw [this]
        · rw [if_neg (fun q => hE (tb.mp q))]
          have : v = 0 := by show (if g = true then (if bL (s.2.1 22 a) b = true then (2 : Int32) else 1) else 0) = 0; rw [if_neg (fun q => hE (gE.mp q).2)]
          rw [this]
      · have em : m = 0 := by omega
        rw [em, if_pos (show nI 0 = 0 from rfl)]
        have : v = 0 := by show (if g = true then (if bL (s.2.1 22 a) b = true then (2 : Int32) else 1) else 0) = 0; rw [if_neg (fun q => hm0 (gE.mp q).1)]
        rw [this]
    unfold g7 o162
    rw [e107]
    show (f142 K x y (ou v.toInt64 s)).bind _ = _
    rw [e142]
    simp only [Option.bind_some]
    unfold f113
    simp only [Option.bind_some]
    have j53 : t.2.1 53 0 = v.toInt64 := by
      rw [e4.2.1 53 (by decide)]
      exact ou_at _ s
    rw [f14, if_pos rfl, if_neg (fun q => q trivial), show Int32.toNatClampNeg 0 = 0 from rfl, j53, if_pos rfl]
  · have e107 : f107 x y s = some (.inr 10) := by
      unfold f107
      rw [(f101_eq hF0 hn4 x y).2 hpr, bx_r]
    have e142 : f142 0 x y s = some (0, uF 14 1 s) := by
      unfold f142
      rw [(f121_eq h15 hn4 x y).2 hpr]
      simp only [Option.bind_some]
      rw [if_pos trivial, f117_eq]
      rfl
    refine ⟨0, (uF 14 1 s, [.inr (10, [])]), ?_, (h.end0 hw).2⟩
    unfold g7 o162
    rw [e107]
    show (f142 0 x y s).bind _ = _
    rw [e142]
    rfl
