/-! M2: a flip in the tables -/
def TH (s : mS) (n : Nat) (E : Nat → Nat → Prop) : Prop := ∀ x y, x < 40 → y < 40 → (∀ z, Tr (Xc s) (Yc s) n E x y z → s.1 24 (40 * x + y) = nI z) ∧ (¬ hasT (Xc s) (Yc s) n E x y → s.1 24 (40 * x + y) = -1)
/-- places, points, edges, thirds -/
def CX (s : mS) (n : Nat) (E : Nat → Nat → Prop) : Prop := P42 s ∧ s.2.2.1 0 = nI n ∧ n ≤ 40 ∧ Dst (Xc s) (Yc s) n ∧ Mx (Xc s) (Yc s) n E ∧ TH s n E
theorem TH.tr {s : mS} {n : Nat} {E : Nat → Nat → Prop} (h : TH s n E) (hn : n ≤ 40) (hM : Mx (Xc s) (Yc s) n E) {x y z : Nat} (hx : x < 40) (hy : y < 40) (hz : z < 2 ^ 31) (e : s.1 24 (40 * x + y) = nI z) : Tr (Xc s) (Yc s) n E x y z := by
  obtain ⟨h1, h2⟩ := h x y hx hy
  by_cases k : hasT (Xc s) (Yc s) n E x y
  · obtain ⟨w, hw⟩ := k
    have e2 := h1 w hw
    have hl := hw.lt hM
    rw [e] at e2
    have : z = w := (nI_eq hz (by omega)).mp e2
    rw [this]; exact hw
  · have e2 := h2 k
    rw [e] at e2
    exact absurd e2 (nI_m1 hz)
theorem TH.no {s : mS} {n : Nat} {E : Nat → Nat → Prop} (h : TH s n E) (hn : n ≤ 40) (hM : Mx (Xc s) (Yc s) n E) {x y : Nat} (hx : x < 40) (hy : y < 40) : s.1 24 (40 * x + y) = -1 ↔ ¬ hasT (Xc s) (Yc s) n E x y := by
  obtain ⟨h1, h2⟩ := h x y hx hy
  refine ⟨fun e ⟨w, hw⟩ => ?_, h2⟩
  have hl := hw.lt hM
  have e2 := h1 w hw
  rw [e] at e2
  exact nI_m1 (show w < 2 ^ 31 by omega) e2.symm
theorem CX.same {s t : mS} {n : Nat} {E : Nat → Nat → Prop} (h : CX s n E) (hz : mz s t) (h24 : t.1 24 = s.1 24) : CX t n E := by
  obtain ⟨h1, h2, h3, h4, h5, h6⟩ := h
  refine ⟨hz.P h1, by rw [hz.n]; exact h2, h3, by rw [hz.X, hz.Y]; exact h4, by rw [hz.X, hz.Y]; exact h5, ?_⟩
  unfold TH
  rw [hz.X, hz.Y, h24]
  exact h6
theorem mz_24 (T : Nat → Int32) (s : mS) : mz s (uA 24 T s) := sm_A (by decide) T s
theorem bend_24 {s : mS} {n : Nat} {E : Nat → Nat → Prop} {a b c d : Nat} (h : CX s n E) (hF : FL (Xc s) (Yc s) n E a b c d) {T : Nat → Int32}
    (hT : ∀ x y, x < 40 → y < 40 → T (40 * x + y) = if x = c ∧ y = d then nI b else if x = b ∧ y = c then nI d else if x = d ∧ y = b then nI c else if x = c ∧ y = a then nI d else if x = d ∧ y = c then nI a else if x = a ∧ y = d then nI c else if x = d ∧ y = b then -1 else if x = a ∧ y = d then -1 else if x = b ∧ y = a then -1 else if x = c ∧ y = a then -1 else if x = b ∧ y = c then -1 else if x = a ∧ y = b then -1 else s.1 24 (40 * x + y)) :
    CX (uA 24 T s) n (fl E a b c d) := by
  obtain ⟨h1, h2, h3, h4, h5, h6⟩ := h
  have hM2 := fl_Mx h4 h5 hF
  have ne := hF.ne
  refine ⟨h1, h2, h3, h4, hM2, ?_⟩
  intro x y hx hy
  show (∀ z, Tr (Xc s) (Yc s) n (fl E a b c d) x y z → (uA 24 T s).1 24 (40 * x + y) = nI z) ∧ (¬ hasT (Xc s) (Yc s) n (fl E a b c d) x y → (uA 24 T s).1 24 (40 * x + y) = -1)
  rw [uA_at, hT x y hx hy]
  have yes : ∀ {u v w : Nat}, Tr (Xc s) (Yc s) n (fl E a b c d) u v w → x = u → y = v → (∀ z, Tr (Xc s) (Yc s) n (fl E a b c d) x y z → nI w = nI z) ∧ (¬ hasT (Xc s) (Yc s) n (fl E a b c d) x y → nI w = -1) := by
    intro u v w k e1 e2
    rw [e1, e2]
    exact ⟨fun z hz => by rw [Tr.uniq hM2 k hz], fun hn => absurd ⟨w, k⟩ hn⟩
  have T1 := fl_T1 hF
  have T2 := fl_T2 hF
  by_cases c1 : x = c ∧ y = d
  · rw [if_pos c1]; exact yes T2.rot.rot c1.1 c1.2
  rw [if_neg c1]
  by_cases c2 : x = b ∧ y = c
  · rw [if_pos c2]; exact yes T2.rot c2.1 c2.2
  rw [if_neg c2]
  by_cases c3 : x = d ∧ y = b
  · rw [if_pos c3]; exact yes T2 c3.1 c3.2
  rw [if_neg c3]
  by_cases c4 : x = c ∧ y = a
  · rw [if_pos c4]; exact yes T1.rot.rot c4.1 c4.2
  rw [if_neg c4]
  by_cases c5 : x = d ∧ y = c
  · rw [if_pos c5]; exact yes T1.rot c5.1 c5.2
  rw [if_neg c5]
  by_cases c6 : x = a ∧ y = d
  · rw [if_pos c6]; exact yes T1 c6.1 c6.2
  rw [if_neg c6, if_neg c3, if_neg c6]
  have no := fl_no (z := 0) hF
  by_cases c7 : x = b ∧ y = a
  · rw [if_pos c7]
    refine ⟨fun z hz => ?_, fun _ => rfl⟩
    rw [c7.1, c7.2] at hz
    exact absurd hz (fl_no hF).2
  rw [if_neg c7, if_neg c4, if_neg c2]
  by_cases c8 : x = a ∧ y = b
  · rw [if_pos c8]
    refine ⟨fun z hz => ?_, fun _ => rfl⟩
    rw [c8.1, c8.2] at hz
    exact absurd hz (fl_no hF).1
  rw [if_neg c8]
  have st : ∀ z, Tr (Xc s) (Yc s) n (fl E a b c d) x y z ↔ Tr (Xc s) (Yc s) n E x y z := fun z => fl_stay h4 h5 hF c8 c7 c6 c5 c4 c3 c2 c1
  obtain ⟨g1, g2⟩ := h6 x y hx hy
  exact ⟨fun z hz => g1 z ((st z).mp hz), fun hn => g2 fun ⟨z, hz⟩ => hn ⟨z, (st z).mpr hz⟩⟩
theorem f59_ev {s : mS} {n : Nat} {E : Nat → Nat → Prop} {a b c d : Nat} {l : List Nat} (h : CX s n E) (hS : SU s l) (hF : FL (Xc s) (Yc s) n E a b c d) :
    ∃ t l', f59 (nI a) (nI b) s = some t ∧ CX t n (fl E a b c d) ∧ SU t l' ∧ sm [24, 27] [28] [3] [] s t ∧ (∀ x, x ∈ l' ↔ x ∈ l ∨ x = cd a d ∨ x = cd d b ∨ x = cd b c ∨ x = cd c a) ∧ l'.length ≤ l.length + 4 := by
  have h' := h
  obtain ⟨h1, h2, h3, h4, h5, h6⟩ := h
  obtain ⟨la, lb, lc⟩ := hF.1.lt h5
  have ld := (hF.2.1.lt h5).2.2
  obtain ⟨nab, nac, nad, nbc, nbd, ncd⟩ := hF.ne
  have ha : a < 40 := by omega
  have hb : b < 40 := by omega
  have hc : c < 40 := by omega
  have hd : d < 40 := by omega
  have q1 : f54 (nI a) (nI b) s = some (nI c) := by rw [f54_eq ha hb, (h6 a b ha hb).1 c hF.1]
  have q2 : f54 (nI b) (nI a) s = some (nI d) := by rw [f54_eq hb ha, (h6 b a hb ha).1 d hF.2.1]
  let T1 := th3 (s.1 24) a b c (-1) (-1) (-1)
  let T2 := th3 T1 b a d (-1) (-1) (-1)
  let T3 := th3 T2 a d c (nI c) (nI a) (nI d)
  let T4 := th3 T3 d b c (nI c) (nI d) (nI b)
  have e24 : ∀ (T U : Nat → Int32), uA 24 U (uA 24 T s) = uA 24 U s := by
    intro T U
    unfold uA
    ext <;> simp
    split <;> rfl
  have q3 : f56 (nI a) (nI b) (nI c) s = some (uA 24 T1 s) := f56_eq ha hb hc s
  have q4 : f56 (nI b) (nI a) (nI d) (uA 24 T1 s) = some (uA 24 T2 s) := by rw [f56_eq hb ha hd, uA_at, e24]
  have q5 : f49 (nI a) (nI d) (nI c) (uA 24 T2 s) = some (uA 24 T3 s) := by rw [f49_eq ha hd hc, uA_at, e24]
  have q6 : f49 (nI d) (nI b) (nI c) (uA 24 T3 s) = some (uA 24 T4 s) := by rw [f49_eq hd hb hc, uA_at, e24]
  have hT : ∀ x y, x < 40 → y < 40 → T4 (40 * x + y) = if x = c ∧ y = d then nI b else if x = b ∧ y = c then nI d else if x = d ∧ y = b then nI c else if x = c ∧ y = a then nI d else if x = d ∧ y = c then nI a else if x = a ∧ y = d then nI c else if x = d ∧ y = b then -1 else if x = a ∧ y = d then -1 else if x = b ∧ y = a then -1 else if x = c ∧ y = a then -1 else if x = b ∧ y = c then -1 else if x = a ∧ y = b then -1 else s.1 24 (40 * x + y) := by
    intro x y hx hy
    show th3 T3 d b c (nI c) (nI d) (nI b) (40 * x + y) = _
    rw [th3_at hd hb hc hx hy]
    show (if _ then _ else if _ then _ else if _ then _ else th3 T2 a d c (nI c) (nI a) (nI d) (40 * x + y)) = _
    rw [th3_at ha hd hc hx hy]
    show (if _ then _ else if _ then _ else if _ then _ else if _ then _ else if _ then _ else if _ then _ else th3 T1 b a d (-1) (-1) (-1) (40 * x + y)) = _
    rw [th3_at hb ha hd hx hy]
    show (if _ then _ else if _ then _ else if _ then _ else if _ then _ else if _ then _ else if _ then _ else if _ then _ else if _ then _ else if _ then _ else th3 (s.1 24) a b c (-1) (-1) (-1) (40 * x + y)) = _
    rw [th3_at ha hb hc hx hy]
  have hC := bend_24 h' hF hT
  have hS0 : SU (uA 24 T4 s) l := hS.same rfl rfl rfl
  obtain ⟨t1, l1, r1, S1, z1, m1, n1⟩ := f55_ev hS0 ha hd nad
  obtain ⟨t2, l2, r2, S2, z2, m2, n2⟩ := f55_ev S1 hd hb (Ne.symm nbd)
  obtain ⟨t3, l3, r3, S3, z3, m3, n3⟩ := f55_ev S2 hb hc nbc
  obtain ⟨t4, l4, r4, S4, z4, m4, n4⟩ := f55_ev S3 hc ha (Ne.symm nac)
  have zz : ms (uA 24 T4 s) t4 := ((z1.trans z2).trans z3).trans z4
  refine ⟨t4, l4, ?_, hC.same zz.z (zz.1 24 (by decide)), S4, ?_, ?_, by omega⟩
  · unfold f59
    simp only [q1, q2, q3, q4, q5, q6, r1, r2, r3, r4, Option.bind_some]
  · exact (sm_A (by decide) T4 s).trans (zz.mono (by decide) (by decide) (by decide) (by decide))
  · intro x
    rw [m4, m3, m2, m1]
    constructor
    · rintro ((((h | h) | h) | h) | h)
      · exact Or.inl h
      · exact Or.inr (Or.inl h)
      · exact Or.inr (Or.inr (Or.inl h))
      · exact Or.inr (Or.inr (Or.inr (Or.inl h)))
      · exact Or.inr (Or.inr (Or.inr (Or.inr h)))
    · rintro (h | h | h | h | h)
      · exact Or.inl (Or.inl (Or.inl (Or.inl h)))
      · exact Or.inl (Or.inl (Or.inl (Or.inr h)))
      · exact Or.inl (Or.inl (Or.inr h))
      · exact Or.inl (Or.inr h)
      · exact Or.inr h
def gm (s t : mS) : Prop := sm [] [] [] [0, 1, 2] s t
theorem gm.z {s t : mS} (h : gm s t) : mz s t := h.mono (by decide) (by decide) (by decide) (by decide)
theorem f58_ev {s : mS} {n : Nat} {E : Nat → Nat → Prop} (h : CX s n E) {a b : Nat} (ha : a < 40) (hb : b < 40) : ∃ g t, f58 (nI a) (nI b) s = some (bI g, t) ∧ gm s t ∧ (g = true → ∀ c d, Tr (Xc s) (Yc s) n E a b c → Tr (Xc s) (Yc s) n E b a d → gd (Xc s) (Yc s) a b c d) ∧ (g = false → ∃ c d, Tr (Xc s) (Yc s) n E a b c ∧ Tr (Xc s) (Yc s) n E b a d ∧ ¬ gd (Xc s) (Yc s) a b c d) := by
  obtain ⟨h1, h2, h3, h4, h5, h6⟩ := h
  unfold f58
  rw [f54_eq ha hb, f54_eq hb ha]
  simp only [Option.bind_some]
  by_cases k1 : hasT (Xc s) (Yc s) n E a b
  · obtain ⟨c, hc⟩ := k1
    have lc := hc.lt h5
    rw [(h6 a b ha hb).1 c hc, if_neg (nI_m1 (by omega))]
    by_cases k2 : hasT (Xc s) (Yc s) n E b a
    · obtain ⟨d, hd⟩ := k2
      have ld := hd.lt h5
      rw [(h6 b a hb ha).1 d hd, if_pos (nI_m1 (by omega))]
      obtain ⟨t, e, w⟩ := f75_eq h1 (show a < 42 by omega) (show b < 42 by omega) (show c < 42 by omega) (show d < 42 by omega)
      have zt : gm s t := ⟨fun j _ => by rw [w.1], fun j _ => by rw [w.2.1], fun j _ => by rw [w.2.2.1], fun j hj => w.2.2.2 j (by
        have h0 : j ≠ 0 := fun e => hj (by rw [e]; decide)
        have h1 : j ≠ 1 := fun e => hj (by rw [e]; decide)
        have h2 : j ≠ 2 := fun e => hj (by rw [e]; decide)
        omega)⟩
      simp only [e, Option.bind_some, f169_nI (show a < 2 ^ 31 by omega) (show b < 2 ^ 31 by omega), f169_nI (show c < 2 ^ 31 by omega) (show d < 2 ^ 31 by omega), sgn_lt, sgn_zero, nI_leI (show min c d < 2 ^ 31 by omega) (show min a b < 2 ^ 31 by omega)]
      have two : ∀ (g : Bool), (g = true ↔ gd (Xc s) (Yc s) a b c d) → (g = true → ∀ c d, Tr (Xc s) (Yc s) n E a b c → Tr (Xc s) (Yc s) n E b a d → gd (Xc s) (Yc s) a b c d) ∧ (g = false → ∃ c d, Tr (Xc s) (Yc s) n E a b c ∧ Tr (Xc s) (Yc s) n E b a d ∧ ¬ gd (Xc s) (Yc s) a b c d) := by
        intro g hg
        constructor
        · intro e1 c' d' hc' hd'
          rw [Tr.uniq h5 hc' hc, Tr.uniq h5 hd' hd]
          exact hg.mp e1
        · intro e1
          exact ⟨c, d, hc, hd, fun q => by rw [hg.mpr q] at e1; cases e1⟩
      unfold gd at *
      by_cases i1 : inc (Xc s) (Yc s) a b c d < 0
      · rw [if_pos i1]
        refine ⟨true, t, rfl, zt, two true ⟨fun _ => Or.inl i1, fun _ => rfl⟩⟩
      · rw [if_neg i1]
        by_cases i2 : inc (Xc s) (Yc s) a b c d = 0
        · rw [if_neg (fun q => q i2)]
          by_cases i3 : min c d ≤ min a b
          · rw [if_pos i3]
            refine ⟨false, t, rfl, zt, two false ⟨fun q => (by cases q), fun q => ?_⟩⟩
            rcases q with q | q <;> omega
          · rw [if_neg i3]
            refine ⟨true, t, rfl, zt, two true ⟨fun _ => Or.inr ⟨i2, by omega⟩, fun _ => rfl⟩⟩
        · rw [if_pos i2]
          refine ⟨false, t, rfl, zt, two false ⟨fun q => (by cases q), fun q => ?_⟩⟩
          rcases q with q | q <;> omega
    · rw [(h6 b a hb ha).2 k2, if_neg (fun q => q rfl)]
      exact ⟨true, s, rfl, sm.refl s, fun _ c d _ hd => absurd ⟨d, hd⟩ k2, fun q => by cases q⟩
  · rw [(h6 a b ha hb).2 k1, if_pos rfl]
    exact ⟨true, s, rfl, sm.refl s, fun _ c d hc _ => absurd ⟨c, hc⟩ k1, fun q => by cases q⟩
