/-! M2: a link is forced in -/
theorem f32_ev {s : mS} {a b : Nat} {Q : List (Nat × Nat)} (hP : P42 s) (ha : a < 42) (hb : b < 42) (hS : lst9 s Q) (h75 : Q.length ≤ 75) (hl : ∀ z, z ∈ Q → z.1 < 42 ∧ 0 < ar (Xc s) (Yc s) a b z.1) (hne : 0 < Q.length) :
    ∃ (i : Nat) (z : Nat × Nat), ev (fun k => f32 k (nI a) (nI b) s) (nI z.1) ∧ Q[i]? = some z ∧ (∀ (j : Nat) (w : Nat × Nat), Q[j]? = some w → ar (Xc s) (Yc s) a b w.1 ≤ ar (Xc s) (Yc s) a b z.1) ∧ (∀ (j : Nat) (w : Nat × Nat), j < i → Q[j]? = some w → ar (Xc s) (Yc s) a b w.1 < ar (Xc s) (Yc s) a b z.1) := by
  have main : ∀ d v, v + d = Q.length → ∀ (P : Int32) (H : Int64), ((v = 0 ∧ P = -1 ∧ H = 0) ∨ ∃ (i : Nat) (z : Nat × Nat), i < v ∧ Q[i]? = some z ∧ P = nI z.1 ∧ H.toInt = ar (Xc s) (Yc s) a b z.1 ∧ (∀ (j : Nat) (w : Nat × Nat), j < v → Q[j]? = some w → ar (Xc s) (Yc s) a b w.1 ≤ ar (Xc s) (Yc s) a b z.1) ∧ (∀ (j : Nat) (w : Nat × Nat), j < i → Q[j]? = some w → ar (Xc s) (Yc s) a b w.1 < ar (Xc s) (Yc s) a b z.1)) →
      ∃ (i : Nat) (z : Nat × Nat), ev (fun k => r32 k (nI a) (nI b) P H (nI v) s) (nI z.1) ∧ Q[i]? = some z ∧ (∀ (j : Nat) (w : Nat × Nat), Q[j]? = some w → ar (Xc s) (Yc s) a b w.1 ≤ ar (Xc s) (Yc s) a b z.1) ∧ (∀ (j : Nat) (w : Nat × Nat), j < i → Q[j]? = some w → ar (Xc s) (Yc s) a b w.1 < ar (Xc s) (Yc s) a b z.1) := by
    intro d
    induction d with
    | zero =>
      intro v hv P H h
      rcases h with ⟨h, _⟩ | ⟨i, z, h1, h2, h3, h4, h5, h6⟩
      · omega
      · refine ⟨i, z, ev_c fun k => ?_, h2, fun j w hj => h5 j w (by have := (List.getElem?_eq_some_iff.mp hj).1; omega) hj, h6⟩
        simp only [r32]
        rw [hS.1, if_pos ((nI_leI (by omega) (by omega)).mpr (by omega)), h3]
    | succ d ih =>
      intro v hv P H h
      have hlt : v < Q.length := by omega
      have e : Q[v]? = some Q[v] := List.getElem?_eq_getElem hlt
      have em := hl Q[v] (List.getElem_mem hlt)
      have es := (hS.2 v _ e).1
      obtain ⟨y, y1, y2⟩ := f71_eq hP ha hb em.1
      have base : ∀ k, r32 (k + 1) (nI a) (nI b) P H (nI v) s = if y ≤ H then r32 k (nI a) (nI b) P H (nI (v + 1)) s else r32 k (nI a) (nI b) (nI Q[v].1) y (nI (v + 1)) s := by
        intro k
        simp only [r32]
        rw [hS.1, if_neg (fun q => by have := (nI_leI (by omega) (by omega)).mp q; omega), rdI_nI (show v < 75 by omega) (by decide), nI_clamp (by omega), es, y1, nI_inc]
        simp only [Option.bind_some]
        rw [rdI_nI (show v < 75 by omega) (by decide)]
      have take : ¬ y ≤ H → (∀ (j : Nat) (w : Nat × Nat), j < v → Q[j]? = some w → ar (Xc s) (Yc s) a b w.1 < ar (Xc s) (Yc s) a b Q[v].1) → ∃ (i : Nat) (z : Nat × Nat), ev (fun k => r32 k (nI a) (nI b) P H (nI v) s) (nI z.1) ∧ Q[i]? = some z ∧ (∀ (j : Nat) (w : Nat × Nat), Q[j]? = some w → ar (Xc s) (Yc s) a b w.1 ≤ ar (Xc s) (Yc s) a b z.1) ∧ (∀ (j : Nat) (w : Nat × Nat), j < i → Q[j]? = some w → ar (Xc s) (Yc s) a b w.1 < ar (Xc s) (Yc s) a b z.1) := by
        intro hy hlow
        obtain ⟨i, z, q1, q2⟩ := ih (v + 1) (by omega) (nI Q[v].1) y (Or.inr ⟨v, Q[v], by omega, e, rfl, y2.1, fun j w hj hw => by
          by_cases ej : j = v
          · rw [ej, e] at hw
            have : Q[v] = w := by simpa using hw
            rw [this]; omega
          · have := hlow j w (by omega) hw; omega, hlow⟩)
        exact ⟨i, z, ev1 q1 fun k hk => by show r32 (k + 1) _ _ _ _ _ _ = _; rw [base, if_neg hy]; exact hk, q2⟩
      rcases h with ⟨h1, h2, h3⟩ | ⟨i, z, h1, h2, h3, h4, h5, h6⟩
      · refine take (fun q => ?_) (fun j w hj => by omega)
        rw [h3, Int64.le_iff_toInt_le, y2.1] at q
        have : (0 : Int64).toInt = 0 := by decide
        omega
      · by_cases hy : y ≤ H
        · have hy' := hy
          rw [Int64.le_iff_toInt_le, y2.1, h4] at hy'
          obtain ⟨i', z', q1, q2⟩ := ih (v + 1) (by omega) P H (Or.inr ⟨i, z, by omega, h2, h3, h4, fun j w hj hw => by
            by_cases ej : j = v
            · rw [ej, e] at hw
              have : Q[v] = w := by simpa using hw
              rw [← this]; exact hy'
            · exact h5 j w (by omega) hw, h6⟩)
          exact ⟨i', z', ev1 q1 fun k hk => by show r32 (k + 1) _ _ _ _ _ _ = _; rw [base, if_pos hy]; exact hk, q2⟩
        · refine take hy (fun j w hj hw => ?_)
          have := h5 j w hj hw
          have hy' : ¬ y.toInt ≤ H.toInt := fun q => hy (Int64.le_iff_toInt_le.mpr q)
          rw [y2.1, h4] at hy'
          omega
  exact main Q.length 0 (by omega) (-1) 0 (Or.inl ⟨rfl, rfl, rfl⟩)
theorem f33_ev {s : mS} {n : Nat} {E : Nat → Nat → Prop} (hC : CX s n E) {v r : Nat} (hv : v < 40) (hr : r < 40) : ∃ g, f33 (nI v) (nI r) s = some (bI g) ∧ (g = true ↔ ∃ y x, FL (Xc s) (Yc s) n E v r y x) := by
  obtain ⟨h1, h2, h3, h4, h5, h6⟩ := hC
  unfold f33
  rw [f54_eq hr hv, f54_eq hv hr]
  simp only [Option.bind_some]
  by_cases k1 : hasT (Xc s) (Yc s) n E r v
  · obtain ⟨x, hx⟩ := k1
    have lx := hx.lt h5
    rw [(h6 r v hr hv).1 x hx, if_neg (nI_m1 (by omega))]
    by_cases k2 : hasT (Xc s) (Yc s) n E v r
    · obtain ⟨y, hy⟩ := k2
      have ly := hy.lt h5
      rw [(h6 v r hv hr).1 y hy, if_neg (nI_m1 (by omega)), f73_eq h1 (by omega) (by omega) (by omega), f73_eq h1 (by omega) (by omega) (by omega)]
      simp only [Option.bind_some, sgn_le]
      by_cases c1 : ar (Xc s) (Yc s) x r y ≤ 0
      · refine ⟨false, by rw [if_pos c1]; rfl, (fun h => by cases h), fun ⟨y', x', hF⟩ => ?_⟩
        have e1 := Tr.uniq h5 hF.1 hy
        have e2 := Tr.uniq h5 hF.2.1 hx
        have := hF.2.2.1
        rw [e1, e2] at this
        omega
      · by_cases c2 : ar (Xc s) (Yc s) y v x ≤ 0
        · refine ⟨false, by rw [if_neg c1, if_pos c2]; rfl, (fun h => by cases h), fun ⟨y', x', hF⟩ => ?_⟩
          have e1 := Tr.uniq h5 hF.1 hy
          have e2 := Tr.uniq h5 hF.2.1 hx
          have := hF.2.2.2
          rw [e1, e2, ← ar_c (Xc s) (Yc s) y v x] at this
          omega
        · refine ⟨true, by rw [if_neg c1, if_neg c2]; rfl, fun _ => ⟨y, x, hy, hx, by omega, by rw [← ar_c (Xc s) (Yc s) y v x]; omega⟩, fun _ => rfl⟩
    · rw [(h6 v r hv hr).2 k2, if_pos rfl]
      exact ⟨false, rfl, (fun h => by cases h), fun ⟨y, x, hF⟩ => absurd ⟨y, hF.1⟩ k2⟩
  · rw [(h6 r v hr hv).2 k1, if_pos rfl]
    exact ⟨false, rfl, (fun h => by cases h), fun ⟨y, x, hF⟩ => absurd ⟨x, hF.2.1⟩ k1⟩
theorem r31_ev {s : mS} {n a b v : Nat} {E : Nat → Nat → Prop} {Q : List (Nat × Nat)} {l : List Nat} (hC : CX s n E) (hSU : SU s l) (hS : lst9 s Q) (h75 : Q.length ≤ 75) (hQ : ∀ z, z ∈ Q → z.1 < n ∧ z.2 < n) (hv : v < n) :
    ∀ d i, i + d = Q.length → (∃ j r y x, i ≤ j ∧ Q[j]? = some (v, r) ∧ FL (Xc s) (Yc s) n E v r y x) → ∃ t r y x l', ev (fun k => r31 k (nI a) (nI b) (nI v) (nI i) s) t ∧ (v, r) ∈ Q ∧ FL (Xc s) (Yc s) n E v r y x ∧ CX t n (fl E v r y x) ∧ SU t l' ∧ sm [24, 27] [28] [3] [] s t ∧ (∀ c, c ∈ l' ↔ c ∈ l ∨ c = cd v x ∨ c = cd x r ∨ c = cd r y ∨ c = cd y v ∨ c = cd x y) := by
  have hC' := hC
  obtain ⟨h1, h2, h3, h4, h5, h6⟩ := hC
  intro d
  induction d with
  | zero =>
    intro i hi ⟨j, r, y, x, hj, e, _⟩
    have := (List.getElem?_eq_some_iff.mp e).1
    omega
  | succ d ih =>
    intro i hi ⟨j, r, y, x, hj, e, hF⟩
    have hlt : i < Q.length := by omega
    have ei : Q[i]? = some Q[i] := List.getElem?_eq_getElem hlt
    have hq := hQ Q[i] (List.getElem_mem hlt)
    obtain ⟨e30, e31⟩ := hS.2 i _ ei
    have skip : (¬ ∃ r y x, Q[i] = (v, r) ∧ FL (Xc s) (Yc s) n E v r y x) → (∀ k, r31 (k + 1) (nI a) (nI b) (nI v) (nI i) s = r31 k (nI a) (nI b) (nI v) (nI (i + 1)) s) → ∃ t r y x l', ev (fun k => r31 k (nI a) (nI b) (nI v) (nI i) s) t ∧ (v, r) ∈ Q ∧ FL (Xc s) (Yc s) n E v r y x ∧ CX t n (fl E v r y x) ∧ SU t l' ∧ sm [24, 27] [28] [3] [] s t ∧ (∀ c, c ∈ l' ↔ c ∈ l ∨ c = cd v x ∨ c = cd x r ∨ c = cd r y ∨ c = cd y v ∨ c = cd x y) := by
      intro hno hs
      have nji : j ≠ i := fun q => by
        rw [q, ei] at e
        exact hno ⟨r, y, x, by simpa using e, hF⟩
      obtain ⟨t, r', y', x', l', q1, q2⟩ := ih (i + 1) (by omega) ⟨j, r, y, x, by omega, e, hF⟩
      exact ⟨t, r', y', x', l', ev1 q1 fun k hk => by show r31 (k + 1) _ _ _ _ _ = _; rw [hs]; exact hk, q2⟩
    have base : ∀ k, r31 (k + 1) (nI a) (nI b) (nI v) (nI i) s = (if ¬ nI Q[i].1 = nI v then r31 k (nI a) (nI b) (nI v) (nI (i + 1)) s else (f33 (nI v) (nI Q[i].2) s).bind fun q5 => if q5 = 0 then r31 k (nI a) (nI b) (nI v) (nI (i + 1)) s else (f54 (nI Q[i].2) (nI v) s).bind fun q9 => (f54 (nI v) (nI Q[i].2) s).bind fun q12 => (f59 (nI v) (nI Q[i].2) s).bind fun q15 => (f55 q9 q12 q15).bind fun q17 => some q17) := by
      intro k
      simp only [r31]
      rw [hS.1, if_neg (fun q => by have := (nI_leI (by omega) (by omega)).mp q; omega)]
      simp only [rdI_nI (show i < 75 by omega) (show 75 < 2 ^ 31 by decide), nI_clamp (show i < 2 ^ 31 by omega), e30, e31, nI_inc]
    by_cases ev1' : Q[i].1 = v
    · obtain ⟨g, g1, g2⟩ := f33_ev hC' (show v < 40 by omega) (show Q[i].2 < 40 by omega)
      cases g with
      | false =>
        refine skip (fun ⟨r', y', x', q1, q2⟩ => ?_) fun k => ?_
        · have : Q[i].2 = r' := by rw [q1]
          rw [this] at g2
          have := g2.mpr ⟨y', x', q2⟩
          cases this
        · rw [base, if_neg (fun q => q (by rw [ev1'])), g1]
          rfl
      | true =>
        obtain ⟨y', x', hF'⟩ := g2.mp rfl
        obtain ⟨t, l1, e59, C59, S59, z59, m59, _⟩ := f59_ev hC' hSU hF'
        have lx := hF'.2.1.lt h5
        have ly := hF'.1.lt h5
        have ne := hF'.ne
        obtain ⟨t2, l2, e55, S55, z55, m55, _⟩ := f55_ev S59 (show x' < 40 by omega) (show y' < 40 by omega) (Ne.symm ne.2.2.2.2.2)
        refine ⟨t2, Q[i].2, y', x', l2, ev_c fun k => ?_, ?_, hF', C59.same z55.z (z55.1 24 (by decide)), S55, z59.trans (z55.mono (by decide) (by decide) (by decide) (by decide)), fun c => ?_⟩
        · show r31 (k + 1) _ _ _ _ _ = _
          rw [base, if_neg (fun q => q (by rw [ev1'])), g1]
          simp only [Option.bind_some]
          rw [if_neg (by decide), f54_eq (by omega) (by omega), f54_eq (by omega) (by omega), (h6 _ _ (by omega) (by omega)).1 x' hF'.2.1, (h6 _ _ (by omega) (by omega)).1 y' hF'.1, e59]
          simp only [Option.bind_some]
          rw [e55]
          rfl
        · have : Q[i] = (v, Q[i].2) := Prod.ext ev1' rfl
          rw [← this]; exact List.getElem_mem hlt
        · rw [m55, m59]
          constructor
          · rintro ((h | h | h | h | h) | h)
            · exact Or.inl h
            · exact Or.inr (Or.inl h)
            · exact Or.inr (Or.inr (Or.inl h))
            · exact Or.inr (Or.inr (Or.inr (Or.inl h)))
            · exact Or.inr (Or.inr (Or.inr (Or.inr (Or.inl h))))
            · exact Or.inr (Or.inr (Or.inr (Or.inr (Or.inr h))))
          · rintro (h | h | h | h | h | h)
            · exact Or.inl (Or.inl h)
            · exact Or.inl (Or.inr (Or.inl h))
            · exact Or.inl (Or.inr (Or.inr (Or.inl h)))
            · exact Or.inl (Or.inr (Or.inr (Or.inr (Or.inl h))))
            · exact Or.inl (Or.inr (Or.inr (Or.inr (Or.inr h))))
            · exact Or.inr h
    · refine skip (fun ⟨r', y', x', q1, q2⟩ => ev1' (by rw [q1])) fun k => ?_
      have q : ¬ nI Q[i].1 = nI v := fun q => ev1' ((nI_eq (by omega) (by omega)).mp q)
      rw [base, if_pos q]
theorem f62_eq {s : mS} {n a b : Nat} {E : Nat → Nat → Prop} (hC : CX s n E) (ha : a < 40) (hb : b < 40) : ∃ g, f62 (nI a) (nI b) s = some (bI g) ∧ (g = true ↔ hasT (Xc s) (Yc s) n E a b ∨ hasT (Xc s) (Yc s) n E b a) := by
  obtain ⟨h1, h2, h3, h4, h5, h6⟩ := hC
  unfold f62
  rw [f54_eq ha hb, f54_eq hb ha]
  simp only [Option.bind_some]
  by_cases k1 : hasT (Xc s) (Yc s) n E a b
  · obtain ⟨c, hc⟩ := k1
    have l := hc.lt h5
    rw [(h6 a b ha hb).1 c hc, if_pos (nI_m1 (by omega))]
    exact ⟨true, rfl, fun _ => Or.inl ⟨c, hc⟩, fun _ => rfl⟩
  · rw [(h6 a b ha hb).2 k1, if_neg (fun q => q rfl)]
    by_cases k2 : hasT (Xc s) (Yc s) n E b a
    · obtain ⟨c, hc⟩ := k2
      have l := hc.lt h5
      rw [(h6 b a hb ha).1 c hc, if_neg (nI_m1 (by omega))]
      exact ⟨true, rfl, fun _ => Or.inr ⟨c, hc⟩, fun _ => rfl⟩
    · rw [(h6 b a hb ha).2 k2, if_pos rfl]
      exact ⟨false, rfl, (fun h => by cases h), fun h => by rcases h with h | h; exact absurd h k1; exact absurd h k2⟩
theorem bnd_stay {X Y : Nat → Int} {n p q r t x y : Nat} {E : Nat → Nat → Prop} (hD : Dst X Y n) (hM : Mx X Y n E) (hF : FL X Y n E p q r t) (h : bnd X Y n E x y) (h0 : ¬ ((x = r ∧ y = t) ∨ (x = t ∧ y = r))) (h1 : ¬ ((x = p ∧ y = t) ∨ (x = t ∧ y = p))) (h2 : ¬ ((x = t ∧ y = q) ∨ (x = q ∧ y = t))) (h3 : ¬ ((x = q ∧ y = r) ∨ (x = r ∧ y = q))) (h4 : ¬ ((x = r ∧ y = p) ∨ (x = p ∧ y = r))) : bnd X Y n (fl E p q r t) x y := by
  intro z w k1 k2
  by_cases e1 : x = p ∧ y = q
  · rw [e1.1, e1.2] at k1; exact absurd k1 (fl_no hF).1
  by_cases e2 : x = q ∧ y = p
  · rw [e2.1, e2.2] at k1; exact absurd k1 (fl_no hF).2
  exact h z w ((fl_stay hD hM hF e1 e2 (fun e => h1 (Or.inl e)) (fun e => h0 (Or.inr e)) (fun e => h4 (Or.inl e)) (fun e => h2 (Or.inl e)) (fun e => h3 (Or.inl e)) (fun e => h0 (Or.inl e))).mp k1)
    ((fl_stay hD hM hF (fun e => e2 ⟨e.2, e.1⟩) (fun e => e1 ⟨e.2, e.1⟩) (fun e => h1 (Or.inr ⟨e.2, e.1⟩)) (fun e => h0 (Or.inl ⟨e.2, e.1⟩)) (fun e => h4 (Or.inr ⟨e.2, e.1⟩)) (fun e => h2 (Or.inr ⟨e.2, e.1⟩)) (fun e => h3 (Or.inr ⟨e.2, e.1⟩)) (fun e => h0 (Or.inr ⟨e.2, e.1⟩))).mp k2)
/-- enough of a mesh to have a list of its triangles -/
theorem NL_ex {s : mS} {n : Nat} {E : Nat → Nat → Prop} (hC : CX s n E) : ∃ L, NL (Xc s) (Yc s) n E 1600 L := by
  obtain ⟨t, _, g2, L, hL, _⟩ := f60_ev hC
  rw [g2.z.X, g2.z.Y] at hL
  exact ⟨L, hL⟩
theorem r28_ev {n a b : Nat} {lk : Nat → Nat → Prop} (ha : a < n) (hb : b < n) (nab : a ≠ b) (hab : lk a b) : ∀ m v s E l, CX s n E → SU s l → LKc s lk → BS (Xc s) (Yc s) n E lk l → nfl (Xc s) (Yc s) n → clr (Xc s) (Yc s) n a b → Ms (Xc s) (Yc s) n E a b m → (∀ x y, lk x y → ¬ crs (Xc s) (Yc s) a b x y) → (∀ x y, lk x y → E x y ∨ (x = a ∧ y = b) ∨ (x = b ∧ y = a)) → v + m ≤ 900000 →
    ∃ t E', ev (fun k => r28 k (nI a) (nI b) (nI v) s) t ∧ MH t n E' lk ∧ mz s t := by
  intro m
  induction m with
  | zero =>
    intro v s E l hC hS hlk hB hnf hcl hMs hx hl hv
    have hC' := hC
    obtain ⟨h1, h2, h3, h4, h5, h6⟩ := hC
    have hE : E a b := by
      refine h5.2.2.2 a b ha hb nab hcl fun c d hcd hcr => ?_
      rcases hMs with hno | ⟨w, ⟨q, hq1, hq2⟩, _, hle⟩
      · rcases cx_of hcr with k | k
        · exact hno d c (h5.1 c d hcd).2.2.2 k
        · exact hno c d hcd k
      · have : dgr (Xc s) (Yc s) n E a b w ≠ 0 := fun z => by
          have := cnt_lt (P := fun _ => False) (Q := fun q => E w q ∧ cx (Xc s) (Yc s) a b q w) (List.range n) (fun _ _ h => h.elim) ⟨q, List.mem_range.mpr (h5.1 w q hq1).2.1, ⟨hq1, hq2⟩, fun h => h⟩
          unfold dgr at z
          omega
        omega
    obtain ⟨g, g1, g2⟩ := f62_eq hC' (show a < 40 by omega) (show b < 40 by omega)
    have gt : g = true := g2.mpr (one_T h4 h5 hnf hE)
    obtain ⟨t, E', q1, q2, q3⟩ := f57_ev hC' hS hlk (fun x y k => by
      rcases hl x y k with k | ⟨e1, e2⟩ | ⟨e1, e2⟩
      · exact k
      · rw [e1, e2]; exact hE
      · rw [e1, e2]; exact (h5.1 a b hE).2.2.2) hB
    refine ⟨t, E', ev1 q1 fun k hk => ?_, q2, q3⟩
    show r28 (k + 1) _ _ _ _ = _
    simp only [r28]
    rw [show (1000000 : Int32) = nI 1000000 from rfl, if_neg (fun h => by have := (nI_leI (by decide) (by omega)).mp h; omega), g1, gt]
    simp only [Option.bind_some]
    rw [if_pos (by decide), hk]
    rfl
  | succ m ih =>
    intro v s E l hC hS hlk hB hnf hcl hMs hx hl hv
    have hC' := hC
    obtain ⟨h1, h2, h3, h4, h5, h6⟩ := hC
    obtain ⟨g, g1, g2⟩ := f62_eq hC' (show a < 40 by omega) (show b < 40 by omega)
    by_cases hE : E a b
    · have gt : g = true := g2.mpr (one_T h4 h5 hnf hE)
      obtain ⟨t, E', q1, q2, q3⟩ := f57_ev hC' hS hlk (fun x y k => by
        rcases hl x y k with k | ⟨e1, e2⟩ | ⟨e1, e2⟩
        · exact k
        · rw [e1, e2]; exact hE
        · rw [e1, e2]; exact (h5.1 a b hE).2.2.2) hB
      refine ⟨t, E', ev1 q1 fun k hk => ?_, q2, q3⟩
      show r28 (k + 1) _ _ _ _ = _
      simp only [r28]
      rw [show (1000000 : Int32) = nI 1000000 from rfl, if_neg (fun h => by have := (nI_leI (by decide) (by omega)).mp h; omega), g1, gt]
      simp only [Option.bind_some]
      rw [if_pos (by decide), hk]
      rfl
    · have gf' : g = false := by
        cases g with
        | false => rfl
        | true =>
          exfalso
          rcases g2.mp rfl with ⟨c, hc⟩ | ⟨c, hc⟩
          · exact hE hc.1
          · exact hE (h5.1 b a hc.1).2.2.2
      obtain ⟨L, hL⟩ := NL_ex hC'
      have h75 := NL_75 h4 (h1.Bd h3) h3 h5 hL
      obtain ⟨t1, Q, p1, p2, p3, p4, p5⟩ := f29_ev hC' ha hb nab hcl hL h75 hE
      have hC1 : CX t1 n E := hC'.same p2.z (p2.1 24 (by decide))
      have hS1 : SU t1 l := hS.same (p2.1 27 (by decide)) (p2.2.1 28 (by decide)) (p2.2.2.1 3 (by decide))
      have X1 := p2.z.X
      have Y1 := p2.z.Y
      have nd : Q.Nodup := List.Pairwise.imp (fun {x y} h e => by rw [e] at h; exact pl_irr h) p5
      have Q75 : Q.length ≤ 75 := by
        have := ce_few hC' hb hL (fun z hz => (p4 z).mp hz) nd
        omega
      have qlt : ∀ z, z ∈ Q → z.1 < n ∧ z.2 < n := fun z hz => by
        have := (p4 z).mp hz
        exact ⟨(h5.1 _ _ this.1).1, (h5.1 _ _ this.1).2.1⟩
      -- the peak of Ms
      rcases hMs with hno | ⟨w, hPk⟩
      · exfalso
        refine hE (h5.2.2.2 a b ha hb nab hcl fun c d hcd hcr => ?_)
        rcases cx_of hcr with k | k
        · exact hno d c (h5.1 c d hcd).2.2.2 k
        · exact hno c d hcd k
      have hPk' := hPk
      obtain ⟨⟨q0, w1, w2⟩, wmax, _⟩ := hPk
      have hin : (w, q0) ∈ Q := (p4 (w, q0)).mpr ⟨w1, w2⟩
      have hQne : 0 < Q.length := List.length_pos_of_mem hin
      obtain ⟨i, z, u1, u2, u3, u4⟩ := f32_ev (hC1.1) (show a < 42 by omega) (show b < 42 by omega) p3 Q75 (fun z hz => by
        have := (p4 z).mp hz
        have hh := qlt z hz
        rw [X1, Y1]
        exact ⟨by omega, this.2.2.1⟩) hQne
      rw [X1, Y1] at u3 u4
      have hzc := (p4 z).mp (List.mem_of_getElem? u2)
      have hzl := qlt z (List.mem_of_getElem? u2)
      -- the peak found is the peak of Ms
      have hzw : z.1 = w := by
        have f1 := wmax z.1 z.2 hzc.1 hzc.2
        obtain ⟨j, hj, ej⟩ := List.getElem_of_mem hin
        have ej' : Q[j]? = some (w, q0) := by rw [List.getElem?_eq_getElem hj, ej]
        have le := u3 j _ ej'
        have le : ar (Xc s) (Yc s) a b w ≤ ar (Xc s) (Yc s) a b z.1 := le
        have hwl := (h5.1 w q0 w1).1
        have heq : ar (Xc s) (Yc s) a b w = ar (Xc s) (Yc s) a b z.1 := by
          rcases f1 with f1 | f1 <;> omega
        have t1' : wb (Xc s) (Yc s) a b w ≤ wb (Xc s) (Yc s) a b z.1 := by
          rcases f1 with f1 | f1 <;> omega
        have t2' : wb (Xc s) (Yc s) a b z.1 ≤ wb (Xc s) (Yc s) a b w := by
          by_cases ij : j < i
          · have := u4 j _ ij ej'
            have : ar (Xc s) (Yc s) a b w < ar (Xc s) (Yc s) a b z.1 := this
            omega
          · by_cases eij : j = i
            · rw [eij, u2] at ej'
              have : z = (w, q0) := by simpa using ej'
              rw [this]; exact Int.le_refl _
            · have hi := (List.getElem?_eq_some_iff.mp u2)
              have pp := List.pairwise_iff_getElem.mp p5 i j hi.1 hj (by omega)
              rw [hi.2, ej] at pp
              exact eqh h4 h5 ha hb nab hzc.1 w1 hzc.2 w2 heq.symm pp
        exact lev_eq h4 ha hb nab hzl.1 hwl heq.symm (by omega)
      obtain ⟨r, x, y, f1, f2, f3⟩ := peak_flip h4 h5 ha hb nab hcl w1 w2 wmax
      have hrin : (w, r) ∈ Q := (p4 (w, r)).mpr ⟨f1, f2⟩
      obtain ⟨j, hj, ej⟩ := List.getElem_of_mem hrin
      have hwl := (h5.1 w q0 w1).1
      obtain ⟨t2, r', y', x', l', c1, c2, c3, c4, c5, c6, c7⟩ := r31_ev (a := a) (b := b) hC1 hS1 p3 Q75 qlt hwl Q.length 0 (by omega) ⟨j, r, y, x, by omega, by rw [List.getElem?_eq_getElem hj, ej], by rw [X1, Y1]; exact f3⟩
      rw [X1, Y1] at c3
      have cr' := (p4 (w, r')).mp c2
      have xr' : cx (Xc s) (Yc s) a b r' w := cr'.2
      have z6 : mz t1 t2 := c6.mono (by decide) (by decide) (by decide) (by decide)
      have zz : mz s t2 := p2.z.trans z6
      have hMs2 := Ms_step h4 h5 ha hb nab hcl hPk' xr' c3
      have lx := c3.2.1.lt h5
      have ly := c3.1.lt h5
      obtain ⟨t, E', d1, d2, d3⟩ := ih (v + 1) t2 (fl E w r' y' x') l' c4 c5 ⟨hlk.1, fun x y hx hy => by rw [zz.l]; exact hlk.2 x y hx hy⟩ (by
        rw [zz.X, zz.Y]
        intro p q k1 k2
        rw [c7]
        by_cases o0 : cd p q = cd x' y'
        · exact Or.inr (Or.inr (Or.inr (Or.inr (Or.inr o0))))
        by_cases o1 : cd p q = cd w x'
        · exact Or.inr (Or.inl o1)
        by_cases o2 : cd p q = cd x' r'
        · exact Or.inr (Or.inr (Or.inl o2))
        by_cases o3 : cd p q = cd r' y'
        · exact Or.inr (Or.inr (Or.inr (Or.inl o3)))
        by_cases o4 : cd p q = cd y' w
        · exact Or.inr (Or.inr (Or.inr (Or.inr (Or.inl o4))))
        left
        have hM2 := fl_Mx h4 h5 c3
        have hpq := bnd_lt hM2 k2
        refine hB p q k1 fun hbn => k2 (bnd_stay h4 h5 c3 hbn ?_ ?_ ?_ ?_ ?_)
        · exact fun e => o0 (by rw [cd_comm x' y']; exact (cd_eq (by omega) (by omega) (by omega) (by omega)).mpr e)
        · exact fun e => o1 ((cd_eq (by omega) (by omega) (by omega) (by omega)).mpr e)
        · exact fun e => o2 ((cd_eq (by omega) (by omega) (by omega) (by omega)).mpr e)
        · exact fun e => o3 ((cd_eq (by omega) (by omega) (by omega) (by omega)).mpr e)
        · exact fun e => o4 ((cd_eq (by omega) (by omega) (by omega) (by omega)).mpr e)) (by rw [zz.X, zz.Y]; exact hnf) (by rw [zz.X, zz.Y]; exact hcl) (by rw [zz.X, zz.Y]; exact hMs2) (by rw [zz.X, zz.Y]; exact hx) (fun p q k => by
          rcases hl p q k with k' | k'
          · left
            refine Or.inl ⟨k', fun e => ?_, fun e => ?_⟩
            · rw [e.1, e.2] at k; exact hx w r' k (crs_t (cx_crs xr'))
            · rw [e.1, e.2] at k; exact hx r' w k (cx_crs xr')
          · exact Or.inr k') (by omega)
      refine ⟨t, E', ?_, d2, zz.trans d3⟩
      have u1' : ev (fun k => f32 k (nI a) (nI b) t1) (nI w) := by rw [← hzw]; exact u1
      have e31 : ev (fun k => f31 k (nI a) (nI b) t1) t2 := evm2 u1' c1 fun k hk1 hk2 => by
        show f31 k (nI a) (nI b) t1 = some t2
        unfold f31
        rw [hk1]
        exact hk2
      refine ev3 p1 e31 d1 fun k hk1 hk2 hk3 => ?_
      show r28 (k + 1) _ _ _ _ = _
      simp only [r28]
      rw [show (1000000 : Int32) = nI 1000000 from rfl, if_neg (fun h => by have := (nI_leI (by decide) (by omega)).mp h; omega), g1, gf']
      simp only [Option.bind_some]
      rw [if_neg (fun q => q rfl), hk1]
      simp only [Option.bind_some]
      rw [hk2, nI_inc]
      exact hk3
