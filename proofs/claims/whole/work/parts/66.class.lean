/-! M2: what the class's add, link, unlink and clear do -/
/-- the links, each once -/
noncomputable def nlk (lk : Nat → Nat → Prop) : Nat := cntP (prs 40) (fun z => lk z.1 z.2 ∧ z.2 < z.1)
/-- the class between two calls -/
def CL (s : mS) (n : Nat) (E lk : Nat → Nat → Prop) : Prop := MH s n E lk ∧ s.2.2.1 1 = nI (nlk lk)
theorem nlk_le (lk : Nat → Nat → Prop) : nlk lk ≤ 1600 := by
  have := cnt_len (prs 40) (fun z => lk z.1 z.2 ∧ z.2 < z.1)
  rw [prs_len] at this
  exact this
def inb (x : Int32) : Prop := -536870911 ≤ x.toInt ∧ x.toInt ≤ 536870911
theorem inb_abs {x : Int32} (h : inb x) : x.toInt.natAbs ≤ 536870911 := by unfold inb at h; omega
theorem bx_l {α β : Type} (a : α) (k : α → Option (β ⊕ Nat)) : bx (some (.inl a)) k = k a := rfl
theorem bx_r {α β : Type} (c : Nat) (k : α → Option (β ⊕ Nat)) : bx (some (.inr c) : Option (α ⊕ Nat)) k = some (.inr c) := rfl
theorem f97_eq (x y : Int32) (s : mS) : (inb x ∧ inb y → f97 x y s = some (.inl ())) ∧ (¬ (inb x ∧ inb y) → f97 x y s = some (.inr 10)) := by
  have e1 : (-536870911 : Int32).toInt = -536870911 := by decide
  have e2 : (536870911 : Int32).toInt = 536870911 := by decide
  unfold f97
  simp only [Int32.lt_iff_toInt_lt, Int32.le_iff_toInt_le, e1, e2]
  unfold inb
  constructor
  · intro h
    rw [if_neg (by omega), if_neg (by omega), if_neg (by omega), if_pos (by omega)]
  · intro h
    by_cases c1 : x.toInt < -536870911
    · rw [if_pos c1]
    · rw [if_neg c1]
      by_cases c2 : 536870911 < x.toInt
      · rw [if_pos c2]
      · rw [if_neg c2]
        by_cases c3 : y.toInt < -536870911
        · rw [if_pos c3]
        · rw [if_neg c3, if_neg (by omega)]
theorem LKc.lt {s : mS} {n : Nat} {E lk : Nat → Nat → Prop} (h : MH s n E lk) {x y : Nat} (k : lk x y) : x < n ∧ y < n ∧ x ≠ y := by
  have := h.1.2.2.2.2.1.1 x y (h.2.2.2.2.1 x y k)
  exact ⟨this.1, this.2.1, this.2.2.1⟩
/-- a new place at n: free if no point is there and no link goes over it -/
def free (s : mS) (n : Nat) (lk : Nat → Nat → Prop) (x y : Int32) : Prop := (∀ p, p < n → ¬ (Xc s p = x.toInt ∧ Yc s p = y.toInt)) ∧ ∀ c d, lk c d → ¬ oS (Xc (pu n x y s)) (Yc (pu n x y s)) c d n
theorem f96_ev {s : mS} {n : Nat} {E lk : Nat → Nat → Prop} (h : CL s n E lk) (hn : n < 40) {x y : Int32} (hx : inb x) (hy : inb y) :
    (free s n lk x y → ∃ t E', ev (fun k => f96 k x y s) (.inl (nI n, t)) ∧ CL t (n + 1) E' lk ∧ mz (uF 0 (nI (n + 1)) (pu n x y s)) t) ∧ (¬ free s n lk x y → ev (fun k => f96 k x y s) (.inl (-1, pu n x y s))) := by
  have hF0 := h.1.1.2.1
  have hM1 : MH (pu n x y s) n E lk := h.1.xpu (Nat.le_refl n) (inb_abs hx) (inb_abs hy)
  have hP1 := hM1.1.1
  have hF1 : (pu n x y s).2.2.1 0 = nI n := hF0
  have hlk := hM1.2.2.2.1
  obtain ⟨r, r1, r2⟩ := f69_ev (s := pu n x y s) hF1 (show n ≤ 40 by omega) (show n < 42 by omega)
  obtain ⟨g, g1, g2⟩ := r38_ev (s := pu n x y s) (p := n) hP1 hF1 (show n ≤ 40 by omega) (show n < 42 by omega) n 0 (by omega)
  have g1' : ev (fun k => f38 k (nI n) (pu n x y s)) (bI g) := g1
  have px : ∀ p, p < n → ((Xc (pu n x y s) p = Xc (pu n x y s) n ∧ Yc (pu n x y s) p = Yc (pu n x y s) n) ↔ (Xc s p = x.toInt ∧ Yc s p = y.toInt)) := fun p hp => by
    have npn : p ≠ n := by omega
    rw [pu_X n x y s p, pu_X n x y s n, pu_Y n x y s p, pu_Y n x y s n, if_neg npn, if_neg npn, if_pos rfl, if_pos rfl]
  have gl : g = true ↔ ∃ c d, lk c d ∧ oS (Xc (pu n x y s)) (Yc (pu n x y s)) c d n := by
    rw [g2]
    constructor
    · intro ⟨c, d, _, h2, h3, h4, h5⟩
      exact ⟨c, d, (hlk.2 c d (by omega) (by omega)).mp h4, h5⟩
    · intro ⟨c, d, h4, h5⟩
      have l := LKc.lt hM1 h4
      rcases Nat.lt_or_gt_of_ne l.2.2 with q | q
      · exact ⟨c, d, by omega, q, l.2.1, (hlk.2 c d (by omega) (by omega)).mpr h4, h5⟩
      · exact ⟨d, c, by omega, q, l.1, (hlk.2 d c (by omega) (by omega)).mpr (hlk.1 c d h4), oS_sym h5⟩
  have base : ∀ k, f96 k x y s = (f69 k (nI n) (pu n x y s)).bind fun q9 => (if (¬ q9 = (-1 : Int32)) then some (.inl ((-1 : Int32), pu n x y s)) else (f38 k (nI n) (pu n x y s)).bind fun q12 => (if (q12 = (0 : Int32)) then (f20 k (nI n) (uF 0 (nI (n + 1)) (pu n x y s))).bind fun q17 => some (.inl (nI n, q17)) else some (.inl ((-1 : Int32), pu n x y s)))) := by
    intro k
    unfold f96
    rw [(f97_eq x y s).1 ⟨hx, hy⟩, bx_l, f66_eq hF0]
    simp only [Option.bind_some]
    have n40 : ¬ nI n = 40 := fun q => by have := (nI_eq (by omega) (by decide)).mp (show nI n = nI 40 from q); omega
    rw [if_pos n40, f68_eq (by omega)]
    simp only [Option.bind_some]
    have e72 : f72 (pu n x y s) = some (uF 0 (nI (n + 1)) (pu n x y s)) := by
      unfold f72
      simp only [pt]
      rw [hF1, nI_1]
    show (f69 k (nI n) (pu n x y s)).bind _ = _
    congr 1
    funext q9
    split
    · rfl
    · show (f38 k (nI n) (pu n x y s)).bind _ = _
      congr 1
      funext q12
      split
      · show (f72 (pu n x y s)).bind _ = _
        rw [e72]; rfl
      · rfl
  constructor
  · intro ⟨hf1, hf2⟩
    have er : r = -1 := by
      rcases r2 with ⟨p, hp, _, q⟩ | ⟨q, _⟩
      · exact absurd ((px p hp).mp q) (hf1 p hp)
      · exact q
    have eg : g = false := by
      cases g with
      | false => rfl
      | true =>
        obtain ⟨c, d, k1, k2⟩ := gl.mp rfl
        exact absurd k2 (hf2 c d k1)
    let s2 := uF 0 (nI (n + 1)) (pu n x y s)
    have hD : Dst (Xc s2) (Yc s2) (n + 1) := by
      have hD0 := hM1.1.2.2.2.1
      intro i j hi hj e1 e2
      have e1 : Xc (pu n x y s) i = Xc (pu n x y s) j := e1
      have e2 : Yc (pu n x y s) i = Yc (pu n x y s) j := e2
      by_cases ei : i = n
      · by_cases ej : j = n
        · omega
        · rw [ei] at e1 e2
          exact absurd ((px j (by omega)).mp ⟨e1.symm, e2.symm⟩) (hf1 j (by omega))
      · by_cases ej : j = n
        · rw [ej] at e1 e2
          exact absurd ((px i (by omega)).mp ⟨e1, e2⟩) (hf1 i (by omega))
        · exact hD0 i j (by omega) (by omega) e1 e2
    obtain ⟨t, E', q1, q2, q3⟩ := f20_ev (s := s2) (n := n) (E := E) (lk := lk) hP1 hn (uF_at 0 _ _) hD hM1.1.2.2.2.2.1 hM1.1.2.2.2.2.2 (hM1.2.1.same rfl rfl rfl) (by
      obtain ⟨L, l1, l2⟩ := hM1.2.2.1
      exact ⟨L, l1, l2.1, l2.2⟩) ⟨hlk.1, hlk.2⟩ hM1.2.2.2.2.1 hM1.2.2.2.2.2 hf2
    refine ⟨t, E', evm3 r1 g1' q1 fun k hk1 hk2 hk3 => ?_, ⟨q2, ?_⟩, q3⟩
    · show f96 k x y s = _
      rw [base, hk1]
      simp only [Option.bind_some]
      rw [er, if_neg (fun q => q rfl), hk2, eg]
      simp only [Option.bind_some]
      rw [if_pos (show bI false = 0 from rfl), hk3]
      rfl
    · rw [q3.2.2.1 1 (by decide)]
      exact h.2
  · intro hnf
    by_cases hf1 : ∃ p, p < n ∧ (Xc s p = x.toInt ∧ Yc s p = y.toInt)
    · have er : ¬ r = -1 := by
        rcases r2 with ⟨p, hp, q, _⟩ | ⟨_, q⟩
        · rw [q]; exact nI_m1 (by omega)
        · obtain ⟨p, hp, q2⟩ := hf1
          exact absurd ((px p hp).mpr q2) (q p hp)
      refine evm r1 fun k hk => ?_
      show f96 k x y s = _
      rw [base, hk]
      simp only [Option.bind_some]
      rw [if_pos er]
    · have er : r = -1 := by
        rcases r2 with ⟨p, hp, _, q⟩ | ⟨q, _⟩
        · exact absurd ⟨p, hp, (px p hp).mp q⟩ hf1
        · exact q
      have eg : g = true := by
        refine gl.mpr (Classical.byContradiction fun k => hnf ⟨fun p hp q => hf1 ⟨p, hp, q⟩, fun c d h1 h2 => k ⟨c, d, h1, h2⟩⟩)
      refine evm2 r1 g1' fun k hk1 hk2 => ?_
      show f96 k x y s = _
      rw [base, hk1]
      simp only [Option.bind_some]
      rw [er, if_neg (fun q => q rfl), hk2, eg]
      rfl
/-! links -/
def lk1 (lk : Nat → Nat → Prop) (a b x y : Nat) : Prop := lk x y ∨ (x = a ∧ y = b) ∨ (x = b ∧ y = a)
def lk0 (lk : Nat → Nat → Prop) (a b x y : Nat) : Prop := lk x y ∧ ¬ (x = a ∧ y = b) ∧ ¬ (x = b ∧ y = a)
theorem nlk1 {lk : Nat → Nat → Prop} {a b : Nat} (ha : a < 40) (hb : b < 40) (nab : a ≠ b) (h1 : ¬ lk a b) (h2 : ¬ lk b a) : nlk (lk1 lk a b) = nlk lk + 1 := by
  unfold nlk
  let z0 : Nat × Nat := (max a b, min a b)
  have s1 := cnt_split (P := fun z : Nat × Nat => lk1 lk a b z.1 z.2 ∧ z.2 < z.1) (Q := fun z => z = z0) (prs 40)
  have e1 : cntP (prs 40) (fun z : Nat × Nat => (lk1 lk a b z.1 z.2 ∧ z.2 < z.1) ∧ ¬ z = z0) = cntP (prs 40) (fun z => lk z.1 z.2 ∧ z.2 < z.1) := by
    refine cnt_congr fun z hz => ⟨fun ⟨⟨k1, k2⟩, k3⟩ => ⟨?_, k2⟩, fun ⟨k1, k2⟩ => ⟨⟨Or.inl k1, k2⟩, fun e => ?_⟩⟩
    · rcases k1 with k1 | k1 | k1
      · exact k1
      · exact absurd (Prod.ext (by show z.1 = max a b; omega) (by show z.2 = min a b; omega)) k3
      · exact absurd (Prod.ext (by show z.1 = max a b; omega) (by show z.2 = min a b; omega)) k3
    · rw [e] at k1
      rcases Nat.lt_or_gt_of_ne nab with q | q
      · have e1 : max a b = b := by omega
        have e2 : min a b = a := by omega
        have k1 : lk (max a b) (min a b) := k1
        rw [e1, e2] at k1; exact h2 k1
      · have e1 : max a b = a := by omega
        have e2 : min a b = b := by omega
        have k1 : lk (max a b) (min a b) := k1
        rw [e1, e2] at k1; exact h1 k1
  have e2 : cntP (prs 40) (fun z : Nat × Nat => (lk1 lk a b z.1 z.2 ∧ z.2 < z.1) ∧ z = z0) = 1 := by
    have one : cntP [z0] (fun _ => True) = 1 := cnt_true [z0]
    have a1 := cnt_inj (l := prs 40) (l' := [z0]) (P := fun z => (lk1 lk a b z.1 z.2 ∧ z.2 < z.1) ∧ z = z0) (Q := fun _ => True) id (prs_nodup 40) (fun z _ k => ⟨by show z ∈ [z0]; rw [k.2]; exact List.mem_cons_self, trivial⟩) (fun x y _ _ _ _ h => h)
    have b1 := cnt_inj (l := [z0]) (l' := prs 40) (P := fun _ => True) (Q := fun z => (lk1 lk a b z.1 z.2 ∧ z.2 < z.1) ∧ z = z0) id (List.nodup_cons.mpr ⟨List.not_mem_nil, List.nodup_nil⟩) (fun z hz _ => by
      have : z = z0 := List.mem_singleton.mp hz
      rw [this]
      refine ⟨prs_mem.mpr ⟨by show max a b < 40; omega, by show min a b < 40; omega⟩, ⟨?_, by show min a b < max a b; omega⟩, rfl⟩
      show lk1 lk a b (max a b) (min a b)
      unfold lk1
      omega) (fun x y _ _ _ _ h => h)
    omega
  omega
theorem nlk0 {lk : Nat → Nat → Prop} {a b : Nat} (ha : a < 40) (hb : b < 40) (nab : a ≠ b) (h1 : lk a b) (h2 : lk b a) : nlk (lk0 lk a b) + 1 = nlk lk := by
  have e : nlk (lk1 (lk0 lk a b) a b) = nlk (lk0 lk a b) + 1 := nlk1 ha hb nab (fun k => k.2.1 ⟨rfl, rfl⟩) (fun k => k.2.2 ⟨rfl, rfl⟩)
  rw [← e]
  unfold nlk
  refine cnt_congr fun z _ => ⟨fun ⟨k1, k2⟩ => ⟨?_, k2⟩, fun ⟨k1, k2⟩ => ⟨?_, k2⟩⟩
  · rcases k1 with k1 | ⟨e1, e2⟩ | ⟨e1, e2⟩
    · exact k1.1
    · rw [e1, e2]; exact h1
    · rw [e1, e2]; exact h2
  · by_cases q1 : z.1 = a ∧ z.2 = b
    · exact Or.inr (Or.inl q1)
    · by_cases q2 : z.1 = b ∧ z.2 = a
      · exact Or.inr (Or.inr q2)
      · exact Or.inl ⟨k1, q1, q2⟩
theorem f42_ev {s : mS} {lk : Nat → Nat → Prop} {a b m : Nat} (ha : a < 40) (hb : b < 40) (nab : a ≠ b) (hl : LKc s lk) (h1 : s.2.2.1 1 = nI m) : ∃ t, f42 (nI a) (nI b) s = some t ∧ LKc t (lk1 lk a b) ∧ t.2.2.1 1 = nI (m + 1) ∧ sm [] [22] [1] [] s t := by
  let J1 := vp_updL (s.2.1 22) a ((s.2.1 22 a) ||| ((1 : Int64) <<< ((nI b).toInt64 &&& 63)))
  let s3 := uJ 22 J1 s
  let J2 := vp_updL J1 b ((J1 b) ||| ((1 : Int64) <<< ((nI a).toInt64 &&& 63)))
  let s7 := uJ 22 J2 s3
  have e3 : s3.2.1 22 = J1 := uJ_at 22 J1 s
  refine ⟨uF 1 (nI (m + 1)) s7, ?_, ⟨fun x y k => ?_, fun x y hx hy => ?_⟩, uF_at 1 _ _, ((sm_J (by decide) J1 s).trans (sm_J (by decide) J2 s3)).trans (sm_F (by decide) _ s7)⟩
  · unfold f42
    simp only [rdI_nI ha (show 40 < 2 ^ 31 by decide), rdI_nI hb (show 40 < 2 ^ 31 by decide), nI_clamp (show a < 2 ^ 31 by omega), nI_clamp (show b < 2 ^ 31 by omega), pt]
    show some (uF 1 (s.2.2.1 1 + 1) (uJ 22 (vp_updL (s3.2.1 22) b ((s3.2.1 22 b) ||| ((1 : Int64) <<< ((nI a).toInt64 &&& 63)))) s3)) = _
    rw [e3, h1, nI_1]
  · rcases k with k | ⟨e1, e2⟩ | ⟨e1, e2⟩
    · exact Or.inl (hl.1 x y k)
    · exact Or.inr (Or.inr ⟨e2, e1⟩)
    · exact Or.inr (Or.inl ⟨e2, e1⟩)
  · have e7 : (uF 1 (nI (m + 1)) s7).2.1 22 = J2 := uJ_at 22 J2 s3
    rw [e7]
    have h := hl.2 x y hx hy
    show bL (vp_updL J1 b ((J1 b) ||| ((1 : Int64) <<< ((nI a).toInt64 &&& 63))) x) y = true ↔ _
    have j1 : ∀ u, J1 u = if u = a then (s.2.1 22 a) ||| ((1 : Int64) <<< ((nI b).toInt64 &&& 63)) else s.2.1 22 u := fun u => rfl
    unfold vp_updL lk1
    by_cases c1 : x = b
    · rw [if_pos c1, bL_or _ (by omega), j1, if_neg (by omega), Bool.or_eq_true, decide_eq_true_iff, ← c1, h]
      constructor
      · rintro (q | q)
        · exact Or.inl q
        · exact Or.inr (Or.inr ⟨rfl, q.symm⟩)
      · rintro (q | q | q)
        · exact Or.inl q
        · omega
        · exact Or.inr q.2.symm
    · rw [if_neg c1, j1]
      by_cases c2 : x = a
      · rw [if_pos c2, bL_or _ (by omega), Bool.or_eq_true, decide_eq_true_iff, ← c2, h]
        constructor
        · rintro (q | q)
          · exact Or.inl q
          · exact Or.inr (Or.inl ⟨rfl, q.symm⟩)
        · rintro (q | q | q)
          · exact Or.inl q
          · exact Or.inr q.2.symm
          · exact absurd q.1 c1
      · rw [if_neg c2, h]
        constructor
        · intro q; exact Or.inl q
        · rintro (q | q | q)
          · exact q
          · exact absurd q.1 c2
          · exact absurd q.1 c1
theorem f43_ev {s : mS} {lk : Nat → Nat → Prop} {a b m : Nat} (ha : a < 40) (hb : b < 40) (nab : a ≠ b) (hl : LKc s lk) (h1 : s.2.2.1 1 = nI (m + 1)) : ∃ t, f43 (nI a) (nI b) s = some t ∧ LKc t (lk0 lk a b) ∧ t.2.2.1 1 = nI m ∧ sm [] [22] [1] [] s t := by
  let J1 := vp_updL (s.2.1 22) a ((s.2.1 22 a) &&& (((1 : Int64) <<< ((nI b).toInt64 &&& 63)) ^^^ (-1 : Int64)))
  let s3 := uJ 22 J1 s
  let J2 := vp_updL J1 b ((J1 b) &&& (((1 : Int64) <<< ((nI a).toInt64 &&& 63)) ^^^ (-1 : Int64)))
  let s7 := uJ 22 J2 s3
  have e3 : s3.2.1 22 = J1 := uJ_at 22 J1 s
  refine ⟨uF 1 (nI m) s7, ?_, ⟨fun x y k => ⟨hl.1 x y k.1, fun e => k.2.2 ⟨e.2, e.1⟩, fun e => k.2.1 ⟨e.2, e.1⟩⟩, fun x y hx hy => ?_⟩, uF_at 1 _ _, ((sm_J (by decide) J1 s).trans (sm_J (by decide) J2 s3)).trans (sm_F (by decide) _ s7)⟩
  · unfold f43
    simp only [rdI_nI ha (show 40 < 2 ^ 31 by decide), rdI_nI hb (show 40 < 2 ^ 31 by decide), nI_clamp (show a < 2 ^ 31 by omega), nI_clamp (show b < 2 ^ 31 by omega), pt]
    show some (uF 1 (s.2.2.1 1 - 1) (uJ 22 (vp_updL (s3.2.1 22) b ((s3.2.1 22 b) &&& (((1 : Int64) <<< ((nI a).toInt64 &&& 63)) ^^^ (-1 : Int64)))) s3)) = _
    rw [e3, h1, nI_pred]
  · have e7 : (uF 1 (nI m) s7).2.1 22 = J2 := uJ_at 22 J2 s3
    rw [e7]
    have h := hl.2 x y hx hy
    show bL (vp_updL J1 b ((J1 b) &&& (((1 : Int64) <<< ((nI a).toInt64 &&& 63)) ^^^ (-1 : Int64))) x) y = true ↔ _
    have j1 : ∀ u, J1 u = if u = a then (s.2.1 22 a) &&& (((1 : Int64) <<< ((nI b).toInt64 &&& 63)) ^^^ (-1 : Int64)) else s.2.1 22 u := fun u => rfl
    unfold vp_updL lk0
    by_cases c1 : x = b
    · rw [if_pos c1, bL_clr _ (by omega) (by omega), j1, if_neg (by omega), Bool.and_eq_true, ← c1, h]
      simp only [Bool.not_eq_true', decide_eq_false_iff_not]
      constructor
      · intro ⟨q1, q2⟩; exact ⟨q1, fun e => by omega, fun e => q2 e.2.symm⟩
      · intro ⟨q1, q2, q3⟩; exact ⟨q1, fun e => q3 ⟨trivial, e.symm⟩⟩
    · rw [if_neg c1, j1]
      by_cases c2 : x = a
      · rw [if_pos c2, bL_clr _ (by omega) (by omega), Bool.and_eq_true, ← c2, h]
        simp only [Bool.not_eq_true', decide_eq_false_iff_not]
        constructor
        · intro ⟨q1, q2⟩; exact ⟨q1, fun e => q2 e.2.symm, fun e => c1 e.1⟩
        · intro ⟨q1, q2, q3⟩; exact ⟨q1, fun e => q2 ⟨trivial, e.symm⟩⟩
      · rw [if_neg c2, h]
        exact ⟨fun q => ⟨q, fun e => c2 e.1, fun e => c1 e.1⟩, fun q => q.1⟩
