/-! M2: the class's link, unlink and clear -/
def isP (n : Nat) (v : Int32) : Prop := ∃ a, a < n ∧ v = nI a
theorem isP_iff {n : Nat} (hn : n ≤ 40) (v : Int32) : isP n v ↔ ¬ v < 0 ∧ v < nI n := by
  constructor
  · intro ⟨a, ha, e⟩
    rw [e]
    exact ⟨nI_pos (by omega), nI_lt ha (by omega)⟩
  · intro ⟨h1, h2⟩
    obtain ⟨j, hj, e⟩ := nI_of h1
    rw [e] at h2
    exact ⟨j, (nI_ltI hj (by omega)).mp h2, e⟩
theorem f102_eq {s : mS} {n : Nat} (hF : s.2.2.1 0 = nI n) (hn : n ≤ 40) (v : Int32) : (isP n v → f102 v s = some (.inl ())) ∧ (¬ isP n v → f102 v s = some (.inr 10)) := by
  have h := isP_iff hn v
  unfold f102
  rw [f66_eq hF]
  simp only [Option.bind_some]
  constructor
  · intro k
    obtain ⟨k1, k2⟩ := h.mp k
    rw [if_neg k1, if_pos k2]
  · intro k
    by_cases c : v < 0
    · rw [if_pos c]
    · rw [if_neg c, if_neg (fun q => k (h.mpr ⟨c, q⟩))]
/-- two points, not the same -/
def isPr (n : Nat) (v w : Int32) : Prop := isP n v ∧ isP n w ∧ v ≠ w
theorem f101_eq {s : mS} {n : Nat} (hF : s.2.2.1 0 = nI n) (hn : n ≤ 40) (v w : Int32) : (isPr n v w → f101 v w s = some (.inl ())) ∧ (¬ isPr n v w → f101 v w s = some (.inr 10)) := by
  unfold f101 isPr
  constructor
  · intro ⟨h1, h2, h3⟩
    rw [(f102_eq hF hn v).1 h1, bx_l, (f102_eq hF hn w).1 h2, bx_l, if_pos h3]
  · intro h
    by_cases h1 : isP n v
    · rw [(f102_eq hF hn v).1 h1, bx_l]
      by_cases h2 : isP n w
      · rw [(f102_eq hF hn w).1 h2, bx_l, if_neg (fun q => h ⟨h1, h2, q⟩)]
      · rw [(f102_eq hF hn w).2 h2, bx_r]
    · rw [(f102_eq hF hn v).2 h1, bx_r]
/-- a and b may be linked -/
def okl (X Y : Nat → Int) (n : Nat) (lk : Nat → Nat → Prop) (a b : Nat) : Prop := clr X Y n a b ∧ ∀ c d, lk c d → ¬ crs X Y a b c d
theorem f28_ev {s0 s : mS} {n a b : Nat} {E lk : Nat → Nat → Prop} (h : MH s0 n E lk) (ha : a < n) (hb : b < n) (nab : a ≠ b) (hok : okl (Xc s0) (Yc s0) n lk a b) (hz : sm [] [22] [1] [] s0 s) (hl : LKc s (lk1 lk a b)) : ∃ t E', ev (fun k => f28 k (nI a) (nI b) s) t ∧ MH t n E' (lk1 lk a b) ∧ mz s t := by
  have X1 : Xc s = Xc s0 := funext fun j => by unfold Xc; rw [hz.1 18 (by decide)]
  have Y1 : Yc s = Yc s0 := funext fun j => by unfold Yc; rw [hz.1 19 (by decide)]
  have h' := h
  obtain ⟨⟨c1, c2, c3, c4, c5, c6⟩, m2, ⟨L, m3, m3'⟩, m4, m5, m6⟩ := h
  have hP : P42 s := fun j hj => by rw [X1, Y1]; exact c1 j hj
  have f2 : s.2.2.1 2 = nI L.length := by rw [hz.2.2.1 2 (by decide)]; exact m3'.1
  have h75 := NL_75 c4 (c1.Bd c3) c3 c5 m3
  have selfx : ¬ crs (Xc s0) (Yc s0) a b a b := fun q => by have := q.1; rw [ar_xyx, Int.zero_mul] at this; omega
  have selfy : ¬ crs (Xc s0) (Yc s0) a b b a := fun q => by have := q.1; rw [ar_yxx, Int.zero_mul] at this; omega
  have hx : ∀ x y, lk1 lk a b x y → ¬ crs (Xc s0) (Yc s0) a b x y := fun x y k => by
    rcases k with k | ⟨e1, e2⟩ | ⟨e1, e2⟩
    · exact hok.2 x y k
    · rw [e1, e2]; exact selfx
    · rw [e1, e2]; exact selfy
  have agr0 : agr (Xc s0) (Yc s0) (Xc s) (Yc s) n := fun i _ => by rw [X1, Y1]; exact ⟨rfl, rfl⟩
  obtain ⟨fl1, fl2⟩ := NL_flat c3 c4 c5 m3
  by_cases eL : L = []
  · have hE : E a b := c5.2.2.2 a b ha hb nab hok.1 fun c d hcd hcr => by
      have := c5.1 c d hcd
      have k := hcr.1
      rw [fl1 eL a b c ha hb this.1, Int.zero_mul] at k
      omega
    refine ⟨s, E, ev_0 fun k => ?_, h'.over agr0 hP (hz.2.2.1 0 (by decide)) (hz.1 24 (by decide)) (hz.1 25 (by decide)) (hz.1 26 (by decide)) (hz.1 27 (by decide)) (hz.2.1 28 (by decide)) (hz.2.2.1 2 (by decide)) (hz.2.2.1 3 (by decide)) hl (fun x y k => ?_) (fun x y k => Or.inl fun q => k (Or.inl q)), sm.refl s⟩
    · show f28 k (nI a) (nI b) s = some s
      unfold f28 f46
      rw [f2, eL]
      rfl
    · rcases k with k | ⟨e1, e2⟩ | ⟨e1, e2⟩
      · exact m5 x y k
      · rw [e1, e2]; exact hE
      · rw [e1, e2]; exact (c5.1 a b hE).2.2.2
  · have hC : CX s n E := by
      refine ⟨hP, by rw [hz.2.2.1 0 (by decide)]; exact c2, c3, by rw [X1, Y1]; exact c4, by rw [X1, Y1]; exact c5, ?_⟩
      unfold TH
      rw [X1, Y1, hz.1 24 (by decide)]
      exact c6
    have hS : SU s [] := m2.same (hz.1 27 (by decide)) (hz.2.1 28 (by decide)) (hz.2.2.1 3 (by decide))
    have hnn : n * (n + 1) + n ≤ 40 * 41 + 40 := by
      have := Nat.mul_le_mul c3 (show n + 1 ≤ 41 by omega)
      omega
    obtain ⟨t, E', q1, q2, q3⟩ := r28_ev ha hb nab (Or.inr (Or.inl ⟨rfl, rfl⟩)) (n * (n + 1) + n) 0 s E [] hC hS hl (fun x y k1 k2 => by
      rw [X1, Y1] at k2
      exact absurd (m6 x y fun q => k1 (Or.inl q)) k2) (by rw [X1, Y1]; exact fl2 eL) (by rw [X1, Y1]; exact hok.1) (by rw [X1, Y1]; exact Ms_init c5 a b) (by rw [X1, Y1]; exact hx) (fun x y k => by
      rcases k with k | k
      · exact Or.inl (m5 x y k)
      · exact Or.inr k) (by omega)
    refine ⟨t, E', evm q1 fun k hk => ?_, q2, q3⟩
    show f28 k (nI a) (nI b) s = some t
    unfold f28 f46
    simp only [Option.bind_some]
    have hlen : 0 < L.length := by
      cases L with
      | nil => exact absurd rfl eL
      | cons c L => simp
    have nz : ¬ s.2.2.1 2 = 0 := by rw [f2]; exact nI_ne0 hlen (by omega)
    rw [if_pos nz]
    exact hk
theorem f100_ev {s : mS} {n a b : Nat} {E lk : Nat → Nat → Prop} (h : CL s n E lk) (ha : a < n) (hb : b < n) (nab : a ≠ b) :
    (lk a b → ev (fun k => f100 k (nI a) (nI b) s) (.inl (1, s))) ∧ (¬ lk a b → ¬ okl (Xc s) (Yc s) n lk a b → ev (fun k => f100 k (nI a) (nI b) s) (.inl (0, s))) ∧
    (¬ lk a b → okl (Xc s) (Yc s) n lk a b → ∃ t E', ev (fun k => f100 k (nI a) (nI b) s) (.inl (1, t)) ∧ CL t n E' (lk1 lk a b) ∧ sm [24, 25, 26, 27, 30, 31] [22, 28] [1, 2, 3, 4] [0, 1, 2] s t) := by
  have hh := h
  obtain ⟨hM, hF1⟩ := h
  have hM' := hM
  obtain ⟨⟨c1, c2, c3, c4, c5, c6⟩, m2, ⟨L, m3, m3'⟩, m4, m5, m6⟩ := hM
  have hpr : isPr n (nI a) (nI b) := ⟨⟨a, ha, rfl⟩, ⟨b, hb, rfl⟩, fun q => nab ((nI_eq (by omega) (by omega)).mp q)⟩
  have hbit := m4.2 a b (by omega) (by omega)
  obtain ⟨g, g1, g2⟩ := f77_ev (a := a) (b := b) c1 c2 c3 (by omega) (by omega)
  obtain ⟨w, w1, w2⟩ := r40_ev (a := a) (b := b) c1 c2 c3 (by omega) (by omega) n 0 (by omega)
  have w1' : ev (fun k => f40 k (nI a) (nI b) s) (bI w) := w1
  have w3 : w = true ↔ ∃ c d, lk c d ∧ crs (Xc s) (Yc s) a b c d := by
    rw [w2]
    constructor
    · intro ⟨c, d, _, k2, k3, k4, k5⟩
      exact ⟨c, d, (m4.2 c d (by omega) (by omega)).mp k4, k5⟩
    · intro ⟨c, d, k4, k5⟩
      have l := LKc.lt hM' k4
      rcases Nat.lt_or_gt_of_ne l.2.2 with q | q
      · exact ⟨c, d, by omega, q, l.2.1, (m4.2 c d (by omega) (by omega)).mpr k4, k5⟩
      · exact ⟨d, c, by omega, q, l.1, (m4.2 d c (by omega) (by omega)).mpr (m4.1 c d k4), crs_t k5⟩
  have base : ∀ k, f100 k (nI a) (nI b) s = (if bL (s.2.1 22 a) b = false then (f77 k (nI a) (nI b) s).bind fun q7 => (if (¬ q7 = (0 : Int32)) then some (.inl ((0 : Int32), s)) else (f40 k (nI a) (nI b) s).bind fun q10 => (if (q10 = (0 : Int32)) then (f42 (nI a) (nI b) s).bind fun q13 => (f28 k (nI a) (nI b) q13).bind fun q15 => some (.inl ((1 : Int32), q15)) else some (.inl ((0 : Int32), s)))) else some (.inl ((1 : Int32), s))) := by
    intro k
    unfold f100
    rw [(f101_eq c2 c3 _ _).1 hpr, bx_l, f39_eq (by omega) (by omega)]
    simp only [Option.bind_some, bI_0]
  refine ⟨fun hl => ev_0 fun k => ?_, fun hl hno => ?_, fun hl hok => ?_⟩
  · show f100 k (nI a) (nI b) s = _
    rw [base, hbit.mpr hl, if_neg (by decide)]
  · have hb' : bL (s.2.1 22 a) b = false := by
      cases q : bL (s.2.1 22 a) b with
      | false => rfl
      | true => exact absurd (hbit.mp q) hl
    cases g with
    | true =>
      refine evm g1 fun k hk => ?_
      show f100 k (nI a) (nI b) s = _
      rw [base, hb', if_pos rfl, hk]
      rfl
    | false =>
      have hc : clr (Xc s) (Yc s) n a b := Classical.byContradiction fun q => by have := g2.mpr q; cases this
      have hw : w = true := w3.mpr (Classical.byContradiction fun q => hno ⟨hc, fun c d k1 k2 => q ⟨c, d, k1, k2⟩⟩)
      refine evm2 g1 w1' fun k hk1 hk2 => ?_
      show f100 k (nI a) (nI b) s = _
      rw [base, hb', if_pos rfl, hk1]
      simp only [Option.bind_some]
      rw [if_neg (fun q => q rfl), hk2, hw]
      rfl
  · have hb' : bL (s.2.1 22 a) b = false := by
      cases q : bL (s.2.1 22 a) b with
      | false => rfl
      | true => exact absurd (hbit.mp q) hl
    have hg : g = false := by
      cases g with
      | false => rfl
      | true => exact absurd hok.1 (g2.mp rfl)
    have hw : w = false := by
      cases w with
      | false => rfl
      | true =>
        obtain ⟨c, d, k1, k2⟩ := w3.mp rfl
        exact absurd k2 (hok.2 c d k1)
    obtain ⟨s1, e1, l1, n1, z1⟩ := f42_ev (show a < 40 by omega) (show b < 40 by omega) nab m4 hF1
    obtain ⟨t, E', q1, q2, q3⟩ := f28_ev hM' ha hb nab hok z1 l1
    refine ⟨t, E', evm3 g1 w1' q1 fun k hk1 hk2 hk3 => ?_, ⟨q2, ?_⟩, (z1.mono (by decide) (by decide) (by decide) (by decide)).trans (q3.mono (by decide) (by decide) (by decide) (by decide))⟩
    · show f100 k (nI a) (nI b) s = _
      rw [base, hb', if_pos rfl, hk1, hg]
      simp only [Option.bind_some]
      rw [if_neg (fun q => q rfl), hk2, hw]
      simp only [Option.bind_some]
      rw [if_pos (show bI false = 0 from rfl), e1]
      simp only [Option.bind_some]
      rw [hk3]
      rfl
    · rw [q3.2.2.1 1 (by decide), n1, nlk1 (by omega) (by omega) nab hl (fun q => hl (m4.1 b a q))]
theorem f103_ev {s : mS} {n a b : Nat} {E lk : Nat → Nat → Prop} (h : CL s n E lk) (ha : a < n) (hb : b < n) (nab : a ≠ b) :
    (¬ lk a b → ev (fun k => f103 k (nI a) (nI b) s) (.inl (0, s))) ∧ (lk a b → ∃ t E', ev (fun k => f103 k (nI a) (nI b) s) (.inl (1, t)) ∧ CL t n E' (lk0 lk a b) ∧ sm [24, 25, 26, 27, 30, 31] [22, 28] [1, 2, 3, 4] [0, 1, 2] s t) := by
  obtain ⟨hM, hF1⟩ := h
  have hM' := hM
  obtain ⟨⟨c1, c2, c3, c4, c5, c6⟩, m2, ⟨L, m3, m3'⟩, m4, m5, m6⟩ := hM
  have hpr : isPr n (nI a) (nI b) := ⟨⟨a, ha, rfl⟩, ⟨b, hb, rfl⟩, fun q => nab ((nI_eq (by omega) (by omega)).mp q)⟩
  have hbit := m4.2 a b (by omega) (by omega)
  have base : ∀ k, f103 k (nI a) (nI b) s = (if ¬ bL (s.2.1 22 a) b = false then (f43 (nI a) (nI b) s).bind fun q7 => (f34 k (nI a) (nI b) q7).bind fun q9 => some (.inl ((1 : Int32), q9)) else some (.inl ((0 : Int32), s))) := by
    intro k
    unfold f103
    rw [(f101_eq c2 c3 _ _).1 hpr, bx_l, f39_eq (by omega) (by omega)]
    simp only [Option.bind_some, bI_0]
  refine ⟨fun hl => ev_0 fun k => ?_, fun hl => ?_⟩
  · have hb' : bL (s.2.1 22 a) b = false := by
      cases q : bL (s.2.1 22 a) b with
      | false => rfl
      | true => exact absurd (hbit.mp q) hl
    show f103 k (nI a) (nI b) s = _
    rw [base, hb', if_neg (fun q => q rfl)]
  · have hpos : nlk lk = nlk (lk0 lk a b) + 1 := (nlk0 (by omega) (by omega) nab hl (m4.1 a b hl)).symm
    rw [hpos] at hF1
    obtain ⟨s1, e1, l1, n1, z1⟩ := f43_ev (show a < 40 by omega) (show b < 40 by omega) nab m4 hF1
    have X1 : Xc s1 = Xc s := funext fun j => by unfold Xc; rw [z1.1 18 (by decide)]
    have Y1 : Yc s1 = Yc s := funext fun j => by unfold Yc; rw [z1.1 19 (by decide)]
    have hP : P42 s1 := fun j hj => by rw [X1, Y1]; exact c1 j hj
    have f2 : s1.2.2.1 2 = nI L.length := by rw [z1.2.2.1 2 (by decide)]; exact m3'.1
    have h75 := NL_75 c4 (c1.Bd c3) c3 c5 m3
    obtain ⟨fl1, fl2⟩ := NL_flat c3 c4 c5 m3
    have agr0 : agr (Xc s) (Yc s) (Xc s1) (Yc s1) n := fun i _ => by rw [X1, Y1]; exact ⟨rfl, rfl⟩
    have fin : ∃ t E', ev (fun k => f34 k (nI a) (nI b) s1) t ∧ MH t n E' (lk0 lk a b) ∧ mz s1 t := by
      by_cases eL : L = []
      · refine ⟨s1, E, ev_0 fun k => ?_, hM'.over agr0 hP (z1.2.2.1 0 (by decide)) (z1.1 24 (by decide)) (z1.1 25 (by decide)) (z1.1 26 (by decide)) (z1.1 27 (by decide)) (z1.2.1 28 (by decide)) (z1.2.2.1 2 (by decide)) (z1.2.2.1 3 (by decide)) l1 (fun x y k => m5 x y k.1) (fun x y _ => Or.inr fun z w q _ => absurd q (flat_no (fl1 eL) c5)), sm.refl s1⟩
        show f34 k (nI a) (nI b) s1 = some s1
        unfold f34 f46
        rw [f2, eL]
        rfl
      · have hC : CX s1 n E := by
          refine ⟨hP, by rw [z1.2.2.1 0 (by decide)]; exact c2, c3, by rw [X1, Y1]; exact c4, by rw [X1, Y1]; exact c5, ?_⟩
          unfold TH
          rw [X1, Y1, z1.1 24 (by decide)]
          exact c6
        have hS : SU s1 [] := m2.same (z1.1 27 (by decide)) (z1.2.1 28 (by decide)) (z1.2.2.1 3 (by decide))
        obtain ⟨s2, l2, e2, S2, z2, mm2, _⟩ := f55_ev hS (show a < 40 by omega) (show b < 40 by omega) nab
        have hC2 : CX s2 n E := hC.same z2.z (z2.1 24 (by decide))
        obtain ⟨t, E', q1, q2, q3⟩ := f57_ev (lk := lk0 lk a b) hC2 S2 ⟨l1.1, fun x y hx hy => by rw [z2.z.l]; exact l1.2 x y hx hy⟩ (fun x y k => m5 x y k.1) (fun x y k1 k2 => by
          rw [z2.z.X, z2.z.Y, X1, Y1] at k2
          rw [mm2]
          right
          by_cases o1 : x = a ∧ y = b
          · rw [o1.1, o1.2]
          · by_cases o2 : x = b ∧ y = a
            · rw [o2.1, o2.2, cd_comm]
            · exact absurd (m6 x y fun q => k1 ⟨q, o1, o2⟩) k2)
        refine ⟨t, E', evm q1 fun k hk => ?_, q2, z2.z.trans q3⟩
        show f34 k (nI a) (nI b) s1 = some t
        unfold f34 f46
        simp only [Option.bind_some]
        have hlen : 0 < L.length := by
          cases L with
          | nil => exact absurd rfl eL
          | cons c L => simp
        rw [f2, if_neg (nI_nle hlen (by omega)), e2]
        simp only [Option.bind_some]
        rw [hk]; rfl
    obtain ⟨t, E', q1, q2, q3⟩ := fin
    refine ⟨t, E', evm q1 fun k hk => ?_, ⟨q2, by rw [q3.2.2.1 1 (by decide)]; exact n1⟩, (z1.mono (by decide) (by decide) (by decide) (by decide)).trans (q3.mono (by decide) (by decide) (by decide) (by decide))⟩
    show f103 k (nI a) (nI b) s = _
    rw [base, hbit.mpr hl, if_pos (by decide), e1]
    simp only [Option.bind_some]
    rw [hk]; rfl
theorem r168_ev (v : Int64) : ∀ d i s, i + d = 40 → ∃ t, ev (fun k => r168_22 k v (nI i) (nI 40) s) t ∧ sm [] [22] [] [] s t ∧ (∀ j, i ≤ j → j < 40 → t.2.1 22 j = v) ∧ (∀ j, j < i → t.2.1 22 j = s.2.1 22 j) := by
  intro d
  induction d with
  | zero =>
    intro i s hi
    refine ⟨s, ev_c fun k => ?_, sm.refl s, fun j h1 h2 => by omega, fun _ _ => rfl⟩
    simp only [r168_22]
    rw [if_pos ((nI_leI (by omega) (by omega)).mpr (by omega))]
  | succ d ih =>
    intro i s hi
    obtain ⟨t, q1, q2, q3, q4⟩ := ih (i + 1) (uJ 22 (vp_updL (s.2.1 22) i v) s) (by omega)
    have e : (uJ 22 (vp_updL (s.2.1 22) i v) s).2.1 22 = vp_updL (s.2.1 22) i v := uJ_at 22 _ s
    refine ⟨t, ev1 q1 fun k hk => ?_, (sm_J (by decide) _ s).trans q2, fun j h1 h2 => ?_, fun j h => ?_⟩
    · show r168_22 (k + 1) _ _ _ _ = _
      simp only [r168_22]
      rw [if_neg (fun q => by have := (nI_leI (by omega) (by omega)).mp q; omega), rdI_nI (by omega) (by decide), nI_clamp (by omega), nI_inc]
      exact hk
    · by_cases ej : j = i
      · rw [ej, q4 i (by omega), e]
        unfold vp_updL
        rw [if_pos rfl]
      · exact q3 j (by omega) h2
    · rw [q4 j (by omega), e]
      unfold vp_updL
      rw [if_neg (by omega)]
theorem r167_ev (v : Int32) : ∀ d i s, i + d = 1600 → ∃ t, ev (fun k => r167_24 k v (nI i) (nI 1600) s) t ∧ sm [24] [] [] [] s t ∧ (∀ j, i ≤ j → j < 1600 → t.1 24 j = v) ∧ (∀ j, j < i → t.1 24 j = s.1 24 j) := by
  intro d
  induction d with
  | zero =>
    intro i s hi
    refine ⟨s, ev_c fun k => ?_, sm.refl s, fun j h1 h2 => by omega, fun _ _ => rfl⟩
    simp only [r167_24]
    rw [if_pos ((nI_leI (by omega) (by omega)).mpr (by omega))]
  | succ d ih =>
    intro i s hi
    obtain ⟨t, q1, q2, q3, q4⟩ := ih (i + 1) (uA 24 (upd (s.1 24) i v) s) (by omega)
    have e : (uA 24 (upd (s.1 24) i v) s).1 24 = upd (s.1 24) i v := uA_at 24 _ s
    refine ⟨t, ev1 q1 fun k hk => ?_, (sm_A (by decide) _ s).trans q2, fun j h1 h2 => ?_, fun j h => ?_⟩
    · show r167_24 (k + 1) _ _ _ _ = _
      simp only [r167_24]
      rw [if_neg (fun q => by have := (nI_leI (by omega) (by omega)).mp q; omega), rdI_nI (by omega) (by decide), nI_clamp (by omega), nI_inc]
      exact hk
    · by_cases ej : j = i
      · rw [ej, q4 i (by omega), e]
        unfold upd
        rw [if_pos rfl]
      · exact q3 j (by omega) h2
    · rw [q4 j (by omega), e]
      unfold upd
      rw [if_neg (by omega)]
def noE (_ _ : Nat) : Prop := False
theorem f92_ev {s : mS} {n : Nat} {E lk : Nat → Nat → Prop} (h : CL s n E lk) : ∃ t, ev (fun k => f92 k s) (nI n, t) ∧ CL t 0 noE noE ∧ sm [24] [22] [0, 1, 2] [] s t := by
  obtain ⟨hM, hF1⟩ := h
  obtain ⟨⟨c1, c2, c3, c4, c5, c6⟩, m2, ⟨L, m3, m3'⟩, m4, m5, m6⟩ := hM
  let s1 := uF 0 0 s
  obtain ⟨s2, p1, p2, p3, _⟩ := r168_ev 0 40 0 s1 (by omega)
  let s3 := uF 1 0 s2
  obtain ⟨s4, q1, q2, q3, _⟩ := r167_ev (-1) 1600 0 s3 (by omega)
  let s5 := uF 2 0 s4
  have z : sm [24] [22] [0, 1, 2] [] s s5 := by
    refine sm.trans (sm_F (by decide) 0 s : sm [24] [22] [0, 1, 2] [] s s1) ?_
    refine sm.trans (p2.mono (by decide) (by decide) (by decide) (by decide) : sm [24] [22] [0, 1, 2] [] s1 s2) ?_
    refine sm.trans (sm_F (by decide) 0 s2 : sm [24] [22] [0, 1, 2] [] s2 s3) ?_
    refine sm.trans (q2.mono (by decide) (by decide) (by decide) (by decide) : sm [24] [22] [0, 1, 2] [] s3 s4) ?_
    exact sm_F (by decide) 0 s4
  have X5 : Xc s5 = Xc s := funext fun j => by unfold Xc; rw [z.1 18 (by decide)]
  have Y5 : Yc s5 = Yc s := funext fun j => by unfold Yc; rw [z.1 19 (by decide)]
  have J22 : ∀ x, x < 40 → s5.2.1 22 x = 0 := fun x hx => by
    have e : s5.2.1 22 = s2.2.1 22 := by
      show s4.2.1 22 = s2.2.1 22
      rw [q2.2.1 22 (by decide)]
      rfl
    rw [e]; exact p3 x (by omega) hx
  have noT : ∀ {x y z : Nat}, ¬ Tr (Xc s5) (Yc s5) 0 noE x y z := fun k => k.1
  have f0 : s5.2.2.1 0 = nI 0 := by
    show s4.2.2.1 0 = nI 0
    rw [q2.2.2.1 0 (by decide)]
    show s2.2.2.1 0 = nI 0
    rw [p2.2.2.1 0 (by decide)]
    exact uF_at 0 0 s
  have f1 : s5.2.2.1 1 = 0 := by
    show s4.2.2.1 1 = 0
    rw [q2.2.2.1 1 (by decide)]
    exact uF_at 1 0 s2
  refine ⟨s5, evm2 p1 q1 fun k hk1 hk2 => ?_, ⟨⟨⟨fun j hj => by rw [X5, Y5]; exact c1 j hj, f0, by omega, fun i j hi => by omega, ⟨fun a b k => k.elim, fun a b k => k.elim, fun a b c d k => k.elim, fun a b ha => by omega⟩, fun x y hx hy => ⟨fun z k => absurd k noT, fun _ => ?_⟩⟩, m2.same (z.1 27 (by decide)) (z.2.1 28 (by decide)) (z.2.2.1 3 (by decide)), ⟨[], ⟨List.Pairwise.nil, fun c => ⟨fun k => absurd k List.not_mem_nil, fun ⟨_, w, k, _⟩ => absurd k noT⟩⟩, uF_at 2 0 s4, fun i c z k => by simp at k⟩, ⟨fun x y k => k.elim, fun x y hx hy => ?_⟩, fun x y k => k.elim, fun x y _ z w k => absurd k noT⟩, ?_⟩, z⟩
  · show f92 k s = _
    unfold f92 f67 f36 f45
    rw [f66_eq c2]
    simp only [Option.bind_some, pt]
    have hk1 : f168_22 k 0 s1 = some s2 := hk1
    have hk2 : f167_24 k (-1) s3 = some s4 := hk2
    show ((f168_22 k 0 s1).bind fun q1 => some (uF 1 0 q1)).bind _ = _
    rw [hk1]
    simp only [Option.bind_some]
    show ((f167_24 k (-1) s3).bind fun q1 => some (uF 2 0 q1)).bind _ = _
    rw [hk2]
    rfl
  · show s4.1 24 (40 * x + y) = -1
    exact q3 _ (by omega) (by omega)
  · rw [J22 x hx]
    have : bL 0 y = false := by unfold bL; simp
    rw [this]
    exact ⟨fun k => (by cases k), fun k => False.elim k⟩
  · rw [f1]
    have : nlk noE = 0 := by
      unfold nlk
      have := cnt_le (P := fun z : Nat × Nat => noE z.1 z.2 ∧ z.2 < z.1) (Q := fun _ => False) (prs 40) (fun z _ k => k.1)
      have e : cntP (prs 40) (fun _ => False) = 0 := by
        unfold cntP
        rw [List.length_eq_zero_iff, List.filter_eq_nil_iff]
        intro a _ q
        exact @of_decide_eq_true False (Classical.propDecidable _) q
      omega
    rw [this]; rfl
