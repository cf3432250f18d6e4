/-! M2: all triangles get their numbers; the mesh settles -/
theorem NL_ext {X Y : Nat → Int} {n u u' : Nat} {E : Nat → Nat → Prop} {L : List Nat} (h : NL X Y n E u L) (hu : u ≤ u') (hno : ∀ c, u ≤ c → c < u' → ¬ lst X Y n E ik (c / 40) (c % 40)) : NL X Y n E u' L := by
  refine ⟨h.1, fun c => ⟨fun hc => ?_, fun ⟨h1, h2⟩ => ?_⟩⟩
  · have := (h.2 c).mp hc
    exact ⟨by omega, this.2⟩
  · refine (h.2 c).mpr ⟨Decidable.byContradiction fun k => hno c (by omega) h1 h2, h2⟩
theorem lst_lt {X Y : Nat → Int} {n a b : Nat} {E : Nat → Nat → Prop} (hM : Mx X Y n E) (h : lst X Y n E ik a b) : a < b ∧ b < n := by
  obtain ⟨w, hw, h1, _⟩ := h
  have := hw.lt hM
  unfold ik at h1
  omega
theorem CX.nf {s t : mS} {n : Nat} {E : Nat → Nat → Prop} (h : CX s n E) (hz : nf s t) : CX t n E := h.same hz.z (hz.1 24 (by decide))
theorem r60_ev {n : Nat} {E : Nat → Nat → Prop} : ∀ d a, a + d = n → ∀ s L, CX s n E → NL (Xc s) (Yc s) n E (40 * a) L → NMi s n E L → ∃ t L', ev (fun k => r60 k 0 (nI a) 0 s) t ∧ nf s t ∧ NL (Xc s) (Yc s) n E 1600 L' ∧ NMi t n E L' := by
  intro d
  induction d with
  | zero =>
    intro a ha s L hC hL hN
    obtain ⟨h1, h2, h3, h4, h5, h6⟩ := hC
    refine ⟨s, L, ev_c fun k => ?_, sm.refl s, NL_ext hL (by omega) (fun c k1 k2 k3 => ?_), hN⟩
    · simp only [r60]
      rw [if_pos trivial, f66_eq h2]
      show (if _ then _ else _) = _
      rw [if_pos ((nI_leI (by omega) (by omega)).mpr (by omega))]
    · have := lst_lt h5 k3
      omega
  | succ d ih =>
    intro a ha s L hC hL hN
    have inner : ∀ e b, b + e = n → a < b → ∀ s L, CX s n E → NL (Xc s) (Yc s) n E (40 * a + b) L → NMi s n E L → ∃ t L', ev (fun k => r60 k 1 (nI a) (nI b) s) t ∧ nf s t ∧ NL (Xc s) (Yc s) n E 1600 L' ∧ NMi t n E L' := by
      intro e
      induction e with
      | zero =>
        intro b hb hab s L hC hL hN
        have hC' := hC
        obtain ⟨h1, h2, h3, h4, h5, h6⟩ := hC
        obtain ⟨t, L', g1, g2, g3, g4⟩ := ih (a + 1) (by omega) s L hC' (NL_ext hL (by omega) (fun c k1 k2 k3 => by have := lst_lt h5 k3; omega)) hN
        refine ⟨t, L', ev1 g1 fun k hk => ?_, g2, g3, g4⟩
        show r60 (k + 1) _ _ _ _ = _
        simp only [r60]
        rw [if_neg (by decide), f66_eq h2]
        show (if _ then _ else _) = _
        rw [if_pos ((nI_leI (by omega) (by omega)).mpr (by omega)), nI_inc]
        exact hk
      | succ e ihe =>
        intro b hb hab s L hC hL hN
        have hC' := hC
        obtain ⟨h1, h2, h3, h4, h5, h6⟩ := hC
        have base : ∀ k, r60 (k + 1) 1 (nI a) (nI b) s = if s.1 24 (40 * a + b) ≤ nI a then r60 k 1 (nI a) (nI (b + 1)) s else (f61 (nI a) (nI b) (s.1 24 (40 * a + b)) s).bind fun q9 => r60 k 1 (nI a) (nI (b + 1)) q9 := by
          intro k
          simp only [r60]
          rw [if_neg (by decide), f66_eq h2]
          show (if _ then _ else _) = _
          rw [if_neg (fun h => by have := (nI_leI (by omega) (by omega)).mp h; omega), f54_eq (by omega) (by omega), nI_inc]
          rfl
        by_cases hl : lst (Xc s) (Yc s) n E ik a b
        · have hl2 := hl
          obtain ⟨z, hz, q1, q2⟩ := hl2
          have lz := hz.lt h5
          unfold ik at q1 q2
          have ez := (h6 a b (by omega) (by omega)).1 z hz
          have hmem : 40 * a + b ∉ L := fun h => by have := ((hL.2 _).mp h).1; omega
          have hL2 : NL (Xc s) (Yc s) n E (40 * a + (b + 1)) (L ++ [40 * a + b]) := by
            refine ⟨List.pairwise_append.mpr ⟨hL.1, List.pairwise_singleton _ _, fun x hx y hy => ?_⟩, fun c => ?_⟩
            · have := ((hL.2 x).mp hx).1
              have := List.mem_singleton.mp hy
              omega
            · rw [List.mem_append, List.mem_singleton, hL.2 c]
              constructor
              · rintro (⟨k1, k2⟩ | k)
                · exact ⟨by omega, k2⟩
                · rw [k]
                  refine ⟨by omega, ?_⟩
                  rw [show (40 * a + b) / 40 = a by omega, show (40 * a + b) % 40 = b by omega]
                  exact hl
              · intro ⟨k1, k2⟩
                by_cases ec : c = 40 * a + b
                · exact Or.inr ec
                · exact Or.inl ⟨by omega, k2⟩
          have len := NL_75 h4 (h1.Bd h3) h3 h5 hL2
          rw [List.length_append] at len
          have len2 : L.length < 75 := by simp at len; omega
          obtain ⟨t, e1, z1, N1⟩ := f61_ev hC' hL hN (Nat.le_refl _) hz (by omega) (by omega) len2
          have hC1 := hC'.nf z1
          obtain ⟨t2, L2, g1, g2, g3, g4⟩ := ihe (b + 1) (by omega) (by omega) t (L ++ [40 * a + b]) hC1 (by rw [z1.z.X, z1.z.Y]; exact hL2) N1
          rw [z1.z.X, z1.z.Y] at g3
          refine ⟨t2, L2, ev1 g1 fun k hk => ?_, z1.trans g2, g3, g4⟩
          show r60 (k + 1) _ _ _ _ = _
          rw [base, ez, if_neg (fun h => by have := (nI_leI (by omega) (by omega)).mp h; omega), e1]
          exact hk
        · obtain ⟨t2, L2, g1, g2, g3, g4⟩ := ihe (b + 1) (by omega) (by omega) s L hC' (NL_ext hL (by omega) (fun c k1 k2 k3 => hl (by
            have ec : c = 40 * a + b := by omega
            rw [ec, show (40 * a + b) / 40 = a by omega, show (40 * a + b) % 40 = b by omega] at k3
            exact k3))) hN
          refine ⟨t2, L2, ev1 g1 fun k hk => ?_, g2, g3, g4⟩
          show r60 (k + 1) _ _ _ _ = _
          rw [base, if_pos]
          · exact hk
          · by_cases hT : hasT (Xc s) (Yc s) n E a b
            · obtain ⟨z, hz⟩ := hT
              have lz := hz.lt h5
              rw [(h6 a b (by omega) (by omega)).1 z hz]
              refine (nI_leI (by omega) (by omega)).mpr (Decidable.byContradiction fun k => hl ⟨z, hz, ?_, ?_⟩) <;> unfold ik <;> omega
            · rw [(h6 a b (by omega) (by omega)).2 hT, Int32.le_iff_toInt_le, nI_toInt (by omega)]
              have : (-1 : Int32).toInt = -1 := by decide
              omega
    have hC' := hC
    obtain ⟨h1, h2, h3, h4, h5, h6⟩ := hC
    obtain ⟨t, L', g1, g2, g3, g4⟩ := inner (n - (a + 1)) (a + 1) (by omega) (by omega) s L hC' (NL_ext hL (by omega) (fun c k1 k2 k3 => by have := lst_lt h5 k3; omega)) hN
    refine ⟨t, L', ev1 g1 fun k hk => ?_, g2, g3, g4⟩
    show r60 (k + 1) _ _ _ _ = _
    simp only [r60]
    rw [if_pos trivial, f66_eq h2]
    show (if _ then _ else _) = _
    rw [if_neg (fun h => by have := (nI_leI (by omega) (by omega)).mp h; omega), nI_1]
    exact hk
/-- the triangles are numbered -/
def NM (s : mS) (n : Nat) (E : Nat → Nat → Prop) : Prop := ∃ L, NL (Xc s) (Yc s) n E 1600 L ∧ NMi s n E L
theorem f60_ev {s : mS} {n : Nat} {E : Nat → Nat → Prop} (h : CX s n E) : ∃ t, ev (fun k => f60 k s) t ∧ nf s t ∧ NM t n E := by
  have z0 : nf s (uF 2 0 s) := sm_F (by decide) _ s
  obtain ⟨t, L, g1, g2, g3, g4⟩ := r60_ev n 0 (by omega) (uF 2 0 s) [] (h.nf z0) ⟨List.Pairwise.nil, fun c => ⟨fun hc => absurd hc List.not_mem_nil, fun hc => by omega⟩⟩ ⟨uF_at 2 0 s, fun i c z hi => by simp at hi⟩
  have zt : nf s t := z0.trans g2
  refine ⟨t, g1, zt, L, ?_, g4⟩
  rw [zt.z.X, zt.z.Y]
  exact g3
theorem nI_div {c : Nat} (hc : c < 2 ^ 31) : nI c / 40 = nI (c / 40) := by
  apply Int32.toInt_inj.mp
  have e : (40 : Int32).toInt = 40 := by decide
  rw [Int32.toInt_div, nI_toInt hc, nI_toInt (by omega), e, Int.tdiv_eq_ediv_of_nonneg (by omega)]
  rw [bm32 (by omega) (by omega)]
  omega
theorem nI_md {c : Nat} (hc : c < 2 ^ 31) : nI c - nI c / 40 * 40 = nI (c % 40) := by
  rw [nI_div hc]
  apply Int32.toInt_inj.mp
  rw [show (40 : Int32) = nI 40 from rfl, nI_mul]
  rw [i32s (by rw [nI_toInt hc, nI_toInt (by omega)]; omega) (by rw [nI_toInt hc, nI_toInt (by omega)]; omega), nI_toInt hc, nI_toInt (by omega), nI_toInt (by omega)]
  omega
/-- x, y bends down, or is no edge of two triangles -/
def bnd (X Y : Nat → Int) (n : Nat) (E : Nat → Nat → Prop) (x y : Nat) : Prop := ∀ z w, Tr X Y n E x y z → Tr X Y n E y x w → GH X Y (Ht X Y) x y z w < 0
theorem bnd_sym {X Y : Nat → Int} {n x y : Nat} {E : Nat → Nat → Prop} (h : bnd X Y n E x y) : bnd X Y n E y x := fun z w h1 h2 => by
  have := h w z h2 h1
  rw [GH_s, GH_t]
  omega
/-- every edge that does not bend down and is no link is among the suspects -/
def BS (X Y : Nat → Int) (n : Nat) (E lk : Nat → Nat → Prop) (l : List Nat) : Prop := ∀ x y, ¬ lk x y → ¬ bnd X Y n E x y → cd x y ∈ l
/-- the links as the class has them -/
def LKc (s : mS) (lk : Nat → Nat → Prop) : Prop := (∀ x y, lk x y → lk y x) ∧ ∀ x y, x < 40 → y < 40 → (bL (s.2.1 22 x) y = true ↔ lk x y)
theorem bnd_lt {X Y : Nat → Int} {n x y : Nat} {E : Nat → Nat → Prop} (hM : Mx X Y n E) (h : ¬ bnd X Y n E x y) : x < n ∧ y < n ∧ x ≠ y := by
  refine Classical.byContradiction fun k => h fun z w h1 h2 => ?_
  exact absurd ⟨(h1.lt hM).1, (h1.lt hM).2.1, h1.ne.1⟩ k
theorem settle {n : Nat} {lk : Nat → Nat → Prop} : ∀ m v s E l, CX s n E → SU s l → LKc s lk → BS (Xc s) (Yc s) n E lk l → l.length + 5 * lwn (Xc s) (Yc s) (Ht (Xc s) (Yc s)) n E ≤ m → v + m ≤ 900000 →
    ∃ t E', ev (fun k => r57 k (nI v) s) t ∧ CX t n E' ∧ SU t [] ∧ NM t n E' ∧ mz s t ∧ (∀ x y, ¬ lk x y → bnd (Xc s) (Yc s) n E' x y) ∧ (∀ x y, lk x y → E x y → E' x y) := by
  intro m
  induction m with
  | zero =>
    intro v s E l hC hS hlk hB hm hv
    obtain ⟨t, g1, g2, g3⟩ := f60_ev hC
    have hl : l = [] := List.length_eq_zero_iff.mp (by omega)
    subst hl
    refine ⟨t, E, ev1 g1 fun k hk => ?_, hC.nf g2, hS.same (g2.1 27 (by decide)) (g2.2.1 28 (by decide)) (g2.2.2.1 3 (by decide)), g3, g2.z, fun x y h => Classical.byContradiction fun k => absurd (hB x y h k) List.not_mem_nil, fun x y _ h => h⟩
    show r57 (k + 1) _ _ = _
    simp only [r57]
    rw [show (1000000 : Int32) = nI 1000000 from rfl, if_neg (fun h => by have := (nI_leI (by decide) (by omega)).mp h; omega), hS.1, if_pos (by decide)]
    rw [hk]; rfl
  | succ m ih =>
    intro v s E l hC hS hlk hB hm hv
    cases l with
    | nil =>
      obtain ⟨t, g1, g2, g3⟩ := f60_ev hC
      refine ⟨t, E, ev1 g1 fun k hk => ?_, hC.nf g2, hS.same (g2.1 27 (by decide)) (g2.2.1 28 (by decide)) (g2.2.2.1 3 (by decide)), g3, g2.z, fun x y h => Classical.byContradiction fun k => absurd (hB x y h k) List.not_mem_nil, fun x y _ h => h⟩
      show r57 (k + 1) _ _ = _
      simp only [r57]
      rw [show (1000000 : Int32) = nI 1000000 from rfl, if_neg (fun h => by have := (nI_leI (by decide) (by omega)).mp h; omega), hS.1, if_pos (by decide)]
      rw [hk]; rfl
    | cons c l =>
      have hC' := hC
      obtain ⟨h1, h2, h3, h4, h5, h6⟩ := hC
      obtain ⟨hS1, ⟨hS2, hS3⟩, hS4, hS5, hS6⟩ := id hS
      have hlen := hS.len
      rw [List.length_cons] at hS1 hlen hm
      have hc := hS5 c List.mem_cons_self
      obtain ⟨c1, c2⟩ := hc
      have hnd := List.nodup_cons.mp hS4
      let a := c / 40
      let b := c % 40
      have ea : a = c / 40 := rfl
      have eb : b = c % 40 := rfl
      have ha : a < 40 := by omega
      have hb : b < 40 := by omega
      have hab : a < b := by omega
      have ecd : cd a b = c := by unfold cd; omega
      let s7 := uF 3 (nI l.length) s
      let s13 := uJ 28 (vp_updL (s.2.1 28) a ((s.2.1 28 a) &&& (((1 : Int64) <<< ((nI b).toInt64 &&& 63)) ^^^ (-1 : Int64)))) s7
      have z13 : sm [] [28] [3] [] s s13 := (sm_F (by decide) _ s).trans (sm_J (by decide) _ _)
      have z13z : mz s s13 := z13.mono (by decide) (by decide) (by decide) (by decide)
      have hC13 : CX s13 n E := hC'.same z13z rfl
      have hS13 : SU s13 l := by
        refine ⟨uF_at 3 _ s, hS3, hnd.2, fun c hc => hS5 c (List.mem_cons_of_mem _ hc), fun x y hx hy => ?_⟩
        have e28 : s13.2.1 28 = vp_updL (s.2.1 28) a ((s.2.1 28 a) &&& (((1 : Int64) <<< ((nI b).toInt64 &&& 63)) ^^^ (-1 : Int64))) := uJ_at 28 _ s7
        rw [e28]
        unfold vp_updL
        have hxy := hS6 x y hx hy
        rw [List.mem_cons] at hxy
        by_cases e : x = a
        · rw [if_pos e, bL_clr _ (by omega) (by omega), ← e, Bool.and_eq_true, hxy]
          by_cases ey : b = y
          · have : 40 * x + y = c := by omega
            rw [this, decide_eq_true ey]
            simp only [Bool.not_true, Bool.false_eq_true, and_false, false_iff]
            exact fun h => hnd.1 h.2
          · have : ¬ 40 * x + y = c := by omega
            rw [decide_eq_false ey]
            simp only [this, false_or, Bool.not_false, and_true]
        · have : ¬ 40 * x + y = c := by omega
          rw [if_neg e, hxy]
          simp only [this, false_or]
      have base : ∀ k, r57 (k + 1) (nI v) s = (f39 (nI a) (nI b) s13).bind fun q15 => (if (¬ q15 = (0 : Int32)) then r57 k (nI (v + 1)) s13 else (f58 (nI a) (nI b) s13).bind fun q18 => (if (¬ q18.1 = (0 : Int32)) then r57 k (nI (v + 1)) q18.2 else (f59 (nI a) (nI b) q18.2).bind fun q21 => r57 k (nI (v + 1)) q21)) := by
        intro k
        simp only [r57]
        rw [show (1000000 : Int32) = nI 1000000 from rfl, if_neg (fun h => by have := (nI_leI (by decide) (by omega)).mp h; omega), hS1, if_neg (nI_nle (by omega) (by omega)), nI_pred, nI_inc]
        have e3 : s7.2.2.1 3 = nI l.length := uF_at 3 _ s
        have e27 : s7.1 27 l.length = nI c := hS2
        show rdI 800 (s7.2.2.1 3) (rdI 800 (s7.2.2.1 3) (rdI 40 ((s7.1 27 (Int32.toNatClampNeg (s7.2.2.1 3))) / (40 : Int32)) _)) = _
        simp only [pt]
        rw [e3, rdI_nI (show l.length < 800 by omega) (by decide), rdI_nI (show l.length < 800 by omega) (by decide), nI_clamp (by omega), e27, nI_md (by omega), nI_div (by omega), rdI_nI (show c / 40 < 40 by omega) (by decide), rdI_nI (show c / 40 < 40 by omega) (by decide), nI_clamp (by omega)]
        rfl
      have hlk13 : LKc s13 lk := ⟨hlk.1, fun x y hx hy => hlk.2 x y hx hy⟩
      have q39 : f39 (nI a) (nI b) s13 = some (bI (bL (s.2.1 22 a) b)) := f39_eq ha hb s13
      by_cases hL : lk a b
      · have hbit := (hlk.2 a b ha hb).mpr hL
        obtain ⟨t, E', g1, g2, g3, g4, g5, g6, g7⟩ := ih (v + 1) s13 E l hC13 hS13 hlk13 (fun x y k1 k2 => by
          have k2 : ¬ bnd (Xc s) (Yc s) n E x y := k2
          have hx := bnd_lt h5 k2
          rcases List.mem_cons.mp (hB x y k1 k2) with k | k
          · exfalso
            rw [← ecd] at k
            rcases (cd_eq (by omega) (by omega) ha hb).mp k with ⟨e1, e2⟩ | ⟨e1, e2⟩
            · rw [e1, e2] at k1; exact k1 hL
            · rw [e1, e2] at k1; exact k1 (hlk.1 a b hL)
          · exact k) (by show l.length + 5 * lwn (Xc s) (Yc s) (Ht (Xc s) (Yc s)) n E ≤ m; omega) (by omega)
        refine ⟨t, E', ev1 g1 fun k hk => ?_, g2, g3, g4, z13z.trans g5, g6, g7⟩
        show r57 (k + 1) _ _ = _
        rw [base, q39, hbit]
        exact hk
      · have hbit : bL (s.2.1 22 a) b = false := by
          cases q : bL (s.2.1 22 a) b with
          | false => rfl
          | true => exact absurd ((hlk.2 a b ha hb).mp q) hL
        obtain ⟨g, t58, e58, z58, gt, gf⟩ := f58_ev hC13 ha hb
        have hC58 := hC13.same z58.z (z58.1 24 (by decide))
        have hS58 : SU t58 l := hS13.same (z58.1 27 (by decide)) (z58.2.1 28 (by decide)) (z58.2.2.1 3 (by decide))
        have zs58 : mz s t58 := z13z.trans z58.z
        have hlk58 : LKc t58 lk := ⟨hlk.1, fun x y hx hy => by rw [zs58.l]; exact hlk.2 x y hx hy⟩
        cases g with
        | true =>
          have gt' : ∀ c d, Tr (Xc s) (Yc s) n E a b c → Tr (Xc s) (Yc s) n E b a d → gd (Xc s) (Yc s) a b c d := gt rfl
          have hbn : bnd (Xc s) (Yc s) n E a b := fun z w k1 k2 => by
            have l1 := k1.lt h5
            have l2 := k2.lt h5
            exact (gd_iff (h1.Bd h3) h3 l1.1 l1.2.1 l1.2.2 l2.2.2 k1.2.2.2.1 k2.2.2.2.1).1 (gt' z w k1 k2)
          obtain ⟨t, E', g1, g2, g3, g4, g5, g6, g7⟩ := ih (v + 1) t58 E l hC58 hS58 hlk58 (by
            rw [zs58.X, zs58.Y]
            intro x y k1 k2
            have hx := bnd_lt h5 k2
            rcases List.mem_cons.mp (hB x y k1 k2) with k | k
            · exfalso
              rw [← ecd] at k
              rcases (cd_eq (by omega) (by omega) ha hb).mp k with ⟨e1, e2⟩ | ⟨e1, e2⟩
              · rw [e1, e2] at k2; exact k2 hbn
              · rw [e1, e2] at k2; exact k2 (bnd_sym hbn)
            · exact k) (by rw [zs58.X, zs58.Y]; omega) (by omega)
          rw [zs58.X, zs58.Y] at g6
          refine ⟨t, E', ev1 g1 fun k hk => ?_, g2, g3, g4, zs58.trans g5, g6, g7⟩
          show r57 (k + 1) _ _ = _
          rw [base, q39, hbit, e58]
          exact hk
        | false =>
          obtain ⟨z, w, k1, k2, k3⟩ := gf rfl
          have k1 : Tr (Xc s) (Yc s) n E a b z := k1
          have k2 : Tr (Xc s) (Yc s) n E b a w := k2
          have k3 : ¬ gd (Xc s) (Yc s) a b z w := k3
          have l1 := k1.lt h5
          have l2 := k2.lt h5
          obtain ⟨hG, v1, v2⟩ := (gd_iff (h1.Bd h3) h3 l1.1 l1.2.1 l1.2.2 l2.2.2 k1.2.2.2.1 k2.2.2.2.1).2 k3
          have hF : FL (Xc s) (Yc s) n E a b z w := ⟨k1, k2, v1, v2⟩
          obtain ⟨t59, l', e59, C59, S59, z59, m59, n59⟩ := f59_ev hC58 hS58 (by rw [zs58.X, zs58.Y]; exact hF)
          have z59z : mz t58 t59 := z59.mono (by decide) (by decide) (by decide) (by decide)
          have zs59 : mz s t59 := zs58.trans z59z
          have hlw := lwn_flip h5 hF hG
          obtain ⟨t, E', g1, g2, g3, g4, g5, g6, g7⟩ := ih (v + 1) t59 (fl E a b z w) l' C59 S59 ⟨hlk.1, fun x y hx hy => by rw [zs59.l]; exact hlk.2 x y hx hy⟩ (by
            rw [zs59.X, zs59.Y]
            intro x y j1 j2
            rw [m59]
            by_cases o1 : cd x y = cd a w
            · exact Or.inr (Or.inl o1)
            by_cases o2 : cd x y = cd w b
            · exact Or.inr (Or.inr (Or.inl o2))
            by_cases o3 : cd x y = cd b z
            · exact Or.inr (Or.inr (Or.inr (Or.inl o3)))
            by_cases o4 : cd x y = cd z a
            · exact Or.inr (Or.inr (Or.inr (Or.inr o4)))
            left
            have hM2 := fl_Mx h4 h5 hF
            have hx := bnd_lt hM2 j2
            have nb : ¬ bnd (Xc s) (Yc s) n E x y := fun q => j2 (bend_flip h4 h5 hF hG q (fun e => o1 ((cd_eq (by omega) (by omega) ha (by omega)).mpr e)) (fun e => o2 ((cd_eq (by omega) (by omega) (by omega) hb).mpr e)) (fun e => o3 ((cd_eq (by omega) (by omega) hb (by omega)).mpr e)) (fun e => o4 ((cd_eq (by omega) (by omega) (by omega) ha).mpr e)))
            rcases List.mem_cons.mp (hB x y j1 nb) with k | k
            · exfalso
              rw [← ecd] at k
              have no := fl_no (z := 0) hF
              rcases (cd_eq (by omega) (by omega) ha hb).mp k with ⟨e1, e2⟩ | ⟨e1, e2⟩
              · exact j2 fun u u' q _ => by rw [e1, e2] at q; exact absurd q (fl_no hF).1
              · exact j2 fun u u' q _ => by rw [e1, e2] at q; exact absurd q (fl_no hF).2
            · exact k) (by rw [zs59.X, zs59.Y]; omega) (by omega)
          rw [zs59.X, zs59.Y] at g6
          refine ⟨t, E', ev1 g1 fun k hk => ?_, g2, g3, g4, zs59.trans g5, g6, fun x y q1 q2 => g7 x y q1 (Or.inl ⟨q2, fun e => ?_, fun e => ?_⟩)⟩
          · show r57 (k + 1) _ _ = _
            rw [base, q39, hbit, e58]
            show (f59 (nI a) (nI b) t58).bind _ = _
            rw [e59]
            exact hk
          · rw [e.1, e.2] at q1; exact hL q1
          · rw [e.1, e.2] at q1; exact hL (hlk.1 b a q1)
