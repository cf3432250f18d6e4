/-! M2: the reference's mesh is the class's -/
theorem f129_ev {s : mS} {n : Nat} (hP : PM s) (hn : s.2.2.1 15 = nI n) (hn4 : n ≤ 40) (hD : Dst (Xm s) (Ym s) n) : ∃ g, ev (fun k => f129 k s) (bI g) ∧ (g = true ↔ flat (Xm s) (Ym s) n) := by
  have main : ∀ d v (w : Bool), v + d = max n 2 → 2 ≤ v → (w = true ↔ ∀ c, 2 ≤ c → c < v → c < n → ar (Xm s) (Ym s) 0 1 c = 0) → ∃ g, ev (fun k => r129 k (bI w) (nI v) s) (bI g) ∧ (g = true ↔ ∀ c, 2 ≤ c → c < n → ar (Xm s) (Ym s) 0 1 c = 0) := by
    intro d
    induction d with
    | zero =>
      intro v w hv h2 hw
      refine ⟨w, ev_c fun k => ?_, ?_⟩
      · simp only [r129]
        rw [hn, if_pos ((nI_leI (by omega) (by omega)).mpr (by omega))]
        cases w <;> rfl
      · rw [hw]
        exact ⟨fun h c h1 h2 => h c h1 (by omega) h2, fun h c h1 _ h2 => h c h1 h2⟩
    | succ d ih =>
      intro v w hv h2 hw
      have hvn : v < n := by omega
      have b0 : ¬ nI n ≤ nI v := fun q => by have := (nI_leI (by omega) (by omega)).mp q; omega
      cases w with
      | false =>
        obtain ⟨g, q1, q2⟩ := ih (v + 1) false (by omega) (by omega) ⟨(fun h => by cases h), fun h => by
          have := hw.mpr fun c h1 h2 h3 => h c h1 (by omega) h3
          cases this⟩
        refine ⟨g, ev1 q1 fun k hk => ?_, q2⟩
        show r129 (k + 1) _ _ _ = _
        simp only [r129]
        rw [hn, if_neg b0, if_pos (show bI false = 0 from rfl), nI_inc]
        exact hk
      | true =>
        by_cases z : ar (Xm s) (Ym s) 0 1 v = 0
        · obtain ⟨g, q1, q2⟩ := ih (v + 1) true (by omega) (by omega) ⟨fun _ c h1 h2 h3 => by
            by_cases ec : c = v
            · rw [ec]; exact z
            · exact hw.mp rfl c h1 (by omega) h3, fun _ => rfl⟩
          refine ⟨g, ev1 q1 fun k hk => ?_, q2⟩
          show r129 (k + 1) _ _ _ = _
          simp only [r129]
          rw [hn, if_neg b0, if_neg (show ¬ bI true = 0 by decide), show (0 : Int32) = nI 0 from rfl, show (1 : Int32) = nI 1 from rfl, f119_eq hP (by omega) (by omega) (by omega), z, nI_inc]
          exact hk
        · obtain ⟨g, q1, q2⟩ := ih (v + 1) false (by omega) (by omega) ⟨(fun h => by cases h), fun h => absurd (h v h2 (by omega) hvn) z⟩
          refine ⟨g, ev1 q1 fun k hk => ?_, q2⟩
          show r129 (k + 1) _ _ _ = _
          simp only [r129]
          have z' : ¬ sgn (ar (Xm s) (Ym s) 0 1 v) = nI 0 := fun q => z (sgn_zero.mp q)
          rw [hn, if_neg b0, if_neg (show ¬ bI true = 0 by decide), show (0 : Int32) = nI 0 from rfl, show (1 : Int32) = nI 1 from rfl, f119_eq hP (by omega) (by omega) (by omega)]
          simp only [Option.bind_some]
          rw [if_pos z', nI_inc]
          exact hk
  obtain ⟨g, q1, q2⟩ := main (max n 2 - 2) 2 true (by omega) (by omega) ⟨fun _ c h1 h2 => by omega, fun _ => rfl⟩
  refine ⟨g, q1, ?_⟩
  rw [q2]
  constructor
  · intro h x y z hx hy hz
    by_cases n2 : n < 2
    · have e1 : x = y := by omega
      rw [e1, ar_xx]
    · have h01 : ∀ c, c < n → ar (Xm s) (Ym s) 0 1 c = 0 := fun c hc => by
        by_cases c0 : c = 0
        · rw [c0, ar_xyx]
        · by_cases c1 : c = 1
          · rw [c1, ar_yxx]
          · exact h c (by omega) hc
      exact col (hD.nq (show 0 < n by omega) (show 1 < n by omega) (by decide)) (h01 x hx) (h01 y hy) (h01 z hz)
  · intro h c h1 h2
    exact h 0 1 c (by omega) (by omega) h2
theorem okl_mono {X Y : Nat → Int} {n a b : Nat} {R R' : Nat → Nat → Prop} (h : ∀ x y, R x y → R' x y) (k : okl X Y n R' a b) : okl X Y n R a b := ⟨k.1, fun c d q => k.2 c d (h c d q)⟩
/-- edges that do not cross, on the way to a mesh -/
def GE (X Y : Nat → Int) (n : Nat) (E : Nat → Nat → Prop) : Prop := (∀ x y, E x y → x < n ∧ y < n ∧ x ≠ y ∧ E y x) ∧ (∀ x y, E x y → clr X Y n x y) ∧ (∀ a b c d, E a b → E c d → ¬ crs X Y a b c d)
theorem greedy_ev {n : Nat} {X Y : Nat → Int} {lk : Nat → Nat → Prop} (hn4 : n ≤ 40) (hD : Dst X Y n) (hB : Bd X Y n) (hls : ∀ x y, lk x y → lk y x) : ∀ d a, a + d = n → ∀ s E, PM s → Xm s = X → Ym s = Y → s.2.2.1 15 = nI n → s.2.2.1 17 = nI 0 → tb46 s E → tb45 s lk → GE X Y n E → (∀ x y, lk x y → E x y) → (∀ x y, y < x → x < a → E x y ∨ ¬ okl X Y n E x y) → ∃ t, ev (fun k => r128 k 1 (nI a) 0 0 0 s) t ∧ FIN s t n X Y lk := by
  intro d
  induction d with
  | zero =>
    intro a ha s E hP hX hY hn h17 hE hl hG hlE hdone
    have all : ∀ x y, x < n → y < n → x ≠ y → E x y ∨ ¬ okl X Y n E x y := by
      intro x y hx hy hxy
      rcases Nat.lt_or_gt_of_ne hxy with q | q
      · rcases hdone y x q (by omega) with k | k
        · exact Or.inl (hG.1 y x k).2.2.2
        · exact Or.inr fun w => k ⟨clr_sym w.1, fun c d h1 h2 => w.2 c d h1 (crs_s h2)⟩
      · exact hdone x y q (by omega)
    have hM : Mx X Y n E := ⟨hG.1, hG.2.1, hG.2.2, fun x y hx hy hxy hc hno => by
      rcases all x y hx hy hxy with k | k
      · exact k
      · exact absurd ⟨hc, hno⟩ k⟩
    obtain ⟨t, g1, g2⟩ := more_ev hn4 hD hB hls _ s E hP hX hY hn h17 hE hl hM hlE (Nat.le_refl _)
    refine ⟨t, ev1 g1 fun k hk => ?_, g2⟩
    show r128 (k + 1) _ _ _ _ _ _ = _
    simp only [r128]
    rw [if_neg (by decide), if_pos trivial, hn, if_pos ((nI_leI (by omega) (by omega)).mpr (by omega))]
    exact hk
  | succ d ih =>
    intro a ha s E hP hX hY hn h17 hE hl hG hlE hdone
    have row : ∀ e b, b + e = a → ∀ s E, PM s → Xm s = X → Ym s = Y → s.2.2.1 15 = nI n → s.2.2.1 17 = nI 0 → tb46 s E → tb45 s lk → GE X Y n E → (∀ x y, lk x y → E x y) → (∀ x y, y < x → (x < a ∨ (x = a ∧ y < b)) → E x y ∨ ¬ okl X Y n E x y) → ∃ t, ev (fun k => r128 k 2 (nI a) (nI b) 0 0 s) t ∧ FIN s t n X Y lk := by
      intro e
      induction e with
      | zero =>
        intro b hb s E hP hX hY hn h17 hE hl hG hlE hdone
        obtain ⟨t, g1, g2⟩ := ih (a + 1) (by omega) s E hP hX hY hn h17 hE hl hG hlE (fun x y h1 h2 => hdone x y h1 (by omega))
        refine ⟨t, ev1 g1 fun k hk => ?_, g2⟩
        show r128 (k + 1) _ _ _ _ _ _ = _
        simp only [r128]
        rw [if_neg (by decide), if_neg (by decide), if_pos trivial, if_pos ((nI_leI (by omega) (by omega)).mpr (by omega)), nI_inc]
        exact hk
      | succ e ihe =>
        intro b hb s E hP hX hY hn h17 hE hl hG hlE hdone
        have hE46 := hE.ne (show a < 40 by omega) (show b < 40 by omega)
        obtain ⟨g, g1, g2⟩ := f123_46_ev (a := a) (b := b) hP hn hn4 (by omega) (by omega) hE hG.1
        rw [hX, hY] at g2
        have base : ∀ k, r128 (k + 1) 2 (nI a) (nI b) 0 0 s = (if ¬ s.1 46 (40 * a + b) = 0 then r128 k 2 (nI a) (nI (b + 1)) 0 0 s else (f123_42_46 k (nI a) (nI b) s).bind fun q4 => (if (q4 = (0 : Int32)) then r128 k 2 (nI a) (nI (b + 1)) 0 0 s else (f130 (nI a) (nI b) (1 : Int32) s).bind fun q7 => r128 k 2 (nI a) (nI (b + 1)) 0 0 q7)) := by
          intro k
          simp only [r128]
          rw [if_neg (by decide), if_neg (by decide), if_pos trivial, if_neg (fun q => by have := (nI_leI (by omega) (by omega)).mp q; omega), idx2, rdI_nI (by omega) (by decide), nI_clamp (by omega), nI_inc]
        by_cases c1 : s.1 46 (40 * a + b) = 0
        · have nE : ¬ E a b := fun q => absurd c1 (hE46.mpr q)
          cases g with
          | false =>
            have no : ¬ okl X Y n E a b := fun q => by have := g2.mpr q; cases this
            obtain ⟨t, q1, q2⟩ := ihe (b + 1) (by omega) s E hP hX hY hn h17 hE hl hG hlE (fun x y h1 h2 => by
              by_cases q : x = a ∧ y = b
              · rw [q.1, q.2]; exact Or.inr no
              · exact hdone x y h1 (by omega))
            refine ⟨t, ev2 g1 q1 fun k hk1 hk2 => ?_, q2⟩
            show r128 (k + 1) _ _ _ _ _ _ = _
            rw [base, if_neg (fun q => q c1), hk1]
            exact hk2
          | true =>
            have ok := g2.mp rfl
            let R : Nat → Nat → Prop := fun x y => E x y ∨ (x = a ∧ y = b) ∨ (x = b ∧ y = a)
            let s1 := uA 46 (upd (upd (s.1 46) (40 * a + b) 1) (40 * b + a) 1) s
            have z1 : sn [46, 47] [] [17] s s1 := (sm_A (LG := []) (by decide) _ s).n
            have hE1 : tb46 s1 R := mark1 hE (by omega) (by omega)
            have abx : ∀ x y, E x y → ¬ crs X Y a b x y := ok.2
            have hG1 : GE X Y n R := by
              refine ⟨fun x y k => ?_, fun x y k => ?_, fun p q u v k1 k2 hx => ?_⟩
              · rcases k with k | ⟨e1, e2⟩ | ⟨e1, e2⟩
                · have := hG.1 x y k
                  exact ⟨this.1, this.2.1, this.2.2.1, Or.inl this.2.2.2⟩
                · exact ⟨by omega, by omega, by omega, Or.inr (Or.inr ⟨e2, e1⟩)⟩
                · exact ⟨by omega, by omega, by omega, Or.inr (Or.inl ⟨e2, e1⟩)⟩
              · rcases k with k | ⟨e1, e2⟩ | ⟨e1, e2⟩
                · exact hG.2.1 x y k
                · rw [e1, e2]; exact ok.1
                · rw [e1, e2]; exact clr_sym ok.1
              · have self : ¬ crs X Y a b a b := fun q => by have := q.1; rw [ar_xyx, Int.zero_mul] at this; omega
                rcases k1 with k1 | ⟨e1, e2⟩ | ⟨e1, e2⟩ <;> rcases k2 with k2 | ⟨e3, e4⟩ | ⟨e3, e4⟩
                · exact hG.2.2 p q u v k1 k2 hx
                · rw [e3, e4] at hx; exact abx p q k1 (crs_sym hx)
                · rw [e3, e4] at hx; exact abx p q k1 (crs_sym (crs_t hx))
                · rw [e1, e2] at hx; exact abx u v k2 hx
                · rw [e1, e2, e3, e4] at hx; exact self hx
                · rw [e1, e2, e3, e4] at hx; exact self (crs_t hx)
                · rw [e1, e2] at hx; exact abx u v k2 (crs_s hx)
                · rw [e1, e2, e3, e4] at hx; exact self (crs_s hx)
                · rw [e1, e2, e3, e4] at hx; exact self (crs_s (crs_t hx))
            obtain ⟨t, q1, q2⟩ := ihe (b + 1) (by omega) s1 R hP hX hY hn h17 hE1 hl hG1 (fun x y k => Or.inl (hlE x y k)) (fun x y h1 h2 => by
              by_cases q : x = a ∧ y = b
              · exact Or.inl (Or.inr (Or.inl q))
              · rcases hdone x y h1 (by omega) with k | k
                · exact Or.inl (Or.inl k)
                · exact Or.inr fun w => k (okl_mono (fun _ _ r => Or.inl r) w))
            refine ⟨t, ev2 g1 q1 fun k hk1 hk2 => ?_, q2.pre z1⟩
            show r128 (k + 1) _ _ _ _ _ _ = _
            rw [base, if_neg (fun q => q c1), hk1]
            simp only [Option.bind_some]
            rw [if_neg (show ¬ bI true = 0 by decide), f130_eq (by omega) (by omega) nar1]
            exact hk2
        · obtain ⟨t, q1, q2⟩ := ihe (b + 1) (by omega) s E hP hX hY hn h17 hE hl hG hlE (fun x y h1 h2 => by
            by_cases q : x = a ∧ y = b
            · rw [q.1, q.2]; exact Or.inl (hE46.mp c1)
            · exact hdone x y h1 (by omega))
          refine ⟨t, ev1 q1 fun k hk => ?_, q2⟩
          show r128 (k + 1) _ _ _ _ _ _ = _
          rw [base, if_pos c1]
          exact hk
    obtain ⟨t, g1, g2⟩ := row a 0 (by omega) s E hP hX hY hn h17 hE hl hG hlE (fun x y h1 h2 => hdone x y h1 (by omega))
    refine ⟨t, ev1 g1 fun k hk => ?_, g2⟩
    show r128 (k + 1) _ _ _ _ _ _ = _
    simp only [r128]
    rw [if_neg (by decide), if_pos trivial, hn, if_neg (fun q => by have := (nI_leI (by omega) (by omega)).mp q; omega)]
    exact hk
theorem copy_ev {s0 : mS} {lk : Nat → Nat → Prop} (hl : tb45 s0 lk) {r : mS → Prop} (hend : ∀ s, sn [46] [] [] s0 s → tb46 s lk → ∃ t, ev (fun k => r128 k 0 (nI 1600) 0 0 0 s) t ∧ r t) : ∀ d i, i + d = 1600 → ∀ s, sn [46] [] [] s0 s → (∀ j, j < i → s.1 46 j = s0.1 45 j) → ∃ t, ev (fun k => r128 k 0 (nI i) 0 0 0 s) t ∧ r t := by
  intro d
  induction d with
  | zero =>
    intro i hi s hz hc
    have ei : i = 1600 := by omega
    subst ei
    exact hend s hz fun x y hx hy => by
      rw [hc _ (by omega)]
      exact hl x y hx hy
  | succ d ih =>
    intro i hi s hz hc
    have e45 : s.1 45 = s0.1 45 := hz.1 45 (by decide)
    have hv : vp_nar .boolean (s.1 45 i) = s.1 45 i := by
      have h := hl (i / 40) (i % 40) (by omega) (by omega)
      rw [show 40 * (i / 40) + i % 40 = i by omega] at h
      rw [e45]
      by_cases q : lk (i / 40) (i % 40)
      · rw [h.1 q]; decide
      · rw [h.2 q]; decide
    obtain ⟨t, g1, g2⟩ := ih (i + 1) (by omega) (uA 46 (upd (s.1 46) i (s.1 45 i)) s) (hz.trans ((sm_A (LG := []) (by decide) _ s).n)) (fun j hj => by
      rw [uA_at]
      unfold upd
      by_cases ej : j = i
      · rw [if_pos ej, ej, e45]
      · rw [if_neg ej]; exact hc j (by omega))
    refine ⟨t, ev1 g1 fun k hk => ?_, g2⟩
    show r128 (k + 1) _ _ _ _ _ _ = _
    simp only [r128]
    rw [if_pos trivial, show (1600 : Int32) = nI 1600 from rfl, if_neg (fun q => by have := (nI_leI (by omega) (by omega)).mp q; omega), rdI_nI (by omega) (by decide), nI_clamp (by omega), hv, nI_inc]
    simp only [pt]
    rw [rdI_nI (by omega) (by decide)]
    exact hk
/-- the reference's mesh is current and is E -/
def MM (s : mS) (n : Nat) (E : Nat → Nat → Prop) : Prop := s.2.2.1 16 = 1 ∧ ∃ L, NL (Xm s) (Ym s) n E 1600 L ∧ LM s n E L ∧ (L ≠ [] → tb46 s E)
theorem f128_ev {s : mS} {n : Nat} {E lk : Nat → Nat → Prop} (hP : PM s) (hn : s.2.2.1 15 = nI n) (hn4 : n ≤ 40) (hD : Dst (Xm s) (Ym s) n) (hl : tb45 s lk) (hls : ∀ x y, lk x y → lk y x) (hM : Mx (Xm s) (Ym s) n E) (hlE : ∀ x y, lk x y → E x y) (hb : ∀ x y, ¬ lk x y → bnd (Xm s) (Ym s) n E x y) (hcur : s.2.2.1 16 = 0 ∨ MM s n E) :
    ∃ t, ev (fun k => f128 k s) t ∧ MM t n E ∧ sn [46, 47] [] [16, 17] s t := by
  have hB : Bd (Xm s) (Ym s) n := fun i hi => hP i (by omega)
  by_cases h0 : s.2.2.1 16 = 0
  · let s4 := uF 17 0 (uF 16 1 s)
    have z4 : sn [46, 47] [] [16, 17] s s4 := ((sm_F (LA := [46, 47]) (LJ := []) (LG := []) (by decide) _ s).trans (sm_F (by decide) _ _)).n
    have f16 : s4.2.2.1 16 = 1 := uF_at 16 1 s
    have f17 : s4.2.2.1 17 = nI 0 := uF_at 17 0 _
    have f15 : s4.2.2.1 15 = nI n := hn
    have hend : ∀ u, sn [46] [] [] s4 u → tb46 u lk → ∃ t, ev (fun k => r128 k 0 (nI 1600) 0 0 0 u) t ∧ (MM t n E ∧ sn [46, 47] [] [16, 17] s t) := by
      intro u hz hu
      have XY := snX hz (by decide) (by decide)
      have hXu : Xm u = Xm s := XY.1
      have hYu : Ym u = Ym s := XY.2
      have hPu : PM u := fun j hj => by rw [hXu, hYu]; exact hP j hj
      have hnu : u.2.2.1 15 = nI n := by rw [hz.2.2 15 (by decide)]; exact f15
      have h17u : u.2.2.1 17 = nI 0 := by rw [hz.2.2 17 (by decide)]; exact f17
      have h16u : u.2.2.1 16 = 1 := by rw [hz.2.2 16 (by decide)]; exact f16
      have hlu : tb45 u lk := fun x y hx hy => by rw [hz.1 45 (by decide)]; exact hl x y hx hy
      have zu : sn [46, 47] [] [16, 17] s u := z4.trans (hz.mono (by decide) (by decide) (by decide))
      obtain ⟨g, q1, q2⟩ := f129_ev hPu hnu hn4 (by rw [hXu, hYu]; exact hD)
      rw [hXu, hYu] at q2
      have hd : ∀ k, f129 k u = some (bI g) → r128 (k + 1) 0 (nI 1600) 0 0 0 u = if bI g = 0 then r128 k 1 0 0 0 0 u else some u := by
        intro k hk
        simp only [r128]
        rw [if_pos trivial, show (1600 : Int32) = nI 1600 from rfl, if_pos ((nI_leI (by omega) (by omega)).mpr (by omega)), hk]
        rfl
      cases g with
      | true =>
        have hfl := q2.mp rfl
        refine ⟨u, ev1 q1 fun k hk => ?_, ⟨h16u, [], ⟨List.Pairwise.nil, fun c => ⟨fun k => absurd k List.not_mem_nil, fun ⟨_, w, hw, _⟩ => ?_⟩⟩, ⟨h17u, fun i c z hi => by simp at hi⟩, fun k => absurd rfl k⟩, zu⟩
        · show r128 (k + 1) _ _ _ _ _ _ = _
          rw [hd k hk, if_neg (show ¬ bI true = 0 by decide)]
        · rw [hXu, hYu] at hw
          exact absurd hw (flat_no hfl hM)
      | false =>
        have hGE : GE (Xm s) (Ym s) n lk := ⟨fun x y k => by
          have := hM.1 x y (hlE x y k)
          exact ⟨this.1, this.2.1, this.2.2.1, hls x y k⟩, fun x y k => hM.2.1 x y (hlE x y k), fun a b c d k1 k2 => hM.2.2.1 a b c d (hlE a b k1) (hlE c d k2)⟩
        obtain ⟨t, g1, g2, E', L, e1, e2, e3, e4, e5, e6⟩ := greedy_ev hn4 hD hB hls n 0 (by omega) u lk hPu hXu hYu hnu h17u hu hlu hGE (fun _ _ k => k) (fun x y _ h => by omega)
        have iff : ∀ x y, E' x y ↔ E x y := fun x y => ⟨fun k => one_mesh hD e2 hM e3 hlE (fun p q r t h1 h2 h3 => e4 p q h3 r t h1 h2) (fun p q r t h1 h2 h3 => hb p q h3 r t h1 h2) k, fun k => one_mesh hD hM e2 hlE e3 (fun p q r t h1 h2 h3 => hb p q h3 r t h1 h2) (fun p q r t h1 h2 h3 => e4 p q h3 r t h1 h2) k⟩
        have eE : E' = E := funext fun x => funext fun y => propext (iff x y)
        rw [eE] at e1 e5 e6
        have XYt := snX g2 (by decide) (by decide)
        refine ⟨t, ev2 q1 g1 fun k hk1 hk2 => ?_, ⟨by rw [g2.2.2 16 (by decide)]; exact h16u, L, by rw [XYt.1, XYt.2, hXu, hYu]; exact e5, e6, fun _ => e1⟩, zu.trans (g2.mono (by decide) (by decide) (by decide))⟩
        show r128 (k + 1) _ _ _ _ _ _ = _
        rw [hd k hk1, if_pos (show bI false = 0 from rfl)]
        exact hk2
    obtain ⟨t, g1, g2, g3⟩ := copy_ev (s0 := s4) (lk := lk) hl hend 1600 0 (by omega) s4 (sn.refl s4) (fun j hj => by omega)
    refine ⟨t, evm g1 fun k hk => ?_, g2, g3⟩
    show f128 k s = some t
    unfold f128
    rw [if_pos h0]
    exact hk
  · rcases hcur with q | q
    · exact absurd q h0
    · refine ⟨s, ev_0 fun k => ?_, q, sn.refl s⟩
      show f128 k s = some s
      unfold f128
      rw [if_neg h0]
