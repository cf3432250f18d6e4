/-! M2: the reference's add, link, unlink and clear -/
theorem f117_eq (v : Int32) (s : mS) : f117 v s = some (if v ≤ 0 then 0 else 1, uF 14 v s) := by
  unfold f117
  simp only [pt]
  by_cases h : v ≤ 0
  · rw [if_pos h, if_pos h]
  · rw [if_neg h, if_neg h]
theorem tb45.same {s t : mS} {R : Nat → Nat → Prop} (h : tb45 s R) (e : t.1 45 = s.1 45) : tb45 t R := fun x y hx hy => by rw [e]; exact h x y hx hy
theorem tb45.congr {s : mS} {R R' : Nat → Nat → Prop} (h : tb45 s R) (e : ∀ x y, R x y ↔ R' x y) : tb45 s R' := fun x y hx hy => ⟨fun k => (h x y hx hy).1 ((e x y).mpr k), fun k => (h x y hx hy).2 fun q => k ((e x y).mp q)⟩
/-- a place is put at i, in the reference -/
def pm (i : Nat) (x y : Int32) (s : mS) : mS := uJ 44 (vp_updL (s.2.1 44) i y.toInt64) (uJ 43 (vp_updL (s.2.1 43) i x.toInt64) s)
theorem pm_X (i : Nat) (x y : Int32) (s : mS) (j : Nat) : Xm (pm i x y s) j = if j = i then x.toInt else Xm s j := by
  show ((if j = i then x.toInt64 else s.2.1 43 j) : Int64).toInt = _
  split
  · exact i64_of32 x
  · rfl
theorem pm_Y (i : Nat) (x y : Int32) (s : mS) (j : Nat) : Ym (pm i x y s) j = if j = i then y.toInt else Ym s j := by
  show ((if j = i then y.toInt64 else s.2.1 44 j) : Int64).toInt = _
  split
  · exact i64_of32 y
  · rfl
theorem pm_P {i : Nat} {x y : Int32} {s : mS} (h : PM s) (hx : inb x) (hy : inb y) : PM (pm i x y s) := fun j hj => by
  rw [pm_X, pm_Y]
  split
  · exact ⟨inb_abs hx, inb_abs hy⟩
  · exact h j hj
theorem i64_eq {x : Int32} {w : Int64} : w = x.toInt64 ↔ w.toInt = x.toInt := by
  rw [← i64_of32 x]
  exact ⟨fun h => by rw [h], fun h => Int64.toInt_inj.mp h⟩
theorem clr2_ev {n : Nat} (hn : n < 40) {lk : Nat → Nat → Prop} (hlk : ∀ x y, lk x y → x < n ∧ y < n) (x y w : Int32) : ∀ d i, i + d = 40 → ∀ s, s.2.2.1 15 = nI n → tb45 s lk → ∃ t, ev (fun k => r114 k 2 x y w (nI i) 0 s) (nI n, t) ∧ sn [45] [] [15, 16] s t ∧ tb45 t lk ∧ t.2.2.1 15 = nI (n + 1) ∧ t.2.2.1 16 = 0 := by
  intro d
  induction d with
  | zero =>
    intro i hi s h15 hl
    let s2 := uF 15 (nI (n + 1)) s
    let s4 := uF 16 0 s2
    refine ⟨s4, ev_c fun k => ?_, ((sm_F (LA := [45]) (LJ := []) (LG := []) (by decide) _ s).trans (sm_F (by decide) _ _)).n, hl, uF_at 15 _ s, uF_at 16 _ _⟩
    simp only [r114]
    rw [if_neg (by decide), if_neg (by decide), show (40 : Int32) = nI 40 from rfl, if_pos ((nI_leI (by omega) (by omega)).mpr (by omega)), h15, nI_1]
    simp only [pt]
    have e : (uF 16 0 (uF 15 (nI (n + 1)) s)).2.2.1 15 = nI (n + 1) := uF_at 15 _ s
    rw [e, nI_pred]
  | succ d ih =>
    intro i hi s h15 hl
    let T1 := upd (s.1 45) (40 * n + i) 0
    let s7 := uA 45 T1 s
    let T2 := upd T1 (40 * i + n) 0
    let s10 := uA 45 T2 s7
    have z : sn [45] [] [15, 16] s s10 := ((sm_A (LJ := []) (LG := []) (by decide) T1 s).trans (sm_A (by decide) T2 s7)).n
    have hl10 : tb45 s10 lk := by
      intro u v hu hv
      rw [uA_at]
      obtain ⟨h1, h2⟩ := hl u v hu hv
      show (lk u v → (if 40 * u + v = 40 * i + n then (0 : Int32) else if 40 * u + v = 40 * n + i then 0 else s.1 45 (40 * u + v)) = 1) ∧ (¬ lk u v → (if 40 * u + v = 40 * i + n then (0 : Int32) else if 40 * u + v = 40 * n + i then 0 else s.1 45 (40 * u + v)) = 0)
      constructor
      · intro k
        have := hlk u v k
        rw [if_neg (by omega), if_neg (by omega)]
        exact h1 k
      · intro k
        split
        · rfl
        · split
          · rfl
          · exact h2 k
    obtain ⟨t, q1, q2, q3⟩ := ih (i + 1) (by omega) s10 h15 hl10
    refine ⟨t, ev1 q1 fun k hk => ?_, z.trans q2, q3⟩
    show r114 (k + 1) _ _ _ _ _ _ _ = _
    simp only [r114]
    rw [if_neg (by decide), if_neg (by decide), show (40 : Int32) = nI 40 from rfl, if_neg (fun q => by have := (nI_leI (by omega) (by omega)).mp q; omega), h15]
    have i1 : nI 40 * nI n + nI i = nI (40 * n + i) := idx2 n i
    have i2 : nI 40 * nI i + nI n = nI (40 * i + n) := idx2 i n
    have e15 : s7.2.2.1 15 = nI n := h15
    have e45 : s7.1 45 = T1 := uA_at 45 T1 s
    rw [i1, rdI_nI (by omega) (by decide), nI_clamp (by omega), nar0]
    show rdI 1600 (nI 40 * nI i + s7.2.2.1 15) _ = _
    rw [e15, i2, rdI_nI (by omega) (by decide), nI_clamp (by omega), nI_inc]
    show r114 k 2 x y w (nI (i + 1)) 0 (uA 45 (upd (s7.1 45) (40 * i + n) 0) s7) = _
    rw [e45]
    exact hk
/-- a new place is free, in the reference's numbers -/
def freeM (s : mS) (n : Nat) (lk : Nat → Nat → Prop) (x y : Int32) : Prop := (∀ p, p < n → ¬ (Xm s p = x.toInt ∧ Ym s p = y.toInt)) ∧ ∀ c d, lk c d → ¬ oS (Xm s) (Ym s) c d n
theorem r114_ev {s : mS} {n : Nat} (hP : PM s) (hn : n < 40) (h15 : s.2.2.1 15 = nI n) {lk : Nat → Nat → Prop} (hls : ∀ x y, lk x y → x < n ∧ y < n ∧ x ≠ y ∧ lk y x) (hl : tb45 s lk) (x y : Int32) :
    (freeM s n lk x y → ∃ t, ev (fun k => r114 k 0 x y 1 0 0 s) (nI n, t) ∧ sn [45] [] [15, 16] s t ∧ tb45 t lk ∧ t.2.2.1 15 = nI (n + 1) ∧ t.2.2.1 16 = 0) ∧ (¬ freeM s n lk x y → ev (fun k => r114 k 0 x y 1 0 0 s) (-1, s)) := by
  let R : Option (Int32 × mS) → Prop := fun _ => True
  -- C v: what has been looked at before row v
  let P : Nat → Prop := fun p => ¬ (Xm s p = x.toInt ∧ Ym s p = y.toInt)
  let Q : Nat → Nat → Prop := fun p q => s.1 45 (40 * p + q) ≠ 0 → ¬ oS (Xm s) (Ym s) p q n
  have fM : freeM s n lk x y ↔ ∀ p, p < n → P p ∧ ∀ q, q < p → Q p q := by
    constructor
    · intro ⟨h1, h2⟩ p hp
      exact ⟨h1 p hp, fun q hq k => h2 p q ((hl.ne (by omega) (by omega)).mp k)⟩
    · intro h
      refine ⟨fun p hp => (h p hp).1, fun c d k hon => ?_⟩
      obtain ⟨l1, l2, l3, l4⟩ := hls c d k
      rcases Nat.lt_or_gt_of_ne l3 with q | q
      · exact (h d l2).2 c q ((hl.ne (by omega) (by omega)).mpr l4) (oS_sym hon)
      · exact (h c l1).2 d q ((hl.ne (by omega) (by omega)).mpr k) hon
  have main : ∀ d v (w : Bool), v + d = n → (w = true ↔ ∀ p, p < v → P p ∧ ∀ q, q < p → Q p q) → (freeM s n lk x y → ∃ t, ev (fun k => r114 k 0 x y (bI w) (nI v) 0 s) (nI n, t) ∧ sn [45] [] [15, 16] s t ∧ tb45 t lk ∧ t.2.2.1 15 = nI (n + 1) ∧ t.2.2.1 16 = 0) ∧ (¬ freeM s n lk x y → ev (fun k => r114 k 0 x y (bI w) (nI v) 0 s) (-1, s)) := by
    intro d
    induction d with
    | zero =>
      intro v w hv hw
      have ev' : v = n := by omega
      subst ev'
      rw [← fM] at hw
      constructor
      · intro hf
        obtain ⟨t, q1, q2⟩ := clr2_ev hn (fun a b k => ⟨(hls a b k).1, (hls a b k).2.1⟩) x y 1 40 0 (by omega) s h15 hl
        refine ⟨t, ev1 q1 fun k hk => ?_, q2⟩
        show r114 (k + 1) _ _ _ _ _ _ _ = _
        simp only [r114]
        rw [if_pos trivial, h15, if_pos ((nI_leI (by omega) (by omega)).mpr (by omega)), hw.mpr hf, if_pos (show ¬ bI true = 0 by decide)]
        exact hk
      · intro hf
        have ew : w = false := by
          cases w with
          | false => rfl
          | true => exact absurd (hw.mp rfl) hf
        refine ev_c fun k => ?_
        simp only [r114]
        rw [if_pos trivial, h15, if_pos ((nI_leI (by omega) (by omega)).mpr (by omega)), ew, if_neg (fun q => q rfl)]
    | succ d ih =>
      intro v w hv hw
      have row : ∀ e j (w : Bool), j + e = v → (w = true ↔ (∀ p, p < v → P p ∧ ∀ q, q < p → Q p q) ∧ P v ∧ ∀ q, q < j → Q v q) → (freeM s n lk x y → ∃ t, ev (fun k => r114 k 1 x y (bI w) (nI v) (nI j) s) (nI n, t) ∧ sn [45] [] [15, 16] s t ∧ tb45 t lk ∧ t.2.2.1 15 = nI (n + 1) ∧ t.2.2.1 16 = 0) ∧ (¬ freeM s n lk x y → ev (fun k => r114 k 1 x y (bI w) (nI v) (nI j) s) (-1, s)) := by
        intro e
        induction e with
        | zero =>
          intro j w hj hw
          have ej : j = v := by omega
          subst ej
          obtain ⟨g1, g2⟩ := ih (j + 1) w (by omega) (by
            rw [hw]
            constructor
            · intro ⟨h1, h2, h3⟩ p hp
              by_cases ep : p = j
              · rw [ep]; exact ⟨h2, h3⟩
              · exact h1 p (by omega)
            · intro h
              exact ⟨fun p hp => h p (by omega), (h j (by omega)).1, (h j (by omega)).2⟩)
          have st : ∀ k, r114 (k + 1) 1 x y (bI w) (nI j) (nI j) s = r114 k 0 x y (bI w) (nI (j + 1)) 0 s := by
            intro k
            simp only [r114]
            rw [if_neg (by decide), if_pos trivial, if_pos ((nI_leI (by omega) (by omega)).mpr (by omega)), nI_inc]
          constructor
          · intro hf
            obtain ⟨t, q1, q2⟩ := g1 hf
            exact ⟨t, ev1 q1 fun k hk => by show r114 (k + 1) _ _ _ _ _ _ _ = _; rw [st]; exact hk, q2⟩
          · intro hf
            exact ev1 (g2 hf) fun k hk => by show r114 (k + 1) _ _ _ _ _ _ _ = _; rw [st]; exact hk
        | succ e ihe =>
          intro j w hj hw
          have next : ∀ w' : Bool, (w' = true ↔ w = true ∧ Q v j) → (∀ k, r114 (k + 1) 1 x y (bI w) (nI v) (nI j) s = r114 k 1 x y (bI w') (nI v) (nI (j + 1)) s) → (freeM s n lk x y → ∃ t, ev (fun k => r114 k 1 x y (bI w) (nI v) (nI j) s) (nI n, t) ∧ sn [45] [] [15, 16] s t ∧ tb45 t lk ∧ t.2.2.1 15 = nI (n + 1) ∧ t.2.2.1 16 = 0) ∧ (¬ freeM s n lk x y → ev (fun k => r114 k 1 x y (bI w) (nI v) (nI j) s) (-1, s)) := by
            intro w' hw' st
            obtain ⟨g1, g2⟩ := ihe (j + 1) w' (by omega) (by
              rw [hw', hw]
              constructor
              · intro ⟨⟨h1, h2, h3⟩, h4⟩
                refine ⟨h1, h2, fun q hq => ?_⟩
                by_cases eq : q = j
                · rw [eq]; exact h4
                · exact h3 q (by omega)
              · intro ⟨h1, h2, h3⟩
                exact ⟨⟨h1, h2, fun q hq => h3 q (by omega)⟩, h3 j (by omega)⟩)
            constructor
            · intro hf
              obtain ⟨t, q1, q2⟩ := g1 hf
              exact ⟨t, ev1 q1 fun k hk => by show r114 (k + 1) _ _ _ _ _ _ _ = _; rw [st]; exact hk, q2⟩
            · intro hf
              exact ev1 (g2 hf) fun k hk => by show r114 (k + 1) _ _ _ _ _ _ _ = _; rw [st]; exact hk
          have b0 : ¬ nI v ≤ nI j := fun q => by have := (nI_leI (by omega) (by omega)).mp q; omega
          cases w with
          | false =>
            refine next false ⟨(fun k => by cases k), fun k => by have := k.1; cases this⟩ fun k => ?_
            simp only [r114]
            rw [if_neg (by decide), if_pos trivial, if_neg b0, if_pos (show bI false = 0 from rfl), nI_inc]
            rfl
          | true =>
            have st : ∀ k, r114 (k + 1) 1 x y (bI true) (nI v) (nI j) s = (if s.1 45 (40 * v + j) = 0 then r114 k 1 x y 1 (nI v) (nI (j + 1)) s else if ¬ onB (Xm s) (Ym s) v j n = false then r114 k 1 x y 0 (nI v) (nI (j + 1)) s else r114 k 1 x y 1 (nI v) (nI (j + 1)) s) := by
              intro k
              simp only [r114]
              rw [if_neg (by decide), if_pos trivial, if_neg b0, if_neg (show ¬ bI true = 0 by decide), idx2, rdI_nI (by omega) (by decide), nI_clamp (by omega), h15, f118_eq hP (by omega) (by omega) (by omega), nI_inc]
              simp only [Option.bind_some, bI_0]
            by_cases c1 : s.1 45 (40 * v + j) = 0
            · exact next true ⟨fun _ => ⟨rfl, fun k => absurd c1 k⟩, fun _ => rfl⟩ fun k => by rw [st, if_pos c1]; rfl
            · by_cases c2 : oS (Xm s) (Ym s) v j n
              · refine next false ⟨(fun k => by cases k), fun k => absurd c2 (k.2 c1)⟩ fun k => ?_
                rw [st, if_neg c1, (onB_iff _ _ _ _ _).mpr c2, if_pos (by decide)]
                rfl
              · have e : onB (Xm s) (Ym s) v j n = false := by
                  cases q : onB (Xm s) (Ym s) v j n with
                  | false => rfl
                  | true => exact absurd ((onB_iff _ _ _ _ _).mp q) c2
                refine next true ⟨fun _ => ⟨rfl, fun _ => c2⟩, fun _ => rfl⟩ fun k => ?_
                rw [st, if_neg c1, e, if_neg (fun q => q rfl)]
                rfl
      have b0 : ¬ nI n ≤ nI v := fun q => by have := (nI_leI (by omega) (by omega)).mp q; omega
      have enter : ∀ w' : Bool, (w' = true ↔ w = true ∧ P v) → (∀ k, r114 (k + 1) 0 x y (bI w) (nI v) 0 s = r114 k 1 x y (bI w') (nI v) 0 s) → (freeM s n lk x y → ∃ t, ev (fun k => r114 k 0 x y (bI w) (nI v) 0 s) (nI n, t) ∧ sn [45] [] [15, 16] s t ∧ tb45 t lk ∧ t.2.2.1 15 = nI (n + 1) ∧ t.2.2.1 16 = 0) ∧ (¬ freeM s n lk x y → ev (fun k => r114 k 0 x y (bI w) (nI v) 0 s) (-1, s)) := by
        intro w' hw' st
        obtain ⟨g1, g2⟩ := row v 0 w' (by omega) (by
          rw [hw', hw]
          exact ⟨fun h => ⟨h.1, h.2, fun q hq => by omega⟩, fun h => ⟨h.1, h.2.1⟩⟩)
        constructor
        · intro hf
          obtain ⟨t, q1, q2⟩ := g1 hf
          exact ⟨t, ev1 q1 fun k hk => by show r114 (k + 1) _ _ _ _ _ _ _ = _; rw [st]; exact hk, q2⟩
        · intro hf
          exact ev1 (g2 hf) fun k hk => by show r114 (k + 1) _ _ _ _ _ _ _ = _; rw [st]; exact hk
      have kx : s.2.1 43 v = x.toInt64 ↔ Xm s v = x.toInt := i64_eq
      have ky : s.2.1 44 v = y.toInt64 ↔ Ym s v = y.toInt := i64_eq
      cases w with
      | false =>
        refine enter false ⟨(fun k => by cases k), fun k => by have := k.1; cases this⟩ fun k => ?_
        simp only [r114]
        rw [if_pos trivial, h15, if_neg b0, if_pos (show bI false = 0 from rfl)]
        rfl
      | true =>
        have st : ∀ k, r114 (k + 1) 0 x y (bI true) (nI v) 0 s = (if ¬ s.2.1 43 v = x.toInt64 then r114 k 1 x y 1 (nI v) 0 s else if s.2.1 44 v = y.toInt64 then r114 k 1 x y 0 (nI v) 0 s else r114 k 1 x y 1 (nI v) 0 s) := by
          intro k
          simp only [r114]
          rw [if_pos trivial, h15, if_neg b0, if_neg (show ¬ bI true = 0 by decide), rdI_nI (show v < 42 by omega) (by decide), nI_clamp (by omega), rdI_nI (show v < 42 by omega) (by decide)]
        by_cases c1 : s.2.1 43 v = x.toInt64
        · by_cases c2 : s.2.1 44 v = y.toInt64
          · refine enter false ⟨(fun k => by cases k), fun k => absurd ⟨kx.mp c1, ky.mp c2⟩ k.2⟩ fun k => ?_
            rw [st, if_neg (fun q => q c1), if_pos c2]; rfl
          · refine enter true ⟨fun _ => ⟨rfl, fun q => c2 (ky.mpr q.2)⟩, fun _ => rfl⟩ fun k => ?_
            rw [st, if_neg (fun q => q c1), if_neg c2]; rfl
        · refine enter true ⟨fun _ => ⟨rfl, fun q => c1 (kx.mpr q.1)⟩, fun _ => rfl⟩ fun k => ?_
          rw [st, if_pos c1]; rfl
  exact main n 0 true (by omega) ⟨fun _ p hp => by omega, fun _ => rfl⟩
theorem f114_ev {s : mS} {n : Nat} (hP : PM s) (hn4 : n ≤ 40) (h15 : s.2.2.1 15 = nI n) {lk : Nat → Nat → Prop} (hls : ∀ x y, lk x y → x < n ∧ y < n ∧ x ≠ y ∧ lk y x) (hl : tb45 s lk) (x y : Int32) :
    (¬ (inb x ∧ inb y) → ∀ k, f114 k x y s = some (0, uF 14 1 s)) ∧ ((inb x ∧ inb y) → n = 40 → ∀ k, f114 k x y s = some (0, uF 14 2 s)) ∧
    ((inb x ∧ inb y) → n < 40 → (freeM (pm n x y s) n lk x y → ∃ t, ev (fun k => f114 k x y s) (nI n, t) ∧ sn [45] [] [15, 16] (pm n x y (uF 14 0 s)) t ∧ tb45 t lk ∧ t.2.2.1 15 = nI (n + 1) ∧ t.2.2.1 16 = 0) ∧ (¬ freeM (pm n x y s) n lk x y → ev (fun k => f114 k x y s) (-1, pm n x y (uF 14 0 s)))) := by
  refine ⟨fun h k => ?_, fun h e k => ?_, fun h hn => ?_⟩
  · unfold f114
    rw [(f115_eq x y s).2 h]
    simp only [Option.bind_some]
    rw [if_neg (fun q => q trivial), f117_eq]
    rfl
  · unfold f114
    rw [(f115_eq x y s).1 h]
    simp only [Option.bind_some]
    rw [if_pos (by decide), h15, e, if_neg (fun q => q rfl), f117_eq]
    rfl
  · let s12 := pm n x y (uF 14 0 s)
    have n40 : ¬ s.2.2.1 15 = 40 := by
      rw [h15]
      exact fun q => by have := (nI_eq (by omega) (by decide)).mp (show nI n = nI 40 from q); omega
    have base : ∀ k, f114 k x y s = r114 k 0 x y 1 0 0 s12 := by
      intro k
      unfold f114
      rw [(f115_eq x y s).1 h]
      simp only [Option.bind_some]
      rw [if_pos (by decide), if_pos n40, f117_eq]
      simp only [Option.bind_some]
      rw [if_pos (by decide)]
      simp only [pt]
      have e1 : (uF 14 0 s).2.2.1 15 = nI n := h15
      rw [e1, rdI_nI (show n < 42 by omega) (by decide), nI_clamp (by omega)]
      have e2 : (uJ 43 (vp_updL ((uF 14 0 s).2.1 43) n x.toInt64) (uF 14 0 s)).2.2.1 15 = nI n := h15
      rw [e2, rdI_nI (show n < 42 by omega) (by decide), nI_clamp (by omega)]
      rfl
    obtain ⟨g1, g2⟩ := r114_ev (s := s12) (pm_P (s := uF 14 0 s) hP h.1 h.2) hn h15 hls hl x y
    have fe : freeM s12 n lk x y ↔ freeM (pm n x y s) n lk x y := Iff.rfl
    refine ⟨fun hf => ?_, fun hf => ?_⟩
    · obtain ⟨t, q1, q2⟩ := g1 (fe.mpr hf)
      exact ⟨t, evm q1 fun k hk => by show f114 k x y s = _; rw [base]; exact hk, q2⟩
    · exact evm (g2 fun q => hf (fe.mp q)) fun k hk => by show f114 k x y s = _; rw [base]; exact hk
