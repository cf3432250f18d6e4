/-! M2: the reference's link, unlink, clear -/
theorem setl {s : mS} {a b : Nat} {v : Int32} (ha : a < 40) (hb : b < 40) (hv : vp_nar .boolean v = v) {α : Type} (k : mS → Option α) :
    rdI 1600 (((40 : Int32) * nI a) + nI b) (pt (uA 45 (upd (s.1 45) (Int32.toNatClampNeg (((40 : Int32) * nI a) + nI b)) (vp_nar .boolean v)) s) fun s10 => rdI 1600 (((40 : Int32) * nI b) + nI a) (pt (uA 45 (upd (s10.1 45) (Int32.toNatClampNeg (((40 : Int32) * nI b) + nI a)) (vp_nar .boolean v)) s10) k)) = k (uA 45 (upd (upd (s.1 45) (40 * a + b) v) (40 * b + a) v) s) := by
  simp only [idx2, rdI_nI (idx_lt ha hb) (show 1600 < 2 ^ 31 by decide), rdI_nI (idx_lt hb ha) (show 1600 < 2 ^ 31 by decide), nI_clamp (show 40 * a + b < 2 ^ 31 by omega), nI_clamp (show 40 * b + a < 2 ^ 31 by omega), pt, uA_at, hv]
  congr 1
  unfold uA
  ext <;> simp
  split <;> rfl
theorem ml1 {s : mS} {R : Nat → Nat → Prop} {a b : Nat} (h : tb45 s R) (ha : a < 40) (hb : b < 40) : tb45 (uA 45 (upd (upd (s.1 45) (40 * a + b) 1) (40 * b + a) 1) s) (lk1 R a b) := by
  intro x y hx hy
  rw [uA_at]
  unfold upd
  simp only [idx_eq hy ha, idx_eq hy hb]
  obtain ⟨h1, h2⟩ := h x y hx hy
  by_cases c1 : x = b ∧ y = a
  · rw [if_pos c1]; exact ⟨fun _ => rfl, fun k => absurd (Or.inr (Or.inr c1)) k⟩
  · rw [if_neg c1]
    by_cases c2 : x = a ∧ y = b
    · rw [if_pos c2]; exact ⟨fun _ => rfl, fun k => absurd (Or.inr (Or.inl c2)) k⟩
    · rw [if_neg c2]
      refine ⟨fun k => h1 ?_, fun k => h2 fun q => k (Or.inl q)⟩
      rcases k with k | k | k
      · exact k
      · exact absurd k c2
      · exact absurd k c1
theorem ml0 {s : mS} {R : Nat → Nat → Prop} {a b : Nat} (h : tb45 s R) (ha : a < 40) (hb : b < 40) : tb45 (uA 45 (upd (upd (s.1 45) (40 * a + b) 0) (40 * b + a) 0) s) (lk0 R a b) := by
  intro x y hx hy
  rw [uA_at]
  unfold upd
  simp only [idx_eq hy ha, idx_eq hy hb]
  obtain ⟨h1, h2⟩ := h x y hx hy
  by_cases c1 : x = b ∧ y = a
  · rw [if_pos c1]; exact ⟨fun k => absurd c1 k.2.2, fun _ => rfl⟩
  · rw [if_neg c1]
    by_cases c2 : x = a ∧ y = b
    · rw [if_pos c2]; exact ⟨fun k => absurd c2 k.2.1, fun _ => rfl⟩
    · rw [if_neg c2]
      exact ⟨fun k => h1 k.1, fun k => h2 fun q => k ⟨q, c2, c1⟩⟩
theorem f120_ev {s : mS} {n : Nat} (hP : PM s) (hn4 : n ≤ 40) (h15 : s.2.2.1 15 = nI n) {lk : Nat → Nat → Prop} (hls : ∀ x y, lk x y → x < n ∧ y < n ∧ x ≠ y ∧ lk y x) (hl : tb45 s lk) (v w : Int32) :
    (¬ isPr n v w → ∀ k, f120 k v w s = some (0, uF 14 1 s)) ∧
    (∀ a b, v = nI a → w = nI b → a < n → b < n → a ≠ b → ((lk a b ∨ okl (Xm s) (Ym s) n lk a b) → ∃ t, ev (fun k => f120 k v w s) (1, t) ∧ sn [45] [] [14, 16] s t ∧ tb45 t (lk1 lk a b) ∧ t.2.2.1 14 = 0 ∧ t.2.2.1 16 = 0) ∧ (¬ (lk a b ∨ okl (Xm s) (Ym s) n lk a b) → ev (fun k => f120 k v w s) (0, uF 14 0 s))) := by
  constructor
  · intro h k
    unfold f120
    rw [(f121_eq h15 hn4 v w).2 h]
    simp only [Option.bind_some]
    rw [if_pos trivial, f117_eq]
    rfl
  · intro a b e1 e2 ha hb nab
    subst e1 e2
    have hpr : isPr n (nI a) (nI b) := ⟨⟨a, ha, rfl⟩, ⟨b, hb, rfl⟩, fun q => nab ((nI_eq (by omega) (by omega)).mp q)⟩
    let s1 := uF 14 0 s
    have hP1 : PM s1 := hP
    have h151 : s1.2.2.1 15 = nI n := h15
    obtain ⟨g, g1, g2⟩ := f123_45_ev (s := s1) (a := a) (b := b) hP1 h151 hn4 (by omega) (by omega) hl hls
    have g2 : g = true ↔ okl (Xm s) (Ym s) n lk a b := g2
    have h45 := hl.ne (show a < 40 by omega) (show b < 40 by omega)
    let s3 := uF 16 0 (uA 45 (upd (upd (s1.1 45) (40 * a + b) 1) (40 * b + a) 1) s1)
    have base : ∀ k, f120 k (nI a) (nI b) s = (if ¬ s.1 45 (40 * a + b) = 0 then some (1, s3) else (f123_42_45 k (nI a) (nI b) s1).bind fun q41 => (if (¬ q41 = (0 : Int32)) then some (1, s3) else some (0, s1))) := by
      intro k
      unfold f120
      rw [(f121_eq h15 hn4 _ _).1 hpr]
      simp only [Option.bind_some]
      rw [if_neg (by decide), f117_eq]
      simp only [Option.bind_some]
      rw [if_pos (by decide), setl (by omega) (by omega) nar1, idx2, rdI_nI (by omega) (by decide), nI_clamp (by omega)]
      rfl
    have z3 : sn [45] [] [14, 16] s s3 := ((sm_F (LA := [45]) (LJ := []) (LG := []) (by decide) _ s).trans ((sm_A (by decide) _ _).trans (sm_F (by decide) _ _))).n
    have t3 : tb45 s3 (lk1 lk a b) := ml1 (s := s1) hl (by omega) (by omega)
    constructor
    · intro h
      refine ⟨s3, ?_, z3, t3, uF_at 14 0 s, uF_at 16 0 _⟩
      by_cases c : lk a b
      · exact ev_0 fun k => by show f120 k _ _ s = _; rw [base, if_pos (h45.mpr c)]
      · have ok : g = true := g2.mpr (by rcases h with h | h; exact absurd h c; exact h)
        have c0 : s.1 45 (40 * a + b) = 0 := (hl a b (by omega) (by omega)).2 c
        refine evm g1 fun k hk => ?_
        show f120 k _ _ s = _
        rw [base, if_neg (fun q => q c0), hk, ok]
        rfl
    · intro h
      have c : ¬ lk a b := fun q => h (Or.inl q)
      have ok : g = false := by
        cases g with
        | false => rfl
        | true => exact absurd (Or.inr (g2.mp rfl)) h
      have c0 : s.1 45 (40 * a + b) = 0 := (hl a b (by omega) (by omega)).2 c
      refine evm g1 fun k hk => ?_
      show f120 k _ _ s = _
      rw [base, if_neg (fun q => q c0), hk, ok]
      rfl
theorem f125_ev {s : mS} {n : Nat} (hn4 : n ≤ 40) (h15 : s.2.2.1 15 = nI n) {lk : Nat → Nat → Prop} (hl : tb45 s lk) (v w : Int32) :
    (¬ isPr n v w → f125 v w s = some (0, uF 14 1 s)) ∧
    (∀ a b, v = nI a → w = nI b → a < n → b < n → a ≠ b → ∃ t, f125 v w s = some (s.1 45 (40 * a + b), t) ∧ sn [45] [] [14, 16] s t ∧ tb45 t (lk0 lk a b) ∧ t.2.2.1 14 = 0 ∧ t.2.2.1 16 = 0) := by
  constructor
  · intro h
    unfold f125
    rw [(f121_eq h15 hn4 v w).2 h]
    simp only [Option.bind_some]
    rw [if_pos trivial, f117_eq]
    rfl
  · intro a b e1 e2 ha hb nab
    subst e1 e2
    have hpr : isPr n (nI a) (nI b) := ⟨⟨a, ha, rfl⟩, ⟨b, hb, rfl⟩, fun q => nab ((nI_eq (by omega) (by omega)).mp q)⟩
    let s1 := uF 14 0 s
    let s3 := uF 16 0 (uA 45 (upd (upd (s1.1 45) (40 * a + b) 0) (40 * b + a) 0) s1)
    have z3 : sn [45] [] [14, 16] s s3 := ((sm_F (LA := [45]) (LJ := []) (LG := []) (by decide) _ s).trans ((sm_A (by decide) _ _).trans (sm_F (by decide) _ _))).n
    refine ⟨s3, ?_, z3, ml0 (s := s1) hl (by omega) (by omega), uF_at 14 0 s, uF_at 16 0 _⟩
    unfold f125
    rw [(f121_eq h15 hn4 _ _).1 hpr]
    simp only [Option.bind_some]
    rw [if_neg (by decide), f117_eq]
    simp only [Option.bind_some]
    rw [if_pos (by decide), idx2, rdI_nI (by omega) (by decide), nI_clamp (by omega), ← idx2 a b]
    have := setl (s := uF 14 0 s) (v := 0) (show a < 40 by omega) (show b < 40 by omega) nar0 (fun s25 => pt (uF 16 (0 : Int32) s25) fun s27 => rdB ((uF 14 0 s).1 45 (40 * a + b)) (some (((uF 14 0 s).1 45 (40 * a + b)), s27)))
    rw [idx2 a b] at this ⊢
    rw [nI_clamp (by omega)] at this
    rw [this]
    simp only [pt]
    have hv := hl a b (by omega) (by omega)
    have eb : (uF 14 0 s).1 45 (40 * a + b) = s.1 45 (40 * a + b) := rfl
    rw [eb]
    unfold rdB
    rw [if_pos (show s.1 45 (40 * a + b) = 0 ∨ s.1 45 (40 * a + b) = 1 by
      by_cases q : lk a b
      · exact Or.inr (hv.1 q)
      · exact Or.inl (hv.2 q))]
theorem f126_ev {s : mS} {n : Nat} (h15 : s.2.2.1 15 = nI n) : ∃ t, ev (fun k => f126 k s) (nI n, t) ∧ sn [45] [] [14, 15, 16] s t ∧ tb45 t noE ∧ t.2.2.1 14 = 0 ∧ t.2.2.1 15 = nI 0 ∧ t.2.2.1 16 = 0 := by
  have main : ∀ d i s, i + d = 1600 → ∃ t, ev (fun k => r126 k (nI n) (nI i) s) (nI n, t) ∧ sn [45] [] [16] s t ∧ (∀ j, i ≤ j → j < 1600 → t.1 45 j = 0) ∧ (∀ j, j < i → t.1 45 j = s.1 45 j) ∧ t.2.2.1 16 = 0 := by
    intro d
    induction d with
    | zero =>
      intro i s hi
      refine ⟨uF 16 0 s, ev_c fun k => ?_, (sm_F (LA := [45]) (LJ := []) (LG := []) (by decide) _ s).n, fun j h1 h2 => by omega, fun _ _ => rfl, uF_at 16 0 s⟩
      simp only [r126]
      rw [show (1600 : Int32) = nI 1600 from rfl, if_pos ((nI_leI (by omega) (by omega)).mpr (by omega))]
      rfl
    | succ d ih =>
      intro i s hi
      obtain ⟨t, q1, q2, q3, q4, q5⟩ := ih (i + 1) (uA 45 (upd (s.1 45) i 0) s) (by omega)
      have e : (uA 45 (upd (s.1 45) i 0) s).1 45 = upd (s.1 45) i 0 := uA_at 45 _ s
      refine ⟨t, ev1 q1 fun k hk => ?_, ((sm_A (LJ := []) (LG := []) (by decide) _ s).n).trans q2, fun j h1 h2 => ?_, fun j h => ?_, q5⟩
      · show r126 (k + 1) _ _ _ = _
        simp only [r126]
        rw [show (1600 : Int32) = nI 1600 from rfl, if_neg (fun q => by have := (nI_leI (by omega) (by omega)).mp q; omega), rdI_nI (by omega) (by decide), nI_clamp (by omega), nar0, nI_inc]
        exact hk
      · by_cases ej : j = i
        · rw [ej, q4 i (by omega), e]
          unfold upd
          rw [if_pos rfl]
        · exact q3 j (by omega) h2
      · rw [q4 j (by omega), e]
        unfold upd
        rw [if_neg (by omega)]
  let s1 := uF 14 0 s
  let s3 := uF 15 0 s1
  obtain ⟨t, q1, q2, q3, q4, q5⟩ := main 1600 0 s3 (by omega)
  refine ⟨t, evm q1 fun k hk => ?_, ?_, fun x y hx hy => ⟨fun k => k.elim, fun _ => q3 _ (by omega) (by omega)⟩, ?_, ?_, q5⟩
  · show f126 k s = _
    unfold f126
    simp only [pt]
    have e : (uF 14 0 s).2.2.1 15 = nI n := h15
    rw [e]
    exact hk
  · exact ((sm_F (LA := [45]) (LJ := []) (LF := [14, 15, 16]) (LG := []) (by decide) _ s).trans (sm_F (by decide) _ _)).n.trans (q2.mono (by decide) (by decide) (by decide))
  · rw [q2.2.2 14 (by decide)]; exact uF_at 14 0 s
  · rw [q2.2.2 15 (by decide)]; exact uF_at 15 0 _
