/-! the class's run, door by door: the code -/
abbrev ZNt := (List Nat → Prop) → Nat → Nat → List Nat → Prop
abbrev ZSt := (List Nat → Prop) → Nat → Nat → Nat → Nat → Nat → Nat → List Nat → Prop
/-- the class after door p -/
def CI (s1 : mS) (n : Nat) (L R : Nat → Nat) (ZN : ZNt) (ZS : ZSt) (Z0 : (List Nat → Prop) → Prop) (t0 p : Nat) (s : mS) : Prop := sm [38, 40, 41] [] [6, 7, 8, 9, 10, 11, 12, 13] [] s1 s ∧ s.2.2.1 7 = nI (L p) ∧ s.2.2.1 8 = nI (R p) ∧ ∃ t hl hr cl cr ts, FU s t hl hr cl cr ts ∧ AS (Xc s1) (Yc s1) n L R ZN ZS Z0 t0 p t hl hr cl cr ts
theorem f12_L {s s' : mS} {v1 v2 : Int32} (h1 : ¬ v1 = s.2.2.1 7) (h : ev (fun k => f13_36_37_39 k v1 s) s') (h2 : v2 = s'.2.2.1 8) : ev (fun k => f12 k v1 v2 s) (uF 7 v1 s') := by
  obtain ⟨K, hK⟩ := h
  refine ⟨K, fun k hk => ?_⟩
  have hk := hK k hk
  have hk : f13_36_37_39 k v1 s = some s' := hk
  show f12 k v1 v2 s = _
  unfold f12
  rw [if_neg h1, hk]
  show (if v2 = s'.2.2.1 8 then some (uF 7 v1 s') else _) = _
  rw [if_pos h2]
theorem f12_R {s s' : mS} {v1 v2 : Int32} (h1 : v1 = s.2.2.1 7) (h2 : ¬ v2 = s.2.2.1 8) (h : ev (fun k => f13_36_39_37 k v2 s) s') : ev (fun k => f12 k v1 v2 s) (uF 8 v2 s') := by
  obtain ⟨K, hK⟩ := h
  refine ⟨K, fun k hk => ?_⟩
  have hk := hK k hk
  have hk : f13_36_39_37 k v2 s = some s' := hk
  show f12 k v1 v2 s = _
  unfold f12
  rw [if_pos h1, if_neg h2, hk]
  rfl
theorem Xc_same {s t : mS} (h : t.1 18 = s.1 18) : Xc t = Xc s := by funext j; unfold Xc; rw [h]
theorem Yc_same {s t : mS} (h : t.1 19 = s.1 19) : Yc t = Yc s := by funext j; unfold Yc; rw [h]
theorem P42_same {s t : mS} (hP : P42 s) (h : t.1 18 = s.1 18) (h' : t.1 19 = s.1 19) : P42 t := by
  unfold P42 at hP ⊢
  rw [Xc_same h, Yc_same h']
  exact hP
theorem CI.step {s1 s : mS} {n m d p t0 : Nat} {E : Nat → Nat → Prop} {T : Nat → Nat → Nat} {P L R A : Nat → Nat} {ZN : ZNt} {ZS : ZSt} {Z0 : (List Nat → Prop) → Prop} (hP : P42 s1) (hn : n ≤ 40) (hd74 : d ≤ 74) (hM : Mx (Xc s1) (Yc s1) n E) (hT : TL (Xc s1) (Yc s1) n E m T) (hD : Dr (Xc s1) (Yc s1) n E m T P L R A d) (hZ : ∀ G, Zc (Xc s1) (Yc s1) L R d (ZN G) (ZS G)) (hp : p + 1 < d) (h : CI s1 n L R ZN ZS Z0 t0 p s) : ∃ s', ev (fun k => f12 k (nI (L (p + 1))) (nI (R (p + 1))) s) s' ∧ CI s1 n L R ZN ZS Z0 t0 (p + 1) s' := by
  obtain ⟨z, f7, f8, t, hl, hr, cl, cr, ts, hF, hA⟩ := h
  have eX := Xc_same (z.1 18 (by decide))
  have eY := Yc_same (z.1 19 (by decide))
  have hP' := P42_same hP (z.1 18 (by decide)) (z.1 19 (by decide))
  have hA' := hA
  obtain ⟨b1, b2, b3, b4, b5, b6, _⟩ := hA'
  have t1 := hD.1 p (by omega)
  have lt := t1.lt hM
  have ne := t1.ne
  rcases hD.2.2.2.1 p hp with ⟨k1, k2⟩ | ⟨k1, k2⟩
  · have hw : 0 < ar (Xc s1) (Yc s1) (L p) (R p) (L (p + 1)) := by rw [k2]; exact t1.2.2.2.1
    have hlt : L (p + 1) < n := by rw [k2]; exact lt.2.2
    obtain ⟨s', e1, z1, hF'⟩ := ad37 (w := L (p + 1)) hP' hF (by omega) (by omega) (by omega) (b3.lt hn) (by omega) (fun y hy => by have := b4 y hy; omega) (fun y hy => by have := b5 y hy; omega)
    rw [eX, eY] at hF'
    refine ⟨uF 7 (nI (L (p + 1))) s', f12_L ?_ e1 ?_, ?_, uF_at 7 _ _, ?_, _, _, _, _, _, _, hF', hA.stepL hZ hp k1 hw hlt (fun t u q a b c e => ?_)⟩
    · rw [f7]
      intro q
      have := (nI_eq (by omega) (by omega)).mp q
      rw [k2] at this
      exact ne.2.2 this
    · rw [z1.2.2.1 8 (by decide), f8, k1]
    · exact z.trans ((z1.mono (by decide) (by decide) (by decide) (by decide) : sm [38, 40, 41] [] [6, 7, 8, 9, 10, 11, 12, 13] [] s s').trans (sm_F (by decide) _ s'))
    · show s'.2.2.1 8 = _
      rw [z1.2.2.1 8 (by decide), f8, k1]
    · rw [k2]
      exact hD.fanL hM hT a (by omega) b c e
  · have hw : 0 < ar (Xc s1) (Yc s1) (L p) (R p) (R (p + 1)) := by rw [k2]; exact t1.2.2.2.1
    have hlt : R (p + 1) < n := by rw [k2]; exact lt.2.2
    obtain ⟨s', e1, z1, hF'⟩ := ad39 (w := R (p + 1)) hP' hF.m (by omega) (by omega) (by omega) (b3.lt hn) (by omega) (fun y hy => by have := b5 y hy; omega) (fun y hy => by have := b4 y hy; omega)
    rw [eX, eY] at hF'
    refine ⟨uF 8 (nI (R (p + 1))) s', f12_R ?_ ?_ e1, ?_, ?_, uF_at 8 _ _, _, _, _, _, _, _, (hF'.m : FU s' _ _ _ _ _ _), hA.stepR hZ hp k1 hw hlt (fun t u q a b c e => ?_)⟩
    · rw [f7, k1]
    · rw [f8]
      intro q
      have := (nI_eq (by omega) (by omega)).mp q
      rw [k2] at this
      exact ne.2.1 this.symm
    · exact z.trans ((z1.mono (by decide) (by decide) (by decide) (by decide) : sm [38, 40, 41] [] [6, 7, 8, 9, 10, 11, 12, 13] [] s s').trans (sm_F (by decide) _ s'))
    · show s'.2.2.1 7 = _
      rw [z1.2.2.1 7 (by decide), f7, k1]
    · rw [k2]
      exact hD.fanR hM hT a (by omega) b c e
/-- the side between two triangles of the row -/
theorem f86_ev {s s' : mS} {m i j k : Nat} {T : Nat → Nat → Nat} {lk : Nat → Nat → Prop} (hm : m ≤ 75) (hi : i < m) (hj : j < m) (hU : ∀ i k j j', nx m T lk i k j → nx m T lk i k j' → j = j') (hG : ∀ i k, i < m → k < 3 → ∃ r, f64 (nI i) (nI k) s = some r ∧ gt m T lk i k r) (h26 : ∀ i k, i < m → k < 3 → s.1 26 (3 * i + k) = nI (T i k)) (hs : sd m T lk i j k) (h : ev (fun q => f12 q (nI (T i ((k + 1) % 3))) (nI (T i k)) s) s') : ev (fun q => f86 q (nI i) (nI j) s) s' := by
  obtain ⟨h1, h2, h3⟩ := hs
  have main : ∀ e v, v + e = k → ev (fun q => r86 q (nI i) (nI j) (nI v) s) s' := by
    intro e
    induction e with
    | zero =>
      intro v hv
      have ev' : v = k := by omega
      subst ev'
      obtain ⟨r, r1, r2⟩ := hG i v hi h1
      have er : r = nI j := by
        rcases r2 with ⟨j', a1, a2⟩ | ⟨_, a2⟩
        · rw [a2, hU _ _ _ _ a1 h2]
        · exact absurd h2 (a2 j)
      refine ev1 h fun q hq => ?_
      have hq : f12 q (nI (T i ((v + 1) % 3))) (nI (T i v)) s = some s' := hq
      show r86 (q + 1) (nI i) (nI j) (nI v) s = some s'
      simp only [r86]
      rw [if_neg (show ¬ (3 : Int32) ≤ nI v from fun w => by have := (nI_leI (a := 3) (by omega) (by omega)).mp w; omega), r1]
      simp only [Option.bind_some]
      rw [if_neg (fun w => w er), f53_eq h1 (by omega), f52_eq (by omega), h26 i _ hi (show (v + 1) % 3 < 3 by omega), h26 i v hi h1]
      simp only [Option.bind_some]
      rw [hq]
      rfl
    | succ e ih =>
      intro v hv
      obtain ⟨r, r1, r2⟩ := hG i v hi (by omega)
      have er : ¬ r = nI j := by
        rcases r2 with ⟨j', a1, a2⟩ | ⟨a1, _⟩
        · intro q
          rw [a2] at q
          have := (nI_eq (by have := a1.lt; omega) (by omega)).mp q
          rw [this] at a1
          exact h3 v (by omega) a1
        · rw [a1]
          exact fun q => nI_m1 (by omega) q.symm
      refine ev1 (ih (v + 1) (by omega)) fun q hq => ?_
      have hq : r86 q (nI i) (nI j) (nI (v + 1)) s = some s' := hq
      show r86 (q + 1) (nI i) (nI j) (nI v) s = some s'
      simp only [r86]
      rw [if_neg (show ¬ (3 : Int32) ≤ nI v from fun w => by have := (nI_leI (a := 3) (by omega) (by omega)).mp w; omega), r1]
      simp only [Option.bind_some]
      rw [if_pos er, nI_inc]
      exact hq
  exact main k 0 (by omega)
