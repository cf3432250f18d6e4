/-! the class's way: from the first place to the last turn -/
theorem ev_uniq {α : Type} {f : Nat → Option α} {a b : α} (h1 : ev f a) (h2 : ev f b) : a = b := by
  obtain ⟨K1, k1⟩ := h1
  obtain ⟨K2, k2⟩ := h2
  have a1 := k1 (K1 + K2) (by omega)
  have a2 := k2 (K1 + K2) (by omega)
  rw [a1] at a2
  exact Option.some.inj a2
theorem pe_ar3 {X Y : Nat → Int} {a b : Nat} (h : pe X Y a b) (c d : Nat) : (ar X Y c d a) = (ar X Y c d b) := by unfold ar; rw [h.1, h.2]
theorem hT.rot {X Y : Nat → Int} {T : Nat → Nat → Nat} {i x k : Nat} (h : hT X Y T i x) (hk : k < 3) : inT X Y (T i k) (T i ((k + 1) % 3)) (T i ((k + 2) % 3)) x := by
  have h : inT X Y (T i 0) (T i 1) (T i 2) x := h
  rcases three hk with e | e | e <;> subst e
  · exact h
  · exact inT_rot h
  · exact inT_rot (inT_rot h)
theorem in_at2 {X Y : Nat → Int} {n m u v w i x : Nat} {E : Nat → Nat → Prop} {T : Nat → Nat → Nat} (hM : Mx X Y n E) (hL : TL X Y n E m T) (h : at2 m T u v i) (hx : hT X Y T i x) (hw : Tr X Y n E u v w) : inT X Y u v w x := by
  obtain ⟨hi, k, hk, e1, e2⟩ := h
  have t := hL.tr hi hk
  have r := hx.rot hk
  rw [e1, e2] at t r
  rw [Tr.uniq hM hw t]
  exact r
theorem f85_ev {s : mS} {n i : Nat} (h0 : s.2.2.1 0 = nI n) (hn : n ≤ 40) (hD : Dst (Xc s) (Yc s) n) (hi : i < 42) : ∃ t, ev (fun k => f85 k (nI i) s) (nI t) ∧ (t < n ∨ t = i) ∧ pe (Xc s) (Yc s) t i ∧ ∀ q, q < n → pe (Xc s) (Yc s) q t → q = t := by
  obtain ⟨r, ⟨K, hK⟩, h⟩ := f69_ev h0 hn hi
  rcases h with ⟨p, p1, p2, p3, p4⟩ | ⟨r1, r2⟩
  · refine ⟨p, ⟨K, fun k hk => ?_⟩, Or.inl p1, ⟨p3, p4⟩, fun q hq hp => hD q p hq p1 hp.1 hp.2⟩
    have := hK k hk
    show f85 k (nI i) s = _
    unfold f85
    have : f69 k (nI i) s = some r := this
    rw [this]
    simp only [Option.bind_some]
    rw [p2, if_pos (nI_m1 (by omega))]
  · refine ⟨i, ⟨K, fun k hk => ?_⟩, Or.inr rfl, ⟨rfl, rfl⟩, fun q hq hp => absurd hp (r2 q hq)⟩
    have := hK k hk
    show f85 k (nI i) s = _
    unfold f85
    have : f69 k (nI i) s = some r := this
    rw [this]
    simp only [Option.bind_some]
    rw [r1, if_neg (fun q => q rfl)]
/-- the class's row and mesh as f81 left them -/
def CW (s1 : mS) (n m d : Nat) (E lk : Nat → Nat → Prop) (T : Nat → Nat → Nat) (g a : Nat) (P S : Nat → Nat) : Prop :=
  P42 s1 ∧ n ≤ 40 ∧ d ≤ 74 ∧ m ≤ 75 ∧ Dst (Xc s1) (Yc s1) n ∧ Mx (Xc s1) (Yc s1) n E ∧ TL (Xc s1) (Yc s1) n E m T ∧ Row m T lk g a d P S ∧ s1.2.2.1 0 = nI n ∧ s1.2.2.1 5 = nI (d + 1) ∧ (∀ p, p ≤ d → s1.1 33 p = nI (P p)) ∧
  (∀ i k, i < m → k < 3 → ∃ r, f64 (nI i) (nI k) s1 = some r ∧ gt m T lk i k r) ∧ (∀ i k, i < m → k < 3 → s1.1 26 (3 * i + k) = nI (T i k)) ∧ hT (Xc s1) (Yc s1) T a 40 ∧ hT (Xc s1) (Yc s1) T g 41
/-- a door of the row -/
theorem CW.door {s1 s s' : mS} {n m d p g a : Nat} {E lk : Nat → Nat → Prop} {T : Nat → Nat → Nat} {P S : Nat → Nat} (h : CW s1 n m d E lk T g a P S) (z : sm [38, 40, 41] [] [6, 7, 8, 9, 10, 11, 12, 13] [] s1 s) (hp : p < d) (h12 : ev (fun k => f12 k (nI (dL T P S d p)) (nI (dR' T P S d p)) s) s') {r : Int32 × mS} (hr : ev (fun k => r84 k (nI (p + 2)) s') r) : ev (fun k => r84 k (nI (p + 1)) s) r := by
  obtain ⟨hP, hn, hd, hm, hD, hM, hT, hRow, h0, h5, h33, hG, h26, ha, hb⟩ := h
  have e86 := f86_ev (s := s) (s' := s') (m := m) (i := P p) (j := P (p + 1)) (k := S p) (T := T) (lk := lk) hm (hRow.2.1 p (by omega)).1 (hRow.2.1 (p + 1) (by omega)).1 (fun i k j j' a b => nx_uniq hT a b) (fun i k hi hk => by
    obtain ⟨r, r1, r2⟩ := hG i k hi hk
    exact ⟨r, by rw [f64_same (z.1 26 (by decide)) (z.1 24 (by decide)) (z.1 25 (by decide)) (z.2.1 22 (by decide))]; exact r1, r2⟩) (fun i k hi hk => by rw [z.1 26 (by decide)]; exact h26 i k hi hk) (hRow.2.2 p hp).2 (by
    unfold dL dR' at h12
    rw [if_pos hp, if_pos hp] at h12
    exact h12)
  refine ev2 e86 hr fun k h1 h2 => ?_
  have h1 : f86 k (nI (P p)) (nI (P (p + 1))) s = some s' := h1
  have h2 : r84 k (nI (p + 2)) s' = some r := h2
  show r84 (k + 1) (nI (p + 1)) s = some r
  simp only [r84]
  rw [z.2.2.1 5 (by decide), h5, if_neg (fun q => by have := (nI_leI (by omega) (by omega)).mp q; omega), nI_s1 (by omega), rdI_nI (show p < 75 by omega) (by decide), rdI_nI (show p + 1 < 75 by omega) (by decide), nI_clamp (by omega), nI_clamp (by omega), z.1 33 (by decide), h33 p (by omega), h33 (p + 1) (by omega), h1]
  simp only [Option.bind_some]
  rw [nI_inc]
  exact h2
/-- the end of the loop -/
theorem r84_fin {s s' : mS} {d b : Nat} (h5 : s.2.2.1 5 = nI (d + 1)) (hd : d ≤ 74) (hb : ev (fun k => f85 k (nI 41) s) (nI b)) (h : ev (fun k => f17 k (nI b) s) s') : ev (fun k => r84 k (nI (d + 1)) s) (s'.2.2.1 9, s') := by
  refine ev2 hb h fun k h1 h2 => ?_
  have h1 : f85 k 41 s = some (nI b) := h1
  have h2 : f17 k (nI b) s = some s' := h2
  show r84 (k + 1) (nI (d + 1)) s = _
  simp only [r84]
  rw [h5, if_pos (Int32.le_refl _), h1]
  simp only [Option.bind_some]
  rw [h2]
  rfl
/-- all doors after p -/
theorem CW.doors {s1 : mS} {n m d g a t0 : Nat} {E lk : Nat → Nat → Prop} {T : Nat → Nat → Nat} {P S : Nat → Nat} {ZN : ZNt} {ZS : ZSt} {Z0 : (List Nat → Prop) → Prop} (h : CW s1 n m d E lk T g a P S) (hZ : ∀ G, Zc (Xc s1) (Yc s1) (dL T P S d) (dR' T P S d) d (ZN G) (ZS G)) : ∀ e p s, p + 1 + e = d → CI s1 n (dL T P S d) (dR' T P S d) ZN ZS Z0 t0 p s → ∃ s', CI s1 n (dL T P S d) (dR' T P S d) ZN ZS Z0 t0 (d - 1) s' ∧ ∀ r, ev (fun k => r84 k (nI (d + 1)) s') r → ev (fun k => r84 k (nI (p + 2)) s) r := by
  intro e
  induction e with
  | zero =>
    intro p s he hc
    have ep : p = d - 1 := by omega
    refine ⟨s, by rw [← ep]; exact hc, fun r hr => ?_⟩
    rw [show p + 2 = d + 1 by omega]
    exact hr
  | succ e ih =>
    intro p s he hc
    have h' := h
    obtain ⟨hP, hn, hd, hm, hD, hM, hT, hRow, h0, h5, h33, hG, h26, ha, hb⟩ := h'
    obtain ⟨s2, e2, c2⟩ := hc.step hP hn hd hM hT (hRow.Dr hT) hZ (by omega)
    obtain ⟨s', k1, k2⟩ := ih (p + 1) s2 (by omega) c2
    exact ⟨s', k1, fun r hr => h.door hc.1 (by omega) e2 (k2 r hr)⟩
