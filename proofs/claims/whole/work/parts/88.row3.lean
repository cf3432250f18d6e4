/-! the reference's row and its doors -/
/-- the row of p + 1 triangles and the doors between them -/
def RP (s0 u : mS) (T : Nat → Nat → Nat) (P S : Nat → Nat) (p : Nat) : Prop := sm [48, 51, 52] [] [18] [] s0 u ∧ u.2.2.1 18 = nI (p + 1) ∧ (∀ q, q ≤ p → u.1 48 q = nI (P q)) ∧ ∀ q, q < p → u.1 52 q = nI (T (P q) (S q)) ∧ u.1 51 q = nI (T (P q) ((S q + 1) % 3))
theorem sd_uniq {m : Nat} {T : Nat → Nat → Nat} {lk : Nat → Nat → Prop} {i j k k' : Nat} (h : sd m T lk i j k) (h' : sd m T lk i j k') : k = k' := by
  rcases Nat.lt_trichotomy k k' with q | q | q
  · exact absurd h.2.1 (h'.2.2 k q)
  · exact q
  · exact absurd h'.2.1 (h.2.2 k' q)
theorem r147_ev {s0 : mS} {m g a d : Nat} {T : Nat → Nat → Nat} {lk : Nat → Nat → Prop} {P S : Nat → Nat} (v1 v2 v3 v4 v5 : Int32) (hm : m ≤ 75) (hg : g < m) (hb : ∀ i k, i < m → k < 3 → T i k < 40) (hU : ∀ i k j j', nx m T lk i k j → nx m T lk i k j' → j = j') (h47 : ∀ i k, i < m → k < 3 → s0.1 47 (3 * i + k) = nI (T i k)) (hG : ∀ s', sm [48, 51, 52] [] [18] [] s0 s' → ∀ i k, i < m → k < 3 → ∃ r, ev (fun q => f149 q (nI i) (nI k) s') r ∧ gt m T lk i k r) (hd : dR s0 m T lk g) (hd74 : d ≤ 74) (hR : Row m T lk g a d P S) :
    ∀ e p, p + e = d → ∀ s, RP s0 s T P S p → ∃ u, RP s0 u T P S d ∧ ∀ r t, ev (fun k => (f151 k u).bind fun q3 => (f152 k q3).bind fun q5 => some ((q5.2.2.1 19), q5)) (r, t) → ev (fun k => r147 k v1 v2 v3 v4 v5 (nI g) s) (r, t) := by
  intro e
  induction e with
  | zero =>
    intro p hp s hs
    have ep : p = d := by omega
    subst ep
    refine ⟨s, hs, fun r t h => ev1 h fun k hk => ?_⟩
    show r147 (k + 1) _ _ _ _ _ _ _ = _
    have eg := (hR.goal (Nat.le_refl p)).mpr rfl
    simp only [r147]
    rw [hs.2.1, nI_s1 (by omega), rdI_nI (show p < 100 by omega) (by decide), nI_clamp (by omega), hs.2.2.1 p (Nat.le_refl _), eg, if_pos rfl]
    exact hk
  | succ e ih =>
    intro p hp s hs
    have hpd : p < d := by omega
    obtain ⟨z, z18, z48, zd⟩ := hs
    have hP := hR.2.1 p (by omega)
    have hI := hP.2
    rw [show d - p = (d - p - 1) + 1 by omega] at hI
    have ng : ¬ P p = g := fun q => by have := (hR.goal (by omega)).mp q; omega
    obtain ⟨t, j, k, q1, q2, q3, q4, q5, q6, q7, q8, q9, q10⟩ := f150_ev (s := s) hm (show p + 1 < 100 by omega) hb hU z18 (fun i k hi hk => by rw [z.1 47 (by decide)]; exact h47 i k hi hk) (fun s' hz => hG s' (z.trans (hz.mono (by decide) (by decide) (by decide) (by decide)))) (hd.same (z.1 50 (by decide))) hP.1 hI
    have ej : j = P (p + 1) := mn_uniq q2 (hR.2.2 p hpd).1
    rw [ej] at q3 q6
    have ek : k = S p := sd_uniq q3 (hR.2.2 p hpd).2
    rw [ek] at q8 q9
    obtain ⟨u, u1, u2⟩ := ih (p + 1) (by omega) t ⟨z.trans q4, q5, fun q hq => by
      by_cases e : q = p + 1
      · rw [e]; exact q6
      · rw [q7 q e]; exact z48 q (by omega), fun q hq => by
      by_cases e : q = p
      · rw [e]; exact ⟨q8, q9⟩
      · rw [(q10 q e).1, (q10 q e).2]; exact zd q (by omega)⟩
    refine ⟨u, u1, fun r t' h => ev2 q1 (u2 r t' h) fun k hk1 hk2 => ?_⟩
    show r147 (k + 1) _ _ _ _ _ _ _ = _
    have hk1 : f150 k (nI (P p)) s = some t := hk1
    have hgm : ¬ nI (P p) = nI g := fun q => ng ((nI_eq (by have := hP.1; omega) (by omega)).mp q)
    simp only [r147]
    rw [z18, nI_s1 (by omega), rdI_nI (show p < 100 by omega) (by decide), nI_clamp (by omega), z48 p (Nat.le_refl _), if_neg hgm, rdI_nI (show p < 100 by omega) (by decide), hk1]
    exact hk2
