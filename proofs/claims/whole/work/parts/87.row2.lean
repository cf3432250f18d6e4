/-! the row of triangles, in both -/
theorem nI_s1 {p : Nat} (h : p + 1 < 2 ^ 31) : nI (p + 1) - 1 = nI p := by
  have := nI_s (a := p + 1) (b := 1) (by omega) h
  rw [show p + 1 - 1 = p by omega] at this
  exact this
theorem dC.same {s t : mS} {m g : Nat} {T : Nat → Nat → Nat} {lk : Nat → Nat → Prop} (h : dC s m T lk g) (e : t.1 34 = s.1 34) : dC t m T lk g := fun i hi => by rw [e]; exact h i hi
theorem dR.same {s t : mS} {m g : Nat} {T : Nat → Nat → Nat} {lk : Nat → Nat → Prop} (h : dR s m T lk g) (e : t.1 50 = s.1 50) : dR t m T lk g := fun i hi => by rw [e]; exact h i hi
theorem f81_ev {s0 : mS} {m g a : Nat} {T : Nat → Nat → Nat} {lk : Nat → Nat → Prop} (hl : ∀ x y, lk x y → lk y x) (hm : m ≤ 75) (hg : g < m) (ha : a < m) (h2 : s0.2.2.1 2 = nI m) (hU : ∀ i k j j', nx m T lk i k j → nx m T lk i k j' → j = j') (hG : ∀ i k, i < m → k < 3 → ∃ r, f64 (nI i) (nI k) s0 = some r ∧ gt m T lk i k r) :
    (∀ i, i < m → (∃ d, Ds m T lk g i d ∧ d ≤ 74) ∨ ∀ d, ¬ wk m T lk g d i) ∧
    (((∀ d, ¬ wk m T lk g d a) ∧ ∃ t, ev (fun k => f81 k (nI a) (nI g) s0) (0, t) ∧ sm [34, 35] [] [] [] s0 t) ∨
     (∃ d P S t, d ≤ 74 ∧ Row m T lk g a d P S ∧ ev (fun k => f81 k (nI a) (nI g) s0) (1, t) ∧ sm [33, 34, 35] [] [5] [] s0 t ∧ t.2.2.1 5 = nI (d + 1) ∧ ∀ p, p ≤ d → t.1 33 p = nI (P p))) := by
  obtain ⟨t0, a1, a2, a3⟩ := f82_ev hl hm hg h2 hU hG
  refine ⟨fun i hi => ?_, ?_⟩
  · rcases a3 i hi with ⟨d, h1, h2, _⟩ | ⟨_, h⟩
    · exact Or.inl ⟨d, h1, h2⟩
    · exact Or.inr h
  · rcases a3 a ha with ⟨d, h1, h2d, h3⟩ | ⟨h1, h2'⟩
    · right
      obtain ⟨P, S, hR⟩ := Row_ex d a ha h1
      let s9 := uA 33 (upd (t0.1 33) 0 (nI a)) (uF 5 (nI (d + 1)) t0)
      have z9 : sm [33, 34, 35] [] [5] [] s0 s9 := (a2.mono (by decide) (by decide) (by decide) (by decide)).trans ((sm_F (by decide) _ t0).trans (sm_A (by decide) _ _))
      have main : ∀ e p, p + e = d → ∀ s, sm [33] [] [] [] s9 s → (∀ q, q ≤ p → s.1 33 q = nI (P q)) → ∃ t, ev (fun k => r81 k (nI a) (nI g) (nI (p + 1)) s) (1, t) ∧ sm [33] [] [] [] s9 t ∧ ∀ q, q ≤ d → t.1 33 q = nI (P q) := by
        intro e
        induction e with
        | zero =>
          intro p hp s hz hs
          have ep : p = d := by omega
          subst ep
          have h5 : s.2.2.1 5 = nI (p + 1) := by rw [hz.2.2.1 5 (by decide)]; exact uF_at 5 _ t0
          refine ⟨s, ev_c fun k => ?_, hz, hs⟩
          simp only [r81]
          rw [h5, if_pos ((nI_leI (by omega) (by omega)).mpr (Nat.le_refl _))]
        | succ e ih =>
          intro p hp s hz hs
          have h5 : s.2.2.1 5 = nI (d + 1) := by rw [hz.2.2.1 5 (by decide)]; exact uF_at 5 _ t0
          have hpd : p < d := by omega
          have zs : sm [33, 34, 35] [] [5] [] s0 s := z9.trans (hz.mono (by decide) (by decide) (by decide) (by decide))
          have hG' : ∀ i k, i < m → k < 3 → ∃ r, f64 (nI i) (nI k) s = some r ∧ gt m T lk i k r := fun i k hi hk => by
            obtain ⟨r, r1, r2⟩ := hG i k hi hk
            exact ⟨r, by rw [f64_same (zs.1 26 (by decide)) (zs.1 24 (by decide)) (zs.1 25 (by decide)) (zs.2.1 22 (by decide))]; exact r1, r2⟩
          have hdc : dC s m T lk g := a3.same (by rw [hz.1 34 (by decide)]; rfl)
          have hP := hR.2.1 p (by omega)
          have hI := hP.2
          rw [show d - p = (d - p - 1) + 1 by omega] at hI
          obtain ⟨j, j1, j2⟩ := f83_ev hm hU hG' hdc hP.1 hI
          have ej : j = P (p + 1) := mn_uniq j2 (hR.2.2 p hpd).1
          rw [ej] at j1
          obtain ⟨t, q1, q2, q3⟩ := ih (p + 1) (by omega) (uA 33 (upd (s.1 33) (p + 1) (nI (P (p + 1)))) s) (hz.trans (sm_A (by decide) _ s)) (fun q hq => by
            rw [uA_at]
            unfold upd
            by_cases e : q = p + 1
            · rw [if_pos e, e]
            · rw [if_neg e]; exact hs q (by omega))
          refine ⟨t, ev2 j1 q1 fun k hk1 hk2 => ?_, q2, q3⟩
          show r81 (k + 1) _ _ _ _ = _
          simp only [r81]
          rw [h5, if_neg (fun q => by have := (nI_leI (by omega) (by omega)).mp q; omega), show (1 : Int32) = nI 1 from rfl, nI_s (by omega) (by omega), show p + 1 - 1 = p by omega, rdI_nI (show p < 75 by omega) (by decide), nI_clamp (by omega), hs p (Nat.le_refl _), hk1]
          simp only [Option.bind_some]
          rw [rdI_nI (show p + 1 < 75 by omega) (by decide), nI_clamp (by omega), nI_inc]
          exact hk2
      obtain ⟨t, q1, q2, q3⟩ := main d 0 (by omega) s9 (sm.refl s9) (fun q hq => by
        have e : q = 0 := by omega
        rw [e, hR.1]
        show upd (t0.1 33) 0 (nI a) 0 = _
        unfold upd
        rw [if_pos rfl])
      refine ⟨d, P, S, t, h2d, hR, evm2 a1 q1 fun k hk1 hk2 => ?_, z9.trans (q2.mono (by decide) (by decide) (by decide) (by decide)), by rw [q2.2.2.1 5 (by decide)]; exact uF_at 5 _ t0, q3⟩
      show f81 k (nI a) (nI g) s0 = _
      have hk1 : f82 k (nI g) s0 = some t0 := hk1
      unfold f81
      rw [hk1]
      simp only [Option.bind_some]
      rw [rdI_nI (show a < 75 by omega) (by decide), rdI_nI (show a < 75 by omega) (by decide), nI_clamp (by omega), h3, if_pos (nI_m1 (by omega)), nI_1]
      simp only [pt]
      rw [show (0 : Int32) = nI 0 from rfl, rdI_nI (by decide) (by decide), nI_clamp (by decide)]
      exact hk2
    · left
      refine ⟨h2', t0, evm a1 fun k hk => ?_, a2⟩
      show f81 k (nI a) (nI g) s0 = _
      have hk : f82 k (nI g) s0 = some t0 := hk
      unfold f81
      rw [hk]
      simp only [Option.bind_some]
      rw [rdI_nI (show a < 75 by omega) (by decide), nI_clamp (by omega), h1, if_neg (fun q => q rfl)]
/-- one step of the reference's row -/
theorem f150_ev {s : mS} {m g p d i : Nat} {T : Nat → Nat → Nat} {lk : Nat → Nat → Prop} (hm : m ≤ 75) (hp : p + 1 < 100) (hb : ∀ i k, i < m → k < 3 → T i k < 40) (hU : ∀ i k j j', nx m T lk i k j → nx m T lk i k j' → j = j') (h18 : s.2.2.1 18 = nI (p + 1)) (h47 : ∀ i k, i < m → k < 3 → s.1 47 (3 * i + k) = nI (T i k)) (hG : ∀ s', sm [51, 52] [] [] [] s s' → ∀ i k, i < m → k < 3 → ∃ r, ev (fun q => f149 q (nI i) (nI k) s') r ∧ gt m T lk i k r) (hd : dR s m T lk g) (hi : i < m) (hI : Ds m T lk g i (d + 1)) :
    ∃ t j k, ev (fun q => f150 q (nI i) s) t ∧ mn m T lk g i d j ∧ sd m T lk i j k ∧ sm [48, 51, 52] [] [18] [] s t ∧ t.2.2.1 18 = nI (p + 2) ∧ t.1 48 (p + 1) = nI j ∧ (∀ q, q ≠ p + 1 → t.1 48 q = s.1 48 q) ∧ t.1 52 p = nI (T i k) ∧ t.1 51 p = nI (T i ((k + 1) % 3)) ∧ (∀ q, q ≠ p → t.1 52 q = s.1 52 q ∧ t.1 51 q = s.1 51 q) := by
  have ai : s.1 50 i = nI (d + 1) ∧ d + 1 ≤ 74 := by
    rcases hd i hi with ⟨e, h1, h2, h3⟩ | ⟨_, h2⟩
    · have := Ds_uniq hI h1
      rw [← this] at h2 h3
      exact ⟨h3, h2⟩
    · exact absurd hI.1 (h2 _)
  have aj : ∀ j, j < m → (s.1 50 j = nI d ↔ Ds m T lk g j d) := by
    intro j hj
    rcases hd j hj with ⟨e, h1, h2, h3⟩ | ⟨h1, h2⟩
    · rw [h3]
      constructor
      · intro q
        have : e = d := (nI_eq (by omega) (by omega)).mp q
        rw [← this]; exact h1
      · intro q
        rw [Ds_uniq h1 q]
    · rw [h1]
      exact ⟨fun q => by have := (nI_eq (by omega) (by omega)).mp q; omega, fun q => absurd q.1 (h2 _)⟩
  let I : Nat → Int32 → mS → Prop := fun k v u => sm [51, 52] [] [] [] s u ∧ (∀ q, q ≠ p → u.1 52 q = s.1 52 q ∧ u.1 51 q = s.1 51 q) ∧ ((v = nI 1000 ∧ ∀ k' j, k' < k → nx m T lk i k' j → ¬ Ds m T lk g j d) ∨ (∃ j k0, v = nI j ∧ Ds m T lk g j d ∧ k0 < k ∧ sd m T lk i j k0 ∧ u.1 52 p = nI (T i k0) ∧ u.1 51 p = nI (T i ((k0 + 1) % 3)) ∧ ∀ k' j', k' < k → nx m T lk i k' j' → Ds m T lk g j' d → j ≤ j'))
  have main : ∀ e k, k + e = 3 → ∀ v u, I k v u → ∃ w u2, I 3 w u2 ∧ ∀ t, ev (fun q => r150 q (nI i) w (nI 3) u2) t → ev (fun q => r150 q (nI i) v (nI k) u) t := by
    intro e
    induction e with
    | zero =>
      intro k hk v u hv
      have ek : k = 3 := by omega
      subst ek
      exact ⟨v, u, hv, fun t h => h⟩
    | succ e ih =>
      intro k hk v u hv
      have hk3 : k < 3 := by omega
      obtain ⟨z, oth, hv⟩ := hv
      obtain ⟨r, r1, r2⟩ := hG u z i k hi hk3
      have h18u : u.2.2.1 18 = nI (p + 1) := by rw [z.2.2.1 18 (by decide)]; exact h18
      have h50 : u.1 50 = s.1 50 := z.1 50 (by decide)
      have h47u : u.1 47 = s.1 47 := z.1 47 (by decide)
      have nx1 : ∀ q, f149 q (nI i) (nI k) u = some r → r < 0 → r150 (q + 1) (nI i) v (nI k) u = r150 q (nI i) v (nI (k + 1)) u := by
        intro q hq hr
        simp only [r150]
        rw [show (3 : Int32) = nI 3 from rfl, if_neg (fun q => by have := (nI_leI (by omega) (by omega)).mp q; omega), hq]
        simp only [Option.bind_some]
        rw [if_pos hr, nI_inc]
      have keep : (∀ j, nx m T lk i k j → ¬ Ds m T lk g j d) → I (k + 1) v u := by
        intro hno
        refine ⟨z, oth, ?_⟩
        rcases hv with ⟨v1, v2⟩ | ⟨j, k0, v1, v2, v3, v4, v5, v6, v7⟩
        · refine Or.inl ⟨v1, fun k' j h1 h2 => ?_⟩
          by_cases e : k' = k
          · rw [e] at h2; exact hno j h2
          · exact v2 k' j (by omega) h2
        · refine Or.inr ⟨j, k0, v1, v2, by omega, v4, v5, v6, fun k'' j' h1 h2 h3 => ?_⟩
          by_cases e : k'' = k
          · rw [e] at h2; exact absurd h3 (hno j' h2)
          · exact v7 k'' j' (by omega) h2 h3
      rcases r2 with ⟨j, hx, ej⟩ | ⟨er, hno⟩
      · have hjm := hx.lt
        have l1 := hb i k hi hk3
        have l2 := hb i _ hi (show (k + 1) % 3 < 3 by omega)
        let u2 := uA 51 (upd (u.1 51) p (nI (T i ((k + 1) % 3)))) (uA 52 (upd (u.1 52) p (nI (T i k))) u)
        have b2 : ∀ q, f149 q (nI i) (nI k) u = some (nI j) → r150 (q + 1) (nI i) v (nI k) u = if ¬ u.1 50 j = nI d then r150 q (nI i) v (nI (k + 1)) u else if v ≤ nI j then r150 q (nI i) v (nI (k + 1)) u else r150 q (nI i) (nI j) (nI (k + 1)) u2 := by
          intro q hq
          have e50 : u.1 50 i = nI (d + 1) := by rw [h50]; exact ai.1
          simp only [r150]
          rw [if_neg (fun q => by have := (nI_leI (show 3 < 2 ^ 31 by decide) (show k < 2 ^ 31 by omega)).mp q; omega), hq]
          simp only [Option.bind_some]
          rw [if_neg (nI_pos (by omega)), rdI_nI (show j < 100 by omega) (by decide), rdI_nI (show i < 100 by omega) (by decide), nI_clamp (by omega), nI_clamp (by omega), e50, nI_s1 (p := d) (by omega), h18u, nI_s1 (p := p) (by omega), md3 k hk3, nI_3, nI_add, nI_add, nI_inc, rdI_nI (show 3 * i + k < 300 by omega) (by decide), nI_clamp (by omega), rdI_nI (show p < 100 by omega) (by decide), nI_clamp (by omega), h47u, h47 i k hi hk3]
          split
          · rfl
          · split
            · rfl
            · simp only [pt]
              have h18' : (uA 52 (upd (u.1 52) p (nI (T i k))) u).2.2.1 18 = nI (p + 1) := h18u
              have h47' : (uA 52 (upd (u.1 52) p (nI (T i k))) u).1 47 (3 * i + (k + 1) % 3) = nI (T i ((k + 1) % 3)) := by
                show u.1 47 (3 * i + (k + 1) % 3) = _
                rw [h47u, h47 i _ hi (by omega)]
              rw [rdI_nI (show 3 * i + (k + 1) % 3 < 300 by omega) (by decide), h18', nI_s1 (p := p) (by omega), rdI_nI (show p < 100 by omega) (by decide), nI_clamp (by omega), nI_clamp (by omega), h47']
              rfl
        rw [ej] at r1
        have hu2 : (∀ k' j', k' < k → nx m T lk i k' j' → Ds m T lk g j' d → j < j') → Ds m T lk g j d → I (k + 1) (nI j) u2 := by
          intro hlt c
          refine ⟨z.trans ((sm_A (by decide) _ u).trans (sm_A (by decide) _ _)), fun q hq => ?_, Or.inr ⟨j, k, rfl, c, by omega, ⟨hk3, hx, fun k' hk' hx' => ?_⟩, ?_, ?_, fun k' j' h1 h2 h3 => ?_⟩⟩
          · have o := oth q hq
            have e1 : u2.1 52 = upd (u.1 52) p (nI (T i k)) := rfl
            have e2 : u2.1 51 = upd (u.1 51) p (nI (T i ((k + 1) % 3))) := rfl
            rw [e1, e2]
            unfold upd
            rw [if_neg hq, if_neg hq]
            exact o
          · have := hlt k' j hk' hx' c
            omega
          · have e1 : u2.1 52 = upd (u.1 52) p (nI (T i k)) := rfl
            rw [e1]
            unfold upd
            rw [if_pos rfl]
          · have e2 : u2.1 51 = upd (u.1 51) p (nI (T i ((k + 1) % 3))) := rfl
            rw [e2]
            unfold upd
            rw [if_pos rfl]
          · by_cases e : k' = k
            · rw [e] at h2; rw [hU _ _ _ _ h2 hx]; exact Nat.le_refl _
            · have := hlt k' j' (by omega) h2 h3; omega
        by_cases c : Ds m T lk g j d
        · have cj : u.1 50 j = nI d := by rw [h50]; exact (aj j hjm).mpr c
          rcases hv with ⟨v1, v2⟩ | ⟨j0, k0, v1, v2, v3, v4, v5, v6, v7⟩
          · obtain ⟨w, u3, w1, w2⟩ := ih (k + 1) (by omega) (nI j) u2 (hu2 (fun k' j' h1 h2 h3 => absurd h3 (v2 k' j' h1 h2)) c)
            refine ⟨w, u3, w1, fun t ht => ev2 r1 (w2 t ht) fun q hq1 hq2 => ?_⟩
            show r150 (q + 1) _ _ _ _ = _
            rw [b2 q hq1, if_neg (fun z => z cj), v1, if_neg (fun z => by have := (nI_leI (by omega) (by omega)).mp z; omega)]
            exact hq2
          · have hj0 := v4.2.1.lt
            by_cases cl : j0 ≤ j
            · obtain ⟨w, u3, w1, w2⟩ := ih (k + 1) (by omega) v u ⟨z, oth, Or.inr ⟨j0, k0, v1, v2, by omega, v4, v5, v6, fun k'' j' h1 h2 h3 => by
                by_cases e : k'' = k
                · rw [e] at h2; rw [hU _ _ _ _ h2 hx]; exact cl
                · exact v7 k'' j' (by omega) h2 h3⟩⟩
              refine ⟨w, u3, w1, fun t ht => ev2 r1 (w2 t ht) fun q hq1 hq2 => ?_⟩
              show r150 (q + 1) _ _ _ _ = _
              rw [b2 q hq1, if_neg (fun z => z cj), v1, if_pos ((nI_leI (by omega) (by omega)).mpr cl), ← v1]
              exact hq2
            · obtain ⟨w, u3, w1, w2⟩ := ih (k + 1) (by omega) (nI j) u2 (hu2 (fun k' j' h1 h2 h3 => by have := v7 k' j' h1 h2 h3; omega) c)
              refine ⟨w, u3, w1, fun t ht => ev2 r1 (w2 t ht) fun q hq1 hq2 => ?_⟩
              show r150 (q + 1) _ _ _ _ = _
              rw [b2 q hq1, if_neg (fun z => z cj), v1, if_neg (fun z => cl ((nI_leI (by omega) (by omega)).mp z))]
              exact hq2
        · obtain ⟨w, u3, w1, w2⟩ := ih (k + 1) (by omega) v u (keep fun j' h => by rw [hU _ _ _ _ h hx]; exact c)
          refine ⟨w, u3, w1, fun t ht => ev2 r1 (w2 t ht) fun q hq1 hq2 => ?_⟩
          show r150 (q + 1) _ _ _ _ = _
          rw [b2 q hq1, if_pos (fun z => c ((aj j hjm).mp (by rw [← h50]; exact z)))]
          exact hq2
      · obtain ⟨w, u3, w1, w2⟩ := ih (k + 1) (by omega) v u (keep fun j' h => absurd h (hno j'))
        refine ⟨w, u3, w1, fun t ht => ev2 r1 (w2 t ht) fun q hq1 hq2 => ?_⟩
        show r150 (q + 1) _ _ _ _ = _
        rw [nx1 q hq1 (by rw [er]; decide)]
        exact hq2
  obtain ⟨w, u, ⟨z, oth, w2⟩, w3⟩ := main 3 0 (by omega) (nI 1000) s ⟨sm.refl s, fun q _ => ⟨rfl, rfl⟩, Or.inl ⟨rfl, fun k' _ h => by omega⟩⟩
  rcases w2 with ⟨_, h2⟩ | ⟨j, k0, h1, h2, h3, h4, h5, h6, h7⟩
  · obtain ⟨j, ⟨k, hk, hx⟩, hj⟩ := Ds_next hI
    exact absurd hj (h2 k j hk hx)
  · let t := uF 18 (nI (p + 2)) (uA 48 (upd (u.1 48) (p + 1) (nI j)) u)
    have h18u : u.2.2.1 18 = nI (p + 1) := by rw [z.2.2.1 18 (by decide)]; exact h18
    have et : ev (fun q => r150 q (nI i) w (nI 3) u) t := ev_c fun q => by
      simp only [r150]
      rw [if_pos (show (3 : Int32) ≤ nI 3 by decide), h18u, rdI_nI (show p + 1 < 100 by omega) (by decide), nI_clamp (by omega), h1]
      simp only [pt]
      have h18' : (uA 48 (upd (u.1 48) (p + 1) (nI j)) u).2.2.1 18 = nI (p + 1) := h18u
      rw [h18', nI_1]
    refine ⟨t, j, k0, w3 t et, ⟨⟨k0, h3, h4.2.1⟩, h2, fun j' ⟨k, hk, hx⟩ hj => h7 k j' hk hx hj⟩, h4, (z.mono (by decide) (by decide) (by decide) (by decide)).trans ((sm_A (by decide) _ u).trans (sm_F (by decide) _ _)), uF_at 18 _ _, ?_, fun q hq => ?_, h5, h6, oth⟩
    · show upd (u.1 48) (p + 1) (nI j) (p + 1) = _
      unfold upd
      rw [if_pos rfl]
    · show upd (u.1 48) (p + 1) (nI j) q = _
      unfold upd
      rw [if_neg hq, z.1 48 (by decide)]
