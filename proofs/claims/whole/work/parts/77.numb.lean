/-! the numbered triangles, in both; corner, across, edge, locate -/
/-- T i 0, T i 1, T i 2 are the corners of triangle i of m -/
def TL (X Y : Nat → Int) (n : Nat) (E : Nat → Nat → Prop) (m : Nat) (T : Nat → Nat → Nat) : Prop :=
  (∀ i, i < m → Tr X Y n E (T i 0) (T i 1) (T i 2)) ∧
  (∀ a b c, Tr X Y n E a b c → ∃ i k, i < m ∧ k < 3 ∧ T i k = a ∧ T i ((k + 1) % 3) = b) ∧
  (∀ i k i' k', i < m → i' < m → k < 3 → k' < 3 → T i k = T i' k' → T i ((k + 1) % 3) = T i' ((k' + 1) % 3) → i = i' ∧ k = k')
theorem TL.over {X Y X' Y' : Nat → Int} {n m : Nat} {E : Nat → Nat → Prop} {T : Nat → Nat → Nat} (h : TL X Y n E m T) (ha : agr X Y X' Y' n) (hM : Mx X Y n E) : TL X' Y' n E m T :=
  ⟨fun i hi => ha.xTr hM (h.1 i hi), fun a b c hT => h.2.1 a b c ((ha.xTr_iff hM).mpr hT), h.2.2⟩
theorem three {k : Nat} (h : k < 3) : k = 0 ∨ k = 1 ∨ k = 2 := by omega
theorem TL.tr {X Y : Nat → Int} {n m : Nat} {E : Nat → Nat → Prop} {T : Nat → Nat → Nat} (h : TL X Y n E m T) {i k : Nat} (hi : i < m) (hk : k < 3) : Tr X Y n E (T i k) (T i ((k + 1) % 3)) (T i ((k + 2) % 3)) := by
  have := h.1 i hi
  rcases three hk with e | e | e <;> subst e
  · exact this
  · exact this.rot
  · exact this.rot.rot
theorem TL.lt {X Y : Nat → Int} {n m : Nat} {E : Nat → Nat → Prop} {T : Nat → Nat → Nat} (h : TL X Y n E m T) (hM : Mx X Y n E) {i k : Nat} (hi : i < m) (hk : k < 3) : T i k < n := ((h.tr hi hk).lt hM).1
/-- triangle j has the side from u to v -/
def at2 (m : Nat) (T : Nat → Nat → Nat) (u v j : Nat) : Prop := j < m ∧ ∃ k, k < 3 ∧ T j k = u ∧ T j ((k + 1) % 3) = v
def nb (m : Nat) (T : Nat → Nat → Nat) (u v : Nat) (r : Int32) : Prop := (∃ j, at2 m T u v j ∧ r = nI j) ∨ (r = -1 ∧ ∀ j, ¬ at2 m T u v j)
theorem at2_uniq {X Y : Nat → Int} {n m u v i j : Nat} {E : Nat → Nat → Prop} {T : Nat → Nat → Nat} (h : TL X Y n E m T) (h1 : at2 m T u v i) (h2 : at2 m T u v j) : i = j := by
  obtain ⟨hi, k, hk, e1, e2⟩ := h1
  obtain ⟨hj, k', hk', e1', e2'⟩ := h2
  exact (h.2.2 i k j k' hi hj hk hk' (by rw [e1, e1']) (by rw [e2, e2'])).1
theorem nb_uniq {X Y : Nat → Int} {n m u v : Nat} {E : Nat → Nat → Prop} {T : Nat → Nat → Nat} (h : TL X Y n E m T) {r r' : Int32} (h1 : nb m T u v r) (h2 : nb m T u v r') : r = r' := by
  rcases h1 with ⟨i, a1, e1⟩ | ⟨e1, a1⟩ <;> rcases h2 with ⟨j, a2, e2⟩ | ⟨e2, a2⟩
  · rw [e1, e2, at2_uniq h a1 a2]
  · exact absurd a1 (a2 i)
  · exact absurd a2 (a1 j)
  · rw [e1, e2]
theorem at2_has {X Y : Nat → Int} {n m u v : Nat} {E : Nat → Nat → Prop} {T : Nat → Nat → Nat} (h : TL X Y n E m T) : (∃ j, at2 m T u v j) ↔ hasT X Y n E u v := by
  constructor
  · intro ⟨j, hj, k, hk, e1, e2⟩
    have := h.tr hj hk
    rw [e1, e2] at this
    exact ⟨_, this⟩
  · intro ⟨c, hc⟩
    obtain ⟨i, k, h1, h2, h3, h4⟩ := h.2.1 u v c hc
    exact ⟨i, h1, k, h2, h3, h4⟩
/-- the class has them -/
def CT (s : mS) (n : Nat) (E : Nat → Nat → Prop) (m : Nat) (T : Nat → Nat → Nat) : Prop := TL (Xc s) (Yc s) n E m T ∧ m ≤ 75 ∧ s.2.2.1 2 = nI m ∧ ∀ i k, i < m → k < 3 → s.1 26 (3 * i + k) = nI (T i k) ∧ s.1 25 (40 * T i k + T i ((k + 1) % 3)) = nI i
/-- the reference has them -/
def RT (s : mS) (m : Nat) (T : Nat → Nat → Nat) : Prop := s.2.2.1 17 = nI m ∧ ∀ i k, i < m → k < 3 → s.1 47 (3 * i + k) = nI (T i k)
noncomputable def Tf (X Y : Nat → Int) (n : Nat) (E : Nat → Nat → Prop) (L : List Nat) (i k : Nat) : Nat := if k = 0 then L.getD i 0 / 40 else if k = 1 then L.getD i 0 % 40 else thd X Y n E (L.getD i 0 / 40) (L.getD i 0 % 40)
theorem CL.ct {s : mS} {n : Nat} {E lk : Nat → Nat → Prop} (h : CL s n E lk) : ∃ m T, CT s n E m T ∧ ∀ t, agr (Xc s) (Yc s) (Xm t) (Ym t) n → MM t n E → RT t m T ∧ (0 < m → tb46 t E) := by
  have hC := h.1.1
  obtain ⟨c1, c2, c3, c4, c5, c6⟩ := hC
  obtain ⟨L, hL, hN⟩ := h.1.2.2.1
  have h75 := NL_75 c4 (c1.Bd c3) c3 c5 hL
  -- the corners of i
  have cor : ∀ i, i < L.length → ∃ a b z, L[i]? = some (40 * a + b) ∧ b < 40 ∧ Tr (Xc s) (Yc s) n E a b z ∧ Tf (Xc s) (Yc s) n E L i 0 = a ∧ Tf (Xc s) (Yc s) n E L i 1 = b ∧ Tf (Xc s) (Yc s) n E L i 2 = z ∧ s.1 26 (3 * i) = nI a ∧ s.1 26 (3 * i + 1) = nI b ∧ s.1 26 (3 * i + 2) = nI z ∧ s.1 25 (40 * a + b) = nI i ∧ s.1 25 (40 * b + z) = nI i ∧ s.1 25 (40 * z + a) = nI i := by
    intro i hi
    obtain ⟨a, b, z, e, hb, hT, k1, k2, r1, r2, r3, r4, r5, r6⟩ := NM_at hL hN hi
    have eg : L.getD i 0 = 40 * a + b := by rw [List.getD_eq_getElem?_getD, e]; rfl
    have ea : L.getD i 0 / 40 = a := by omega
    have eb : L.getD i 0 % 40 = b := by omega
    refine ⟨a, b, z, e, hb, hT, ?_, ?_, ?_, r1, r2, r3, r4, r5, r6⟩
    · unfold Tf; rw [if_pos rfl, ea]
    · unfold Tf; rw [if_neg (by decide), if_pos rfl, eb]
    · unfold Tf; rw [if_neg (by decide), if_neg (by decide), ea, eb]; exact thd_eq c5 hT
  have hct : ∀ i k, i < L.length → k < 3 → s.1 26 (3 * i + k) = nI (Tf (Xc s) (Yc s) n E L i k) ∧ s.1 25 (40 * Tf (Xc s) (Yc s) n E L i k + Tf (Xc s) (Yc s) n E L i ((k + 1) % 3)) = nI i := by
    intro i k hi hk
    obtain ⟨a, b, z, e, hb, hT, t0, t1, t2, r1, r2, r3, r4, r5, r6⟩ := cor i hi
    rcases three hk with q | q | q <;> subst q
    · show _ ∧ s.1 25 (40 * Tf (Xc s) (Yc s) n E L i 0 + Tf (Xc s) (Yc s) n E L i 1) = _
      rw [t0, t1]; exact ⟨r1, r4⟩
    · show _ ∧ s.1 25 (40 * Tf (Xc s) (Yc s) n E L i 1 + Tf (Xc s) (Yc s) n E L i 2) = _
      rw [t1, t2]; exact ⟨r2, r5⟩
    · show _ ∧ s.1 25 (40 * Tf (Xc s) (Yc s) n E L i 2 + Tf (Xc s) (Yc s) n E L i 0) = _
      rw [t2, t0]; exact ⟨r3, r6⟩
  have hTr : ∀ i, i < L.length → Tr (Xc s) (Yc s) n E (Tf (Xc s) (Yc s) n E L i 0) (Tf (Xc s) (Yc s) n E L i 1) (Tf (Xc s) (Yc s) n E L i 2) := by
    intro i hi
    obtain ⟨a, b, z, e, hb, hT, t0, t1, t2, _⟩ := cor i hi
    rw [t0, t1, t2]; exact hT
  refine ⟨L.length, Tf (Xc s) (Yc s) n E L, ⟨⟨hTr, ?_, ?_⟩, h75, hN.1, hct⟩, ?_⟩
  · intro a b c hT
    obtain ⟨i, u, v, w, hi, e, hv, hT2, hc⟩ := NM_ex c3 c5 hL hT
    obtain ⟨a', b', z, e', hb, hT', t0, t1, t2, _⟩ := cor i hi
    rw [e] at e'
    have e' : 40 * u + v = 40 * a' + b' := by simpa using e'
    have ea : a' = u := by omega
    have eb : b' = v := by omega
    rw [ea, eb] at hT'
    have ez : z = w := Tr.uniq c5 hT' hT2
    rw [ea] at t0
    rw [eb] at t1
    rw [ez] at t2
    rcases hc with ⟨q1, q2⟩ | ⟨q1, q2⟩ | ⟨q1, q2⟩
    · exact ⟨i, 0, hi, by decide, by rw [t0, q1], by show Tf (Xc s) (Yc s) n E L i 1 = b; rw [t1, q2]⟩
    · exact ⟨i, 1, hi, by decide, by rw [t1, q1], by show Tf (Xc s) (Yc s) n E L i 2 = b; rw [t2, q2]⟩
    · exact ⟨i, 2, hi, by decide, by rw [t2, q1], by show Tf (Xc s) (Yc s) n E L i 0 = b; rw [t0, q2]⟩
  · intro i k i' k' hi hi' hk hk' e1 e2
    have a1 := (hct i k hi hk).2
    have a2 := (hct i' k' hi' hk').2
    rw [e1, e2, a2] at a1
    have ei : i' = i := (nI_eq (by omega) (by omega)).mp a1
    subst ei
    refine ⟨rfl, ?_⟩
    have ne := (hTr i' hi').ne
    generalize Tf (Xc s) (Yc s) n E L i' = t at *
    rcases three hk with q | q | q <;> rcases three hk' with q' | q' | q' <;> subst q q'
    · rfl
    · exact absurd e1 ne.1
    · exact absurd e1.symm ne.2.2
    · exact absurd e1.symm ne.1
    · rfl
    · exact absurd e1 ne.2.1
    · exact absurd e1 ne.2.2
    · exact absurd e1.symm ne.2.1
    · rfl
  · intro t ha ⟨m1, L', m2, m3, m4⟩
    have hL2 := ha.xNL c5 hL
    have eL : L' = L := NL_uniq m2.1 hL2.1 m2.2 hL2.2
    rw [eL] at m2 m3 m4
    refine ⟨⟨m3.1, fun i k hi hk => ?_⟩, fun hm => m4 (fun q => by rw [q] at hm; exact absurd hm (by decide))⟩
    obtain ⟨a, b, z, e, hb, hT, t0, t1, t2, _⟩ := cor i hi
    obtain ⟨q1, q2, q3⟩ := m3.2 i (40 * a + b) z e (by
      rw [show (40 * a + b) / 40 = a by omega, show (40 * a + b) % 40 = b by omega]
      exact ha.xTr c5 hT)
    rw [show (40 * a + b) / 40 = a by omega] at q1
    rw [show (40 * a + b) % 40 = b by omega] at q2
    rcases three hk with q | q | q <;> subst q
    · rw [t0]; exact q1
    · rw [t1]; exact q2
    · rw [t2]; exact q3
theorem CT.over {s t : mS} {n m : Nat} {E : Nat → Nat → Prop} {T : Nat → Nat → Nat} (h : CT s n E m T) (hM : Mx (Xc s) (Yc s) n E) (ha : agr (Xc s) (Yc s) (Xc t) (Yc t) n) (h25 : t.1 25 = s.1 25) (h26 : t.1 26 = s.1 26) (h2 : t.2.2.1 2 = s.2.2.1 2) : CT t n E m T :=
  ⟨h.1.over ha hM, h.2.1, by rw [h2]; exact h.2.2.1, fun i k hi hk => by rw [h25, h26]; exact h.2.2.2 i k hi hk⟩
theorem RT.same {s t : mS} {m : Nat} {T : Nat → Nat → Nat} (h : RT s m T) (h47 : t.1 47 = s.1 47) (h17 : t.2.2.1 17 = s.2.2.1 17) : RT t m T := ⟨by rw [h17]; exact h.1, fun i k hi hk => by rw [h47]; exact h.2 i k hi hk⟩
theorem md3 : ∀ k, k < 3 → (nI k + 1) - (nI k + 1) / 3 * 3 = nI ((k + 1) % 3) := by decide
/-- the reference's with(u, v) -/
theorem f138_ev {s : mS} {n m u v : Nat} {E : Nat → Nat → Prop} {T : Nat → Nat → Nat} {X Y : Nat → Int} (hM : Mx X Y n E) (hn : n ≤ 40) (hT : TL X Y n E m T) (hR : RT s m T) (hm : m ≤ 75) (hu : u < 40) (hv : v < 40) : ∃ r, ev (fun k => f138 k (nI u) (nI v) s) r ∧ nb m T u v r := by
  let ap : Nat → Nat → Nat → Prop := fun i k j => (j < i ∧ ∃ k', k' < 3 ∧ T j k' = u ∧ T j ((k' + 1) % 3) = v) ∨ (j = i ∧ ∃ k', k' < k ∧ T j k' = u ∧ T j ((k' + 1) % 3) = v)
  let P : Nat → Nat → Int32 → Prop := fun i k r => (∃ j, ap i k j ∧ r = nI j) ∨ (r = -1 ∧ ∀ j, ¬ ap i k j)
  have main : ∀ d i, i + d = m → ∀ r, P i 0 r → ∃ r', ev (fun k => r138 k 0 (nI u) (nI v) r (nI i) 0 s) r' ∧ P m 0 r' := by
    intro d
    induction d with
    | zero =>
      intro i hi r hr
      have ei : i = m := by omega
      subst ei
      refine ⟨r, ev_c fun k => ?_, hr⟩
      simp only [r138]
      rw [if_pos trivial, hR.1, if_pos ((nI_leI (by omega) (by omega)).mpr (Nat.le_refl _))]
    | succ d ih =>
      intro i hi r hr
      have him : i < m := by omega
      have row : ∀ e k, k + e = 3 → ∀ r, P i k r → ∃ r', ev (fun q => r138 q 1 (nI u) (nI v) r (nI i) (nI k) s) r' ∧ P m 0 r' := by
        intro e
        induction e with
        | zero =>
          intro k hk r hr
          have ek : k = 3 := by omega
          subst ek
          have hr2 : P (i + 1) 0 r := by
            have eq : ∀ j, ap (i + 1) 0 j ↔ ap i 3 j := fun j => by
              constructor
              · rintro (⟨h1, h2⟩ | ⟨_, k', h, _⟩)
                · by_cases q : j = i
                  · exact Or.inr ⟨q, h2⟩
                  · exact Or.inl ⟨by omega, h2⟩
                · omega
              · rintro (⟨h1, h2⟩ | ⟨h1, h2⟩)
                · exact Or.inl ⟨by omega, h2⟩
                · exact Or.inl ⟨by omega, h2⟩
            rcases hr with ⟨j, h1, h2⟩ | ⟨h1, h2⟩
            · exact Or.inl ⟨j, (eq j).mpr h1, h2⟩
            · exact Or.inr ⟨h1, fun j q => h2 j ((eq j).mp q)⟩
          obtain ⟨r', q1, q2⟩ := ih (i + 1) (by omega) r hr2
          refine ⟨r', ev1 q1 fun q hq => ?_, q2⟩
          show r138 (q + 1) _ _ _ _ _ _ _ = _
          simp only [r138]
          rw [if_neg (by decide), if_pos (show (3 : Int32) ≤ nI 3 by decide), nI_inc]
          exact hq
        | succ e ihe =>
          intro k hk r hr
          have hk3 : k < 3 := by omega
          have l1 := hT.lt hM him hk3
          have l2 := hT.lt hM him (show (k + 1) % 3 < 3 by omega)
          have base : ∀ q, r138 (q + 1) 1 (nI u) (nI v) r (nI i) (nI k) s = if ¬ nI (T i k) = nI u then r138 q 1 (nI u) (nI v) r (nI i) (nI (k + 1)) s else if ¬ nI (T i ((k + 1) % 3)) = nI v then r138 q 1 (nI u) (nI v) r (nI i) (nI (k + 1)) s else r138 q 1 (nI u) (nI v) (nI i) (nI i) (nI (k + 1)) s := by
            intro q
            simp only [r138]
            rw [if_neg (by decide), show (3 : Int32) = nI 3 from rfl, if_neg (fun q => by have := (nI_leI (by omega) (by omega)).mp q; omega), show nI 3 = (3 : Int32) from rfl, md3 k hk3, nI_3, nI_add, nI_add, rdI_nI (show 3 * i + k < 300 by omega) (by decide), rdI_nI (show 3 * i + (k + 1) % 3 < 300 by omega) (by decide), nI_clamp (by omega), nI_clamp (by omega), hR.2 i k him hk3, hR.2 i _ him (by omega), nI_inc]
          by_cases c : T i k = u ∧ T i ((k + 1) % 3) = v
          · obtain ⟨r', q1, q2⟩ := ihe (k + 1) (by omega) (nI i) (Or.inl ⟨i, Or.inr ⟨rfl, k, by omega, c.1, c.2⟩, rfl⟩)
            refine ⟨r', ev1 q1 fun q hq => ?_, q2⟩
            show r138 (q + 1) _ _ _ _ _ _ _ = _
            rw [base, c.1, c.2, if_neg (fun q => q rfl), if_neg (fun q => q rfl)]
            exact hq
          · have eq : ∀ j, ap i (k + 1) j ↔ ap i k j := fun j => by
              constructor
              · rintro (h | ⟨h1, k', h2, h3, h4⟩)
                · exact Or.inl h
                · by_cases q : k' = k
                  · subst q h1
                    exact absurd ⟨h3, h4⟩ c
                  · exact Or.inr ⟨h1, k', by omega, h3, h4⟩
              · rintro (h | ⟨h1, k', h2, h3⟩)
                · exact Or.inl h
                · exact Or.inr ⟨h1, k', by omega, h3⟩
            have hr2 : P i (k + 1) r := by
              rcases hr with ⟨j, h1, h2⟩ | ⟨h1, h2⟩
              · exact Or.inl ⟨j, (eq j).mpr h1, h2⟩
              · exact Or.inr ⟨h1, fun j q => h2 j ((eq j).mp q)⟩
            obtain ⟨r', q1, q2⟩ := ihe (k + 1) (by omega) r hr2
            refine ⟨r', ev1 q1 fun q hq => ?_, q2⟩
            show r138 (q + 1) _ _ _ _ _ _ _ = _
            rw [base]
            by_cases c1 : T i k = u
            · have c2 : ¬ T i ((k + 1) % 3) = v := fun q => c ⟨c1, q⟩
              have c2' : ¬ nI (T i ((k + 1) % 3)) = nI v := fun q => c2 ((nI_eq (by omega) (by omega)).mp q)
              rw [c1, if_neg (fun q => q rfl), if_pos c2']
              exact hq
            · have c1' : ¬ nI (T i k) = nI u := fun q => c1 ((nI_eq (by omega) (by omega)).mp q)
              rw [if_pos c1']
              exact hq
      obtain ⟨r', q1, q2⟩ := row 3 0 (by omega) r hr
      refine ⟨r', ev1 q1 fun q hq => ?_, q2⟩
      show r138 (q + 1) _ _ _ _ _ _ _ = _
      simp only [r138]
      rw [if_pos trivial, hR.1, if_neg (fun q => by have := (nI_leI (by omega) (by omega)).mp q; omega)]
      exact hq
  obtain ⟨r, q1, q2⟩ := main m 0 (by omega) (-1) (Or.inr ⟨rfl, fun j q => by
    rcases q with ⟨h, _⟩ | ⟨_, k', h, _⟩
    · omega
    · omega⟩)
  refine ⟨r, q1, ?_⟩
  rcases q2 with ⟨j, h1, h2⟩ | ⟨h1, h2⟩
  · refine Or.inl ⟨j, ?_, h2⟩
    rcases h1 with ⟨a, b⟩ | ⟨_, k', h, _⟩
    · exact ⟨a, b⟩
    · omega
  · exact Or.inr ⟨h1, fun j ⟨a, b⟩ => h2 j (Or.inl ⟨a, b⟩)⟩
/-- the class's neighbour -/
theorem f63_ev {s : mS} {n m i k : Nat} {E : Nat → Nat → Prop} {T : Nat → Nat → Nat} (hC : CX s n E) (hT : CT s n E m T) (hi : i < m) (hk : k < 3) : ∃ r, f63 (nI i) (nI k) s = some r ∧ nb m T (T i ((k + 1) % 3)) (T i k) r := by
  obtain ⟨c1, c2, c3, c4, c5, c6⟩ := hC
  obtain ⟨t1, t2, t3, t4⟩ := hT
  have hk' : (k + 1) % 3 < 3 := by omega
  have l1 := t1.lt c5 hi hk
  have l2 := t1.lt c5 hi hk'
  have e1 := (t4 i k hi hk).1
  have e2 := (t4 i _ hi hk').1
  have base : f63 (nI i) (nI k) s = if ¬ s.1 24 (40 * T i ((k + 1) % 3) + T i k) = -1 then some (s.1 25 (40 * T i ((k + 1) % 3) + T i k)) else some (-1) := by
    unfold f63
    rw [f52_eq (by omega), f53_eq hk (by omega), e1, e2]
    simp only [Option.bind_some]
    rw [f54_eq (by omega) (by omega), f99_eq]
    simp only [Option.bind_some]
    rw [rdI_nI (show 40 * T i ((k + 1) % 3) + T i k < 1600 by omega) (by decide), nI_clamp (by omega)]
  rw [base]
  by_cases h : hasT (Xc s) (Yc s) n E (T i ((k + 1) % 3)) (T i k)
  · obtain ⟨j, hj, k', hk'', q1, q2⟩ := (at2_has t1).mpr h
    rw [if_pos (fun q => ((c6.no c3 c5 (by omega) (by omega)).mp q) h)]
    have q3 := (t4 j k' hj hk'').2
    rw [q1, q2] at q3
    exact ⟨_, rfl, Or.inl ⟨j, ⟨hj, k', hk'', q1, q2⟩, q3⟩⟩
  · rw [if_neg (fun q => q ((c6.no c3 c5 (by omega) (by omega)).mpr h))]
    exact ⟨_, rfl, Or.inr ⟨rfl, fun j hj => h ((at2_has t1).mp ⟨j, hj⟩)⟩⟩
/-- the reference's mesh is made where it is wanted -/
theorem I0.xf128 {s : mS} {n : Nat} {E lk : Nat → Nat → Prop} (h : I0 s n E lk) : ∃ t, ev (fun k => f128 k s) t ∧ I0 t n E lk ∧ MM t n E ∧ sn [46, 47] [] [16, 17] s t := by
  have h' := h
  obtain ⟨hC, hq, h15, hl, hcur⟩ := h
  have hM := h'.Mm
  have ag := hq.X.le (show n ≤ 42 by have := hC.1.1.2.2.1; omega)
  obtain ⟨t, e1, e2, e3⟩ := f128_ev (hq.P hC.1.1.1) h15 hC.1.1.2.2.1 (ag.xDst hC.1.1.2.2.2.1) hl (fun x y k => (h'.ls x y k).2.2.2) hM hC.1.2.2.2.2.1 (fun x y k => ag.xbnd hC.1.1.2.2.2.2.1 (hC.1.2.2.2.2.2 x y k)) hcur
  refine ⟨t, e1, ⟨hC.kM (e3.mono (by decide) (by decide) (by decide)), kM0.Cq (e3.mono (by decide) (by decide) (by decide) : sn [46, 47] [53] [16, 17] s t) (by decide) (by decide) hq, by rw [e3.2.2 15 (by decide)]; exact h15, hl.same (e3.1 45 (by decide)), Or.inr e2⟩, e2, e3⟩
