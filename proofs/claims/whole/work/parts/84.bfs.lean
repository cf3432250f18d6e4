/-! the class counts steps -/
theorem app_at {Q : List Nat} {j p i : Nat} (h : (Q ++ [j])[p]? = some i) : (p < Q.length ∧ Q[p]? = some i) ∨ (p = Q.length ∧ i = j) := by
  by_cases q : p < Q.length
  · rw [List.getElem?_append_left q] at h
    exact Or.inl ⟨q, h⟩
  · rw [List.getElem?_append_right (by omega)] at h
    by_cases e : p = Q.length
    · rw [e, Nat.sub_self] at h
      have h : some j = some i := h
      exact Or.inr ⟨e, (Option.some.inj h).symm⟩
    · rw [List.getElem?_eq_none (by simp; omega)] at h
      cases h
theorem at_mem {Q : List Nat} {p i : Nat} (h : Q[p]? = some i) : i ∈ Q := List.mem_of_getElem? h
theorem at_lt {Q : List Nat} {p i : Nat} (h : Q[p]? = some i) : p < Q.length := by
  refine Decidable.byContradiction fun q => ?_
  rw [List.getElem?_eq_none (by omega)] at h
  cases h
theorem r167_34_ev (v : Int32) : ∀ d i s, i + d = 75 → ∃ t, ev (fun k => r167_34 k v (nI i) (nI 75) s) t ∧ sm [34] [] [] [] s t ∧ (∀ j, i ≤ j → j < 75 → t.1 34 j = v) ∧ (∀ j, j < i → t.1 34 j = s.1 34 j) := by
  intro d
  induction d with
  | zero =>
    intro i s hi
    refine ⟨s, ev_c fun k => ?_, sm.refl s, fun j h1 h2 => by omega, fun j _ => rfl⟩
    simp only [r167_34]
    rw [if_pos ((nI_leI (by omega) (by omega)).mpr (by omega))]
  | succ d ih =>
    intro i s hi
    obtain ⟨t, t1, t2, t3, t4⟩ := ih (i + 1) (uA 34 (upd (s.1 34) i v) s) (by omega)
    have a34 : (uA 34 (upd (s.1 34) i v) s).1 34 = upd (s.1 34) i v := uA_at 34 _ s
    refine ⟨t, ev1 t1 fun k hk => ?_, (sm_A (by decide) _ s).trans t2, fun j h1 h2 => ?_, fun j hj => ?_⟩
    · show r167_34 (k + 1) _ _ _ _ = _
      simp only [r167_34]
      rw [if_neg (fun q => by have := (nI_leI (by omega) (by omega)).mp q; omega), rdI_nI (show i < 75 by omega) (by decide), nI_clamp (by omega), nI_inc]
      exact hk
    · by_cases e : j = i
      · rw [t4 j (by omega), a34, e]
        unfold upd
        rw [if_pos rfl]
      · exact t3 j (by omega) h2
    · rw [t4 j (by omega), a34]
      unfold upd
      rw [if_neg (by omega)]
theorem f64_same {s t : mS} (h26 : t.1 26 = s.1 26) (h24 : t.1 24 = s.1 24) (h25 : t.1 25 = s.1 25) (h22 : t.2.1 22 = s.2.1 22) (a b : Int32) : f64 a b t = f64 a b s := by
  unfold f64 f63 f54 f53 f52 f39 f99
  rw [h26, h24, h25, h22]
def BQ (s0 s : mS) (m : Nat) (T : Nat → Nat → Nat) (lk : Nat → Nat → Prop) (g : Nat) (Q : List Nat) (f : Nat → Nat) : Prop :=
  sm [34, 35] [] [] [] s0 s ∧ Q.Nodup ∧ (∀ i, i ∈ Q → i < m) ∧ (∀ p i, Q[p]? = some i → s.1 35 p = nI i) ∧ (∀ i, i ∈ Q → s.1 34 i = nI (f i)) ∧ (∀ i, i < 75 → i ∉ Q → s.1 34 i = -1) ∧ Q[0]? = some g ∧ f g = 0 ∧ (∀ p i, Q[p]? = some i → f i ≤ p) ∧ (∀ i, i ∈ Q → wk m T lk g (f i) i) ∧ (∀ p q i j : Nat, p ≤ q → Q[p]? = some i → Q[q]? = some j → f i ≤ f j)
theorem BQ.len {s0 s : mS} {m : Nat} {T : Nat → Nat → Nat} {lk : Nat → Nat → Prop} {g : Nat} {Q : List Nat} {f : Nat → Nat} (h : BQ s0 s m T lk g Q f) : Q.length ≤ m := by
  have := nd_len Q (List.range m) h.2.1 (fun x hx => List.mem_range.mpr (h.2.2.1 x hx))
  rw [List.length_range] at this
  exact this
theorem BQ_add {s0 s : mS} {m : Nat} {T : Nat → Nat → Nat} {lk : Nat → Nat → Prop} {g : Nat} {Q : List Nat} {f : Nat → Nat} (hl : ∀ x y, lk x y → lk y x) (h : BQ s0 s m T lk g Q f) {i0 k j hh : Nat} (hi : Q[hh]? = some i0) (hb : ∀ j, j ∈ Q → f j ≤ f i0 + 1) (hk : k < 3) (hx : nx m T lk i0 k j) (hj : j ∉ Q) :
    BQ s0 (uA 35 (upd (s.1 35) Q.length (nI j)) (uA 34 (upd (s.1 34) j (nI (f i0 + 1))) s)) m T lk g (Q ++ [j]) (fun x => if x = j then f i0 + 1 else f x) := by
  obtain ⟨b1, b2, b3, b4, b5, b6, b7, b8, b9, b10, b11⟩ := h
  let s2 := uA 35 (upd (s.1 35) Q.length (nI j)) (uA 34 (upd (s.1 34) j (nI (f i0 + 1))) s)
  have e34 : s2.1 34 = upd (s.1 34) j (nI (f i0 + 1)) := rfl
  have e35 : s2.1 35 = upd (s.1 35) Q.length (nI j) := rfl
  have ne : ∀ i, i ∈ Q → i ≠ j := fun i hi e => hj (by rw [← e]; exact hi)
  have fe : ∀ i, i ∈ Q → (fun x => if x = j then f i0 + 1 else f x) i = f i := fun i hi => if_neg (ne i hi)
  have fj : (fun x => if x = j then f i0 + 1 else f x) j = f i0 + 1 := if_pos rfl
  have mem : ∀ i, i ∈ Q ++ [j] → i ∈ Q ∨ i = j := fun i hi => by
    rcases List.mem_append.mp hi with q | q
    · exact Or.inl q
    · exact Or.inr (List.mem_singleton.mp q)
  have hi0 := at_mem hi
  refine ⟨b1.trans ((sm_A (by decide) _ s).trans (sm_A (by decide) _ _)), ?_, ?_, ?_, ?_, ?_, ?_, ?_, ?_, ?_, ?_⟩
  · exact List.nodup_append.mpr ⟨b2, List.nodup_cons.mpr ⟨List.not_mem_nil, List.nodup_nil⟩, fun a ha b hb => by rw [List.mem_singleton.mp hb]; exact ne a ha⟩
  · intro i hi
    rcases mem i hi with q | q
    · exact b3 i q
    · rw [q]; exact hx.lt
  · intro p i hp
    rw [e35]
    unfold upd
    rcases app_at hp with ⟨q1, q2⟩ | ⟨q1, q2⟩
    · rw [if_neg (by omega)]; exact b4 p i q2
    · rw [if_pos q1, q2]
  · intro i hi
    rw [e34]
    unfold upd
    rcases mem i hi with q | q
    · rw [if_neg (ne i q), fe i q]; exact b5 i q
    · rw [if_pos q, q, fj]
  · intro i h75 hi
    have n1 : i ∉ Q := fun q => hi (List.mem_append.mpr (Or.inl q))
    have n2 : i ≠ j := fun q => hi (List.mem_append.mpr (Or.inr (List.mem_singleton.mpr q)))
    rw [e34]
    unfold upd
    rw [if_neg n2]
    exact b6 i h75 n1
  · rw [List.getElem?_append_left (at_lt b7)]; exact b7
  · rw [fe g (at_mem b7)]; exact b8
  · intro p i hp
    rcases app_at hp with ⟨q1, q2⟩ | ⟨q1, q2⟩
    · rw [fe i (at_mem q2)]; exact b9 p i q2
    · rw [q2, fj, q1]
      have := b9 hh i0 hi
      have := at_lt hi
      omega
  · intro i hi
    rcases mem i hi with q | q
    · rw [fe i q]; exact b10 i q
    · rw [q, fj]
      exact ⟨i0, adj.sym hl (b3 i0 hi0) ⟨k, hk, hx⟩, b10 i0 hi0⟩
  · intro p q i i' hpq h1 h2
    rcases app_at h1 with ⟨q1, q2⟩ | ⟨q1, q2⟩ <;> rcases app_at h2 with ⟨q3, q4⟩ | ⟨q3, q4⟩
    · rw [fe i (at_mem q2), fe i' (at_mem q4)]; exact b11 p q i i' hpq q2 q4
    · rw [fe i (at_mem q2), q4, fj]; exact hb i (at_mem q2)
    · omega
    · rw [q2, q4]; exact Nat.le_refl _
theorem r82_ev {s0 : mS} {m g : Nat} {T : Nat → Nat → Nat} {lk : Nat → Nat → Prop} (hl : ∀ x y, lk x y → lk y x) (hm : m ≤ 75) (h2 : s0.2.2.1 2 = nI m) (hU : ∀ i k j j', nx m T lk i k j → nx m T lk i k j' → j = j') (hG : ∀ i k, i < m → k < 3 → ∃ r, f64 (nI i) (nI k) s0 = some r ∧ gt m T lk i k r) :
    ∀ d h, h + d = m → ∀ s Q f, BQ s0 s m T lk g Q f → h ≤ Q.length → (∀ i, Q[h]? = some i → ∀ j, j ∈ Q → f j ≤ f i + 1) → (∀ p i, p < h → Q[p]? = some i → ∀ j, adj m T lk i j → j ∈ Q ∧ f j ≤ f i + 1) → ∃ t Q' f', ev (fun k => r82 k 0 (nI g) (nI Q.length) (nI h) 0 0 s) t ∧ BQ s0 t m T lk g Q' f' ∧ (∀ i, i ∈ Q' → ∀ j, adj m T lk i j → j ∈ Q' ∧ f' j ≤ f' i + 1) := by
  intro d
  induction d with
  | zero =>
    intro h hh s Q f hB hq _ hE
    have hlen := hB.len
    have e : Q.length = h := by omega
    refine ⟨s, Q, f, ev_c fun k => ?_, hB, fun i hi => ?_⟩
    · simp only [r82]
      rw [if_pos trivial, if_pos ((nI_leI (by omega) (by omega)).mpr (by omega))]
    · obtain ⟨p, hp, e2⟩ := List.getElem_of_mem hi
      exact hE p i (by omega) (by rw [List.getElem?_eq_getElem hp, e2])
  | succ d ih =>
    intro h hh s Q f hB hq hb hE
    have hlen := hB.len
    by_cases c : Q.length ≤ h
    · refine ⟨s, Q, f, ev_c fun k => ?_, hB, fun i hi => ?_⟩
      · simp only [r82]
        rw [if_pos trivial, if_pos ((nI_leI (by omega) (by omega)).mpr (by omega))]
      · obtain ⟨p, hp, e2⟩ := List.getElem_of_mem hi
        exact hE p i (by omega) (by rw [List.getElem?_eq_getElem hp, e2])
    · have hlt : h < Q.length := by omega
      have hi0 : Q[h]? = some Q[h] := List.getElem?_eq_getElem hlt
      generalize Q[h] = i0 at hi0
      have row : ∀ e k, k + e = 3 → ∀ s Q f, BQ s0 s m T lk g Q f → Q[h]? = some i0 → (∀ j, j ∈ Q → f j ≤ f i0 + 1) → (∀ p i, p < h → Q[p]? = some i → ∀ j, adj m T lk i j → j ∈ Q ∧ f j ≤ f i + 1) → (∀ k', k' < k → ∀ j, nx m T lk i0 k' j → j ∈ Q ∧ f j ≤ f i0 + 1) → ∃ t Q' f', ev (fun q => r82 q 1 (nI g) (nI Q.length) (nI h) (nI i0) (nI k) s) t ∧ BQ s0 t m T lk g Q' f' ∧ (∀ i, i ∈ Q' → ∀ j, adj m T lk i j → j ∈ Q' ∧ f' j ≤ f' i + 1) := by
        intro e
        induction e with
        | zero =>
          intro k hk s Q f hB hi0 hb hE hK
          have ek : k = 3 := by omega
          subst ek
          have hl0 := at_lt hi0
          obtain ⟨t, Q', f', q1, q2, q3⟩ := ih (h + 1) (by omega) s Q f hB (by omega) (fun i hi j hj => by
            have a := hb j hj
            have b := hB.2.2.2.2.2.2.2.2.2.2 h (h + 1) i0 i (by omega) hi0 hi
            omega) (fun p i hp hpi j hj => by
            by_cases ep : p = h
            · rw [ep, hi0] at hpi
              have ei : i0 = i := Option.some.inj hpi
              rw [← ei] at hj ⊢
              obtain ⟨k', hk', hx⟩ := hj
              exact hK k' hk' j hx
            · exact hE p i (by omega) hpi j hj)
          refine ⟨t, Q', f', ev1 q1 fun q hq => ?_, q2, q3⟩
          show r82 (q + 1) _ _ _ _ _ _ _ = _
          simp only [r82]
          rw [if_neg (by decide), if_pos (show (3 : Int32) ≤ nI 3 by decide), nI_inc]
          exact hq
        | succ e ihe =>
          intro k hk s Q f hB hi0 hb hE hK
          have hk3 : k < 3 := by omega
          have hl0 := at_lt hi0
          have hlen := hB.len
          have hi0m := hB.2.2.1 i0 (at_mem hi0)
          obtain ⟨r, r1, r2⟩ := hG i0 k hi0m hk3
          have z := hB.1
          have r1' : f64 (nI i0) (nI k) s = some r := by
            rw [f64_same (z.1 26 (by decide)) (z.1 24 (by decide)) (z.1 25 (by decide)) (z.2.1 22 (by decide))]
            exact r1
          have base : ∀ q, r82 (q + 1) 1 (nI g) (nI Q.length) (nI h) (nI i0) (nI k) s = if r = -1 then r82 q 1 (nI g) (nI Q.length) (nI h) (nI i0) (nI (k + 1)) s else rdI 75 r ((if (¬ (s.1 34 (Int32.toNatClampNeg r)) = (-1 : Int32)) then
            r82 q 1 (nI g) (nI Q.length) (nI h) (nI i0) (nI (k + 1)) s
          else
            rdI 75 (nI i0) (rdI 75 r (pt (uA 34 (upd (s.1 34) (Int32.toNatClampNeg r) ((s.1 34 (Int32.toNatClampNeg (nI i0))) + (1 : Int32))) s) fun s9 => rdI 75 (nI Q.length) (pt (uA 35 (upd (s9.1 35) (Int32.toNatClampNeg (nI Q.length)) r) s9) fun s12 => r82 q 1 (nI g) (nI Q.length + Int32.ofInt 1) (nI h) (nI i0) (nI (k + 1)) s12))))) := by
            intro q
            simp only [r82]
            rw [if_neg (by decide), show (3 : Int32) = nI 3 from rfl, if_neg (fun q => by have := (nI_leI (by omega) (by omega)).mp q; omega), r1', nI_inc]
            rfl
          rcases r2 with ⟨j, hx, ej⟩ | ⟨er, hno⟩
          · have hjm := hx.lt
            have nr : ¬ r = -1 := by rw [ej]; exact nI_m1 (by omega)
            by_cases hj : j ∈ Q
            · obtain ⟨t, Q', f', q1, q2, q3⟩ := ihe (k + 1) (by omega) s Q f hB hi0 hb hE (fun k' hk' j' hx' => by
                by_cases ek : k' = k
                · rw [ek] at hx'
                  rw [hU _ _ _ _ hx' hx]
                  exact ⟨hj, hb j hj⟩
                · exact hK k' (by omega) j' hx')
              refine ⟨t, Q', f', ev1 q1 fun q hq => ?_, q2, q3⟩
              show r82 (q + 1) _ _ _ _ _ _ _ = _
              have a34 := hB.2.2.2.2.1 j hj
              have fb : f j ≤ 75 := by
                obtain ⟨p, hp, e2⟩ := List.getElem_of_mem hj
                have := hB.2.2.2.2.2.2.2.2.1 p j (by rw [List.getElem?_eq_getElem hp, e2])
                omega
              rw [base, if_neg nr, ej, rdI_nI (show j < 75 by omega) (by decide), nI_clamp (by omega), a34, if_pos (nI_m1 (by omega))]
              exact hq
            · have hQ75 : Q.length < 75 := by
                have hn' := (BQ_add hl hB hi0 hb hk3 hx hj).len
                rw [List.length_append] at hn'
                have : [j].length = 1 := rfl
                omega
              have fe : ∀ i, i ∈ Q → (if i = j then f i0 + 1 else f i) = f i := fun i hi => if_neg (fun e => hj (by rw [← e]; exact hi))
              have fj : (if j = j then f i0 + 1 else f j) = f i0 + 1 := if_pos rfl
              have hm0 := at_mem hi0
              obtain ⟨t, Q', f', q1, q2, q3⟩ := ihe (k + 1) (by omega) _ (Q ++ [j]) _ (BQ_add hl hB hi0 hb hk3 hx hj) (by rw [List.getElem?_append_left hl0]; exact hi0) (fun i hi => by
                show (if i = j then f i0 + 1 else f i) ≤ (if i0 = j then f i0 + 1 else f i0) + 1
                rw [fe i0 hm0]
                rcases List.mem_append.mp hi with q | q
                · rw [fe i q]; exact hb i q
                · rw [List.mem_singleton.mp q, fj]; exact Nat.le_refl _) (fun p i hp hpi j' hj' => by
                show _ ∧ (if j' = j then f i0 + 1 else f j') ≤ (if i = j then f i0 + 1 else f i) + 1
                rcases app_at hpi with ⟨w1, w2⟩ | ⟨w1, w2⟩
                · obtain ⟨v1, v2⟩ := hE p i hp w2 j' hj'
                  rw [fe i (at_mem w2), fe j' v1]
                  exact ⟨List.mem_append.mpr (Or.inl v1), v2⟩
                · omega) (fun k' hk' j' hx' => by
                show _ ∧ (if j' = j then f i0 + 1 else f j') ≤ (if i0 = j then f i0 + 1 else f i0) + 1
                rw [fe i0 hm0]
                by_cases ek : k' = k
                · rw [ek] at hx'
                  rw [hU _ _ _ _ hx' hx, fj]
                  exact ⟨List.mem_append.mpr (Or.inr (List.mem_singleton.mpr rfl)), Nat.le_refl _⟩
                · obtain ⟨v1, v2⟩ := hK k' (by omega) j' hx'
                  rw [fe j' v1]
                  exact ⟨List.mem_append.mpr (Or.inl v1), v2⟩)
              refine ⟨t, Q', f', ev1 q1 fun q hq => ?_, q2, q3⟩
              show r82 (q + 1) _ _ _ _ _ _ _ = _
              have a34 := hB.2.2.2.2.2.1 j (by omega) hj
              have b34 := hB.2.2.2.2.1 i0 hm0
              have hq : r82 q 1 (nI g) (nI (Q ++ [j]).length) (nI h) (nI i0) (nI (k + 1)) (uA 35 (upd (s.1 35) Q.length (nI j)) (uA 34 (upd (s.1 34) j (nI (f i0 + 1))) s)) = some t := hq
              rw [base, if_neg nr, ej, rdI_nI (show j < 75 by omega) (by decide), nI_clamp (by omega), a34, if_neg (fun q => q rfl), rdI_nI (show i0 < 75 by omega) (by decide), rdI_nI (show j < 75 by omega) (by decide), nI_clamp (by omega), b34, nI_1]
              simp only [pt]
              rw [rdI_nI hQ75 (by decide), nI_clamp (by omega), nI_inc]
              have el : (Q ++ [j]).length = Q.length + 1 := by rw [List.length_append]; rfl
              rw [el] at hq
              exact hq
          · obtain ⟨t, Q', f', q1, q2, q3⟩ := ihe (k + 1) (by omega) s Q f hB hi0 hb hE (fun k' hk' j' hx' => by
              by_cases ek : k' = k
              · rw [ek] at hx'
                exact absurd hx' (hno j')
              · exact hK k' (by omega) j' hx')
            refine ⟨t, Q', f', ev1 q1 fun q hq => ?_, q2, q3⟩
            show r82 (q + 1) _ _ _ _ _ _ _ = _
            rw [base, if_pos er]
            exact hq
      obtain ⟨t, Q', f', q1, q2, q3⟩ := row 3 0 (by omega) s Q f hB hi0 (hb i0 hi0) hE (fun k' hk' => by omega)
      refine ⟨t, Q', f', ev1 q1 fun q hq => ?_, q2, q3⟩
      show r82 (q + 1) _ _ _ _ _ _ _ = _
      have h2s : s.2.2.1 2 = nI m := by rw [hB.1.2.2.1 2 (by decide)]; exact h2
      simp only [r82]
      unfold f46
      rw [if_pos trivial, if_neg (fun q => by have := (nI_leI (by omega) (by omega)).mp q; omega), h2s]
      simp only [Option.bind_some]
      rw [if_neg (fun q => by have := (nI_leI (by omega) (by omega)).mp q; omega), rdI_nI (show h < 75 by omega) (by decide), nI_clamp (by omega), hB.2.2.2.1 h i0 hi0]
      exact hq
/-- every triangle's number of steps, or -1 -/
def dC (s : mS) (m : Nat) (T : Nat → Nat → Nat) (lk : Nat → Nat → Prop) (g : Nat) : Prop := ∀ i, i < m → (∃ d, Ds m T lk g i d ∧ d ≤ 74 ∧ s.1 34 i = nI d) ∨ (s.1 34 i = -1 ∧ ∀ d, ¬ wk m T lk g d i)
theorem f82_ev {s0 : mS} {m g : Nat} {T : Nat → Nat → Nat} {lk : Nat → Nat → Prop} (hl : ∀ x y, lk x y → lk y x) (hm : m ≤ 75) (hg : g < m) (h2 : s0.2.2.1 2 = nI m) (hU : ∀ i k j j', nx m T lk i k j → nx m T lk i k j' → j = j') (hG : ∀ i k, i < m → k < 3 → ∃ r, f64 (nI i) (nI k) s0 = some r ∧ gt m T lk i k r) :
    ∃ t, ev (fun k => f82 k (nI g) s0) t ∧ sm [34, 35] [] [] [] s0 t ∧ dC t m T lk g := by
  obtain ⟨t0, a1, a2, a3, _⟩ := r167_34_ev (-1) 75 0 s0 (by omega)
  let s7 := uA 35 (upd (t0.1 35) 0 (nI g)) (uA 34 (upd (t0.1 34) g (nI 0)) t0)
  have z7 : sm [34, 35] [] [] [] s0 s7 := (a2.mono (by decide) (by decide) (by decide) (by decide)).trans ((sm_A (by decide) _ t0).trans (sm_A (by decide) _ _))
  have e34 : s7.1 34 = upd (t0.1 34) g (nI 0) := rfl
  have e35 : s7.1 35 = upd (t0.1 35) 0 (nI g) := rfl
  have one : ∀ p i, [g][p]? = some i → p = 0 ∧ i = g := fun p i h => by
    have hp : p < 1 := at_lt h
    have e : p = 0 := by omega
    rw [e] at h
    have h : some g = some i := h
    exact ⟨e, (Option.some.inj h).symm⟩
  have hB : BQ s0 s7 m T lk g [g] (fun _ => 0) := by
    refine ⟨z7, List.nodup_cons.mpr ⟨List.not_mem_nil, List.nodup_nil⟩, fun i hi => by rw [List.mem_singleton.mp hi]; exact hg, fun p i h => ?_, fun i hi => ?_, fun i h75 hi => ?_, rfl, rfl, fun p i _ => Nat.zero_le _, fun i hi => List.mem_singleton.mp hi, fun _ _ _ _ _ _ _ => Nat.le_refl _⟩
    · rw [e35, (one p i h).1, (one p i h).2]
      unfold upd
      rw [if_pos rfl]
    · rw [e34, List.mem_singleton.mp hi]
      unfold upd
      rw [if_pos rfl]
    · rw [e34]
      unfold upd
      rw [if_neg (fun q => hi (List.mem_singleton.mpr q))]
      exact a3 i (by omega) h75
  obtain ⟨t, Q, f, q1, q2, q3⟩ := r82_ev hl hm h2 hU hG m 0 (by omega) s7 [g] (fun _ => 0) hB (by omega) (fun _ _ _ _ => by omega) (fun p _ hp => by omega)
  refine ⟨t, evm2 a1 q1 fun k hk1 hk2 => ?_, q2.1, fun i hi => ?_⟩
  · show f82 k (nI g) s0 = _
    have hk1 : r167_34 k (-1) 0 (Int32.ofNat 75) s0 = some t0 := hk1
    unfold f82 f167_34
    rw [hk1]
    simp only [Option.bind_some]
    rw [rdI_nI (show g < 75 by omega) (by decide), nI_clamp (by omega)]
    simp only [pt]
    rw [show (0 : Int32) = nI 0 from rfl, rdI_nI (by decide) (by decide), nI_clamp (by decide)]
    exact hk2
  · have all : ∀ d i, i < m → wk m T lk g d i → i ∈ Q ∧ f i ≤ d := by
      intro d
      induction d with
      | zero =>
        intro i _ h
        have h : i = g := h
        rw [h]
        exact ⟨at_mem q2.2.2.2.2.2.2.1, by rw [q2.2.2.2.2.2.2.2.1]; exact Nat.le_refl _⟩
      | succ d ih =>
        intro i hi ⟨j, h1, h2⟩
        obtain ⟨w1, w2⟩ := ih j h1.lt h2
        obtain ⟨v1, v2⟩ := q3 j w1 i (adj.sym hl hi h1)
        exact ⟨v1, by omega⟩
    by_cases hq : i ∈ Q
    · left
      obtain ⟨p, hp, e2⟩ := List.getElem_of_mem hq
      have := q2.2.2.2.2.2.2.2.2.1 p i (by rw [List.getElem?_eq_getElem hp, e2])
      have := q2.len
      exact ⟨f i, ⟨q2.2.2.2.2.2.2.2.2.2.1 i hq, fun e he => (all e i hi he).2⟩, by omega, q2.2.2.2.2.1 i hq⟩
    · exact Or.inr ⟨q2.2.2.2.2.2.1 i (by omega) hq, fun d hd => hq (all d i hi hd).1⟩
