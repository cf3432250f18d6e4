/-! the row of triangles -/
/-- every triangle's number of steps, or 1000 -/
def dR (s : mS) (m : Nat) (T : Nat → Nat → Nat) (lk : Nat → Nat → Prop) (g : Nat) : Prop := ∀ i, i < m → (∃ d, Ds m T lk g i d ∧ d ≤ 74 ∧ s.1 50 i = nI d) ∨ (s.1 50 i = nI 1000 ∧ ∀ d, ¬ wk m T lk g d i)
theorem f148_ev {s0 : mS} {m g : Nat} {T : Nat → Nat → Nat} {lk : Nat → Nat → Prop} (hm : m ≤ 75) (hg : g < m) (h17 : s0.2.2.1 17 = nI m) (hU : ∀ i k j j', nx m T lk i k j → nx m T lk i k j' → j = j') (hG : ∀ s, sm [50] [] [] [] s0 s → ∀ i k, i < m → k < 3 → ∃ r, ev (fun q => f149 q (nI i) (nI k) s) r ∧ gt m T lk i k r) (hD : ∀ i, i < m → (∃ d, Ds m T lk g i d ∧ d ≤ 74) ∨ ∀ d, ¬ wk m T lk g d i) :
    ∃ t, ev (fun k => f148 k (nI g) s0) t ∧ sm [50] [] [] [] s0 t ∧ dR t m T lk g := by
  let f0 : Nat → Nat := fun i => if i = g then 0 else 1000
  have fg : f0 g = 0 := if_pos rfl
  have fx : ∀ x, x ≠ g → f0 x = 1000 := fun x h => if_neg h
  have init : ∀ d i, i + d = m → ∀ s, sm [50] [] [] [] s0 s → (∀ j, j < i → s.1 50 j = nI (f0 j)) → ∃ t f', ev (fun k => r148 k 0 (nI g) (nI i) 0 0 s) t ∧ BF s0 t m T lk g f' ∧ ∀ i j, i < m → adj m T lk i j → f' i ≤ f' j + 1 := by
    intro d
    induction d with
    | zero =>
      intro i hi s hz hs
      have ei : i = m := by omega
      subst ei
      have hB : BF s0 s i T lk g f0 := ⟨hz, hs, fg, fun x _ => by
        by_cases e : x = g
        · rw [e, fg]; omega
        · rw [fx x e]; exact Nat.le_refl _, fun x _ => by
        by_cases e : x = g
        · rw [e, fg]; exact Or.inr rfl
        · exact Or.inl (fx x e)⟩
      obtain ⟨t, f', q1, q2, q3⟩ := r148_ev hm hg h17 hU hG (sumf f0 i + 1) s f0 hB (by omega)
      refine ⟨t, f', ?_, q2, q3⟩
      obtain ⟨K, hK⟩ := q1
      refine ⟨K + 2, fun k hk => ?_⟩
      obtain ⟨j, rfl⟩ : ∃ j, k = j + 1 + 1 := ⟨k - 2, by omega⟩
      have h17' : s.2.2.1 17 = nI i := by rw [hz.2.2.1 17 (by decide)]; exact h17
      have a : r148 (j + 1 + 1) 0 (nI g) (nI i) 0 0 s = r148 (j + 1) 1 (nI g) 1 0 0 s := by
        rw [r148]
        rw [if_pos rfl, h17', if_pos ((nI_leI (by omega) (by omega)).mpr (Nat.le_refl _))]
      show r148 (j + 1 + 1) 0 (nI g) (nI i) 0 0 s = _
      rw [a]
      simp only [r148]
      rw [if_neg (by decide), if_pos trivial, if_neg (by decide)]
      exact hK j (by omega)
    | succ d ih =>
      intro i hi s hz hs
      have h17' : s.2.2.1 17 = nI m := by rw [hz.2.2.1 17 (by decide)]; exact h17
      obtain ⟨t, f', q1, q2, q3⟩ := ih (i + 1) (by omega) (uA 50 (upd (s.1 50) i (nI (f0 i))) s) (hz.trans (sm_A (by decide) _ s)) (fun j hj => by
        rw [uA_at]
        unfold upd
        by_cases e : j = i
        · rw [if_pos e, e]
        · rw [if_neg e]; exact hs j (by omega))
      refine ⟨t, f', ev1 q1 fun k hk => ?_, q2, q3⟩
      show r148 (k + 1) _ _ _ _ _ _ = _
      simp only [r148]
      rw [if_pos trivial, h17', if_neg (fun q => by have := (nI_leI (by omega) (by omega)).mp q; omega), rdI_nI (show i < 100 by omega) (by decide), rdI_nI (show i < 100 by omega) (by decide), nI_clamp (by omega), nI_inc]
      by_cases e : i = g
      · rw [e, if_neg (fun q => q rfl)]
        rw [e, fg] at hk
        exact hk
      · rw [if_pos (fun q => e ((nI_eq (by omega) (by omega)).mp q))]
        rw [fx i e] at hk
        exact hk
  obtain ⟨t, f, q1, q2, q3⟩ := init m 0 (by omega) s0 (sm.refl s0) (fun j hj => by omega)
  refine ⟨t, q1, q2.1, fun i hi => ?_⟩
  have le := lab_le q2.2.2.1 q3
  rcases hD i hi with ⟨d, h1, h2⟩ | h
  · left
    have a := le d i hi h1.1
    have b := q2.2.2.2.2 i hi
    have e : f i = d := by
      rcases b with b | b
      · omega
      · have := h1.2 _ b
        omega
    exact ⟨d, h1, h2, by rw [← e]; exact q2.2.1 i hi⟩
  · right
    refine ⟨?_, h⟩
    rcases q2.2.2.2.2 i hi with b | b
    · rw [q2.2.1 i hi, b]
    · exact absurd b (h _)
/-- j is the least next triangle -/
def mn (m : Nat) (T : Nat → Nat → Nat) (lk : Nat → Nat → Prop) (g i d j : Nat) : Prop := adj m T lk i j ∧ Ds m T lk g j d ∧ ∀ j', adj m T lk i j' → Ds m T lk g j' d → j ≤ j'
def sd (m : Nat) (T : Nat → Nat → Nat) (lk : Nat → Nat → Prop) (i j k : Nat) : Prop := k < 3 ∧ nx m T lk i k j ∧ ∀ k', k' < k → ¬ nx m T lk i k' j
theorem Ds_next {m : Nat} {T : Nat → Nat → Nat} {lk : Nat → Nat → Prop} {g i d : Nat} (h : Ds m T lk g i (d + 1)) : ∃ j, adj m T lk i j ∧ Ds m T lk g j d := by
  obtain ⟨j, h1, h2⟩ := h.1
  refine ⟨j, h1, h2, fun e he => ?_⟩
  have := h.2 (e + 1) ⟨j, h1, he⟩
  omega
theorem least {P : Nat → Prop} : ∀ n, P n → ∃ k, P k ∧ ∀ j, j < k → ¬ P j := by
  intro n
  induction n using Nat.strongRecOn with
  | _ n ih =>
    intro h
    by_cases q : ∃ j, j < n ∧ P j
    · obtain ⟨j, h1, h2⟩ := q
      exact ih j h1 h2
    · exact ⟨n, h, fun j hj hp => q ⟨j, hj, hp⟩⟩
theorem mn_ex {m : Nat} {T : Nat → Nat → Nat} {lk : Nat → Nat → Prop} {g i d : Nat} (h : Ds m T lk g i (d + 1)) : ∃ j, mn m T lk g i d j := by
  obtain ⟨j, h1⟩ := Ds_next h
  obtain ⟨k, k1, k2⟩ := least (P := fun j => adj m T lk i j ∧ Ds m T lk g j d) j h1
  exact ⟨k, k1.1, k1.2, fun j' a b => Nat.le_of_not_lt fun q => k2 j' q ⟨a, b⟩⟩
theorem mn_uniq {m : Nat} {T : Nat → Nat → Nat} {lk : Nat → Nat → Prop} {g i d j j' : Nat} (h : mn m T lk g i d j) (h' : mn m T lk g i d j') : j = j' := by
  have a := h.2.2 j' h'.1 h'.2.1
  have b := h'.2.2 j h.1 h.2.1
  omega
theorem sd_ex {m : Nat} {T : Nat → Nat → Nat} {lk : Nat → Nat → Prop} {i j : Nat} (h : adj m T lk i j) : ∃ k, sd m T lk i j k := by
  obtain ⟨k, h1, h2⟩ := h
  obtain ⟨k', a, b⟩ := least (P := fun k => k < 3 ∧ nx m T lk i k j) k ⟨h1, h2⟩
  exact ⟨k', a.1, a.2, fun q hq hx => b q hq ⟨by omega, hx⟩⟩
/-- the row from a to g, and the sides over which it goes -/
def Row (m : Nat) (T : Nat → Nat → Nat) (lk : Nat → Nat → Prop) (g a d : Nat) (P S : Nat → Nat) : Prop := P 0 = a ∧ (∀ p, p ≤ d → P p < m ∧ Ds m T lk g (P p) (d - p)) ∧ ∀ p, p < d → mn m T lk g (P p) (d - p - 1) (P (p + 1)) ∧ sd m T lk (P p) (P (p + 1)) (S p)
theorem Row_ex {m : Nat} {T : Nat → Nat → Nat} {lk : Nat → Nat → Prop} {g : Nat} : ∀ d a, a < m → Ds m T lk g a d → ∃ P S, Row m T lk g a d P S := by
  intro d
  induction d with
  | zero =>
    intro a ha h
    refine ⟨fun _ => a, fun _ => 0, rfl, fun p hp => ?_, fun p hp => by omega⟩
    have e : p = 0 := by omega
    rw [e]
    exact ⟨ha, h⟩
  | succ d ih =>
    intro a ha h
    obtain ⟨j, hj⟩ := mn_ex h
    obtain ⟨k, hk⟩ := sd_ex hj.1
    obtain ⟨P, S, h1, h2, h3⟩ := ih j hj.1.lt hj.2.1
    refine ⟨fun p => if p = 0 then a else P (p - 1), fun p => if p = 0 then k else S (p - 1), rfl, fun p hp => ?_, fun p hp => ?_⟩
    · by_cases e : p = 0
      · rw [e]
        exact ⟨ha, h⟩
      · show (if p = 0 then a else P (p - 1)) < m ∧ Ds m T lk g (if p = 0 then a else P (p - 1)) (d + 1 - p)
        rw [if_neg e, show d + 1 - p = d - (p - 1) by omega]
        exact h2 (p - 1) (by omega)
    · by_cases e : p = 0
      · subst e
        show mn m T lk g a (d + 1 - 0 - 1) (P 0) ∧ sd m T lk a (P 0) k
        rw [h1, show d + 1 - 0 - 1 = d by omega]
        exact ⟨hj, hk⟩
      · show mn m T lk g (if p = 0 then a else P (p - 1)) (d + 1 - p - 1) (if p + 1 = 0 then a else P (p + 1 - 1)) ∧ sd m T lk (if p = 0 then a else P (p - 1)) (if p + 1 = 0 then a else P (p + 1 - 1)) (if p = 0 then k else S (p - 1))
        rw [if_neg e, if_neg (by omega), if_neg e, show d + 1 - p - 1 = d - (p - 1) - 1 by omega, show p + 1 - 1 = (p - 1) + 1 by omega]
        exact h3 (p - 1) (by omega)
theorem Row.goal {m : Nat} {T : Nat → Nat → Nat} {lk : Nat → Nat → Prop} {g a d : Nat} {P S : Nat → Nat} (h : Row m T lk g a d P S) {p : Nat} (hp : p ≤ d) : P p = g ↔ p = d := by
  have hd := (h.2.1 p hp).2
  constructor
  · intro e
    have := hd.2 0 e
    omega
  · intro e
    rw [e, Nat.sub_self] at hd
    rw [e]
    exact hd.1
/-- the class's next triangle -/
theorem f83_ev {s : mS} {m g i d : Nat} {T : Nat → Nat → Nat} {lk : Nat → Nat → Prop} (hm : m ≤ 75) (hU : ∀ i k j j', nx m T lk i k j → nx m T lk i k j' → j = j') (hG : ∀ i k, i < m → k < 3 → ∃ r, f64 (nI i) (nI k) s = some r ∧ gt m T lk i k r) (hd : dC s m T lk g) (hi : i < m) (hI : Ds m T lk g i (d + 1)) : ∃ j, ev (fun k => f83 k (nI i) s) (nI j) ∧ mn m T lk g i d j := by
  have ai : s.1 34 i = nI (d + 1) ∧ d + 1 ≤ 74 := by
    rcases hd i hi with ⟨e, h1, h2, h3⟩ | ⟨_, h2⟩
    · have := Ds_uniq hI h1
      rw [← this] at h2 h3
      exact ⟨h3, h2⟩
    · exact absurd hI.1 (h2 _)
  have aj : ∀ j, j < m → (s.1 34 j = nI d ↔ Ds m T lk g j d) := by
    intro j hj
    rcases hd j hj with ⟨e, h1, h2, h3⟩ | ⟨h1, h2⟩
    · rw [h3]
      constructor
      · intro q
        have : e = d := (nI_eq (by omega) (by omega)).mp q
        rw [← this]; exact h1
      · intro q
        rw [Ds_uniq h1 q]
    · rw [h1]
      exact ⟨fun q => absurd q.symm (nI_m1 (by omega)), fun q => absurd q.1 (h2 _)⟩
  let I : Nat → Int32 → Prop := fun k v => (v = -1 ∧ ∀ k' j, k' < k → nx m T lk i k' j → ¬ Ds m T lk g j d) ∨ (∃ j, v = nI j ∧ Ds m T lk g j d ∧ (∃ k', k' < k ∧ nx m T lk i k' j) ∧ ∀ k' j', k' < k → nx m T lk i k' j' → Ds m T lk g j' d → j ≤ j')
  have main : ∀ e k, k + e = 3 → ∀ v, I k v → ∃ w, ev (fun q => r83 q (nI i) v (nI k) s) w ∧ I 3 w := by
    intro e
    induction e with
    | zero =>
      intro k hk v hv
      have ek : k = 3 := by omega
      subst ek
      refine ⟨v, ev_c fun q => ?_, hv⟩
      simp only [r83]
      rw [if_pos (show (3 : Int32) ≤ nI 3 by decide)]
    | succ e ih =>
      intro k hk v hv
      have hk3 : k < 3 := by omega
      obtain ⟨r, r1, r2⟩ := hG i k hi hk3
      have base : ∀ q, r83 (q + 1) (nI i) v (nI k) s = if r = -1 then r83 q (nI i) v (nI (k + 1)) s else rdI 75 r (rdI 75 (nI i) ((if (¬ (s.1 34 (Int32.toNatClampNeg r)) = ((s.1 34 (Int32.toNatClampNeg (nI i))) - (1 : Int32))) then
            r83 q (nI i) v (nI (k + 1)) s
          else
            (if (v = (-1 : Int32)) then
              r83 q (nI i) r (nI (k + 1)) s
            else
              (if (v ≤ r) then
                r83 q (nI i) v (nI (k + 1)) s
              else
                r83 q (nI i) r (nI (k + 1)) s))))) := by
        intro q
        simp only [r83]
        rw [show (3 : Int32) = nI 3 from rfl, if_neg (fun q => by have := (nI_leI (by omega) (by omega)).mp q; omega), r1, nI_inc]
        rfl
      -- nothing new
      have keep : (∀ j, nx m T lk i k j → ¬ Ds m T lk g j d) → I (k + 1) v := by
        intro hno
        rcases hv with ⟨v1, v2⟩ | ⟨j, v1, v2, ⟨k', v3, v4⟩, v5⟩
        · refine Or.inl ⟨v1, fun k' j h1 h2 => ?_⟩
          by_cases e : k' = k
          · rw [e] at h2; exact hno j h2
          · exact v2 k' j (by omega) h2
        · refine Or.inr ⟨j, v1, v2, ⟨k', by omega, v4⟩, fun k'' j' h1 h2 h3 => ?_⟩
          by_cases e : k'' = k
          · rw [e] at h2; exact absurd h3 (hno j' h2)
          · exact v5 k'' j' (by omega) h2 h3
      rcases r2 with ⟨j, hx, ej⟩ | ⟨er, hno⟩
      · have hjm := hx.lt
        have nr : ¬ nI j = -1 := nI_m1 (by omega)
        have b2 : ∀ q, r83 (q + 1) (nI i) v (nI k) s = if ¬ s.1 34 j = nI d then r83 q (nI i) v (nI (k + 1)) s else if v = -1 then r83 q (nI i) (nI j) (nI (k + 1)) s else if v ≤ nI j then r83 q (nI i) v (nI (k + 1)) s else r83 q (nI i) (nI j) (nI (k + 1)) s := by
          intro q
          rw [base, ej, if_neg nr, rdI_nI (show j < 75 by omega) (by decide), rdI_nI (show i < 75 by omega) (by decide), nI_clamp (by omega), nI_clamp (by omega), ai.1, show (1 : Int32) = nI 1 from rfl, nI_s (by omega) (by omega), show d + 1 - 1 = d by omega]
        by_cases c : Ds m T lk g j d
        · have cj := (aj j hjm).mpr c
          by_cases cv : v = -1
          · have none : ∀ k' j, k' < k → nx m T lk i k' j → ¬ Ds m T lk g j d := by
              rcases hv with ⟨_, v2⟩ | ⟨j', v1, _, ⟨k', v3, v4⟩, _⟩
              · exact v2
              · rw [v1] at cv
                exact absurd cv (nI_m1 (by have := v4.lt; omega))
            obtain ⟨w, w1, w2⟩ := ih (k + 1) (by omega) (nI j) (Or.inr ⟨j, rfl, c, ⟨k, by omega, hx⟩, fun k' j' h1 h2 h3 => by
              by_cases e : k' = k
              · rw [e] at h2; rw [hU _ _ _ _ h2 hx]; exact Nat.le_refl _
              · exact absurd h3 (none k' j' (by omega) h2)⟩)
            refine ⟨w, ev1 w1 fun q hq => ?_, w2⟩
            show r83 (q + 1) _ _ _ _ = _
            rw [b2, if_neg (fun z => z cj), if_pos cv]
            exact hq
          · rcases hv with ⟨v1, _⟩ | ⟨j0, v1, v2, ⟨k', v3, v4⟩, v5⟩
            · exact absurd v1 cv
            · have hj0 := v4.lt
              by_cases cl : j0 ≤ j
              · obtain ⟨w, w1, w2⟩ := ih (k + 1) (by omega) v (Or.inr ⟨j0, v1, v2, ⟨k', by omega, v4⟩, fun k'' j' h1 h2 h3 => by
                  by_cases e : k'' = k
                  · rw [e] at h2; rw [hU _ _ _ _ h2 hx]; exact cl
                  · exact v5 k'' j' (by omega) h2 h3⟩)
                refine ⟨w, ev1 w1 fun q hq => ?_, w2⟩
                show r83 (q + 1) _ _ _ _ = _
                rw [b2, if_neg (fun z => z cj), if_neg cv, v1, if_pos ((nI_leI (by omega) (by omega)).mpr cl), ← v1]
                exact hq
              · obtain ⟨w, w1, w2⟩ := ih (k + 1) (by omega) (nI j) (Or.inr ⟨j, rfl, c, ⟨k, by omega, hx⟩, fun k'' j' h1 h2 h3 => by
                  by_cases e : k'' = k
                  · rw [e] at h2; rw [hU _ _ _ _ h2 hx]; exact Nat.le_refl _
                  · have := v5 k'' j' (by omega) h2 h3; omega⟩)
                refine ⟨w, ev1 w1 fun q hq => ?_, w2⟩
                show r83 (q + 1) _ _ _ _ = _
                rw [b2, if_neg (fun z => z cj), if_neg cv, v1, if_neg (fun z => cl ((nI_leI (by omega) (by omega)).mp z))]
                exact hq
        · obtain ⟨w, w1, w2⟩ := ih (k + 1) (by omega) v (keep fun j' h => by rw [hU _ _ _ _ h hx]; exact c)
          refine ⟨w, ev1 w1 fun q hq => ?_, w2⟩
          show r83 (q + 1) _ _ _ _ = _
          rw [b2, if_pos (fun z => c ((aj j hjm).mp z))]
          exact hq
      · obtain ⟨w, w1, w2⟩ := ih (k + 1) (by omega) v (keep fun j' h => absurd h (hno j'))
        refine ⟨w, ev1 w1 fun q hq => ?_, w2⟩
        show r83 (q + 1) _ _ _ _ = _
        rw [base, if_pos er]
        exact hq
  obtain ⟨w, w1, w2⟩ := main 3 0 (by omega) (-1) (Or.inl ⟨rfl, fun k' _ h => by omega⟩)
  rcases w2 with ⟨_, h2⟩ | ⟨j, h1, h2, ⟨k', h3, h4⟩, h5⟩
  · obtain ⟨j, ⟨k, hk, hx⟩, hj⟩ := Ds_next hI
    exact absurd hj (h2 k j hk hx)
  · rw [h1] at w1
    exact ⟨j, w1, ⟨k', h3, h4⟩, h2, fun j' ⟨k, hk, hx⟩ hj => h5 k j' hk hx hj⟩
