/-! the reference counts steps -/
def sumf (f : Nat → Nat) : Nat → Nat
  | 0 => 0
  | m + 1 => sumf f m + f m
theorem sumf_le {f f' : Nat → Nat} (h : ∀ x, f' x ≤ f x) : ∀ m, sumf f' m ≤ sumf f m := by
  intro m
  induction m with
  | zero => exact Nat.le_refl _
  | succ m ih =>
    have := h m
    unfold sumf
    omega
theorem sumf_lt {f f' : Nat → Nat} (h : ∀ x, f' x ≤ f x) {i : Nat} (hi : f' i < f i) : ∀ m, i < m → sumf f' m < sumf f m := by
  intro m
  induction m with
  | zero => intro q; omega
  | succ m ih =>
    intro q
    have a := h m
    have b := sumf_le h m
    unfold sumf
    by_cases e : i = m
    · rw [e] at hi
      omega
    · have := ih (by omega)
      omega
def BF (s0 s : mS) (m : Nat) (T : Nat → Nat → Nat) (lk : Nat → Nat → Prop) (g : Nat) (f : Nat → Nat) : Prop :=
  sm [50] [] [] [] s0 s ∧ (∀ i, i < m → s.1 50 i = nI (f i)) ∧ f g = 0 ∧ (∀ i, i < m → f i ≤ 1000) ∧ (∀ i, i < m → f i = 1000 ∨ wk m T lk g (f i) i)
theorem r148_ev {s0 : mS} {m g : Nat} {T : Nat → Nat → Nat} {lk : Nat → Nat → Prop} (hm : m ≤ 75) (hg : g < m) (h17 : s0.2.2.1 17 = nI m) (hU : ∀ i k j j', nx m T lk i k j → nx m T lk i k j' → j = j') (hG : ∀ s, sm [50] [] [] [] s0 s → ∀ i k, i < m → k < 3 → ∃ r, ev (fun q => f149 q (nI i) (nI k) s) r ∧ gt m T lk i k r) :
    ∀ N s f, BF s0 s m T lk g f → sumf f m < N → ∃ t f', ev (fun k => r148 k 2 (nI g) 0 0 0 s) t ∧ BF s0 t m T lk g f' ∧ ∀ i j, i < m → adj m T lk i j → f' i ≤ f' j + 1 := by
  intro N
  induction N with
  | zero => intro s f _ h; omega
  | succ N IH =>
    intro s f hB hN
    have rows : ∀ d i, i + d = m → ∀ s' f' (c : Int32), BF s0 s' m T lk g f' → ((c = 0 ∧ f' = f ∧ ∀ i' j, i' < i → adj m T lk i' j → f' i' ≤ f' j + 1) ∨ (c = 1 ∧ sumf f' m < sumf f m)) → ∃ t f2, ev (fun k => r148 k 2 (nI g) c (nI i) 0 s') t ∧ BF s0 t m T lk g f2 ∧ ∀ i j, i < m → adj m T lk i j → f2 i ≤ f2 j + 1 := by
      intro d
      induction d with
      | zero =>
        intro i hi s' f' c hB' hc
        have ei : i = m := by omega
        subst ei
        have h17' : s'.2.2.1 17 = nI i := by rw [hB'.1.2.2.1 17 (by decide)]; exact h17
        have a : ∀ k, r148 (k + 1) 2 (nI g) c (nI i) 0 s' = r148 k 1 (nI g) c 0 0 s' := by
          intro k
          simp only [r148]
          rw [if_neg (by decide), if_neg (by decide), if_pos trivial, h17', if_pos ((nI_leI (by omega) (by omega)).mpr (Nat.le_refl _))]
        rcases hc with ⟨c0, _, hr⟩ | ⟨c1, hs⟩
        · refine ⟨s', f', ⟨2, fun k hk => ?_⟩, hB', fun i' j h1 h2 => hr i' j h1 h2⟩
          obtain ⟨j, rfl⟩ : ∃ j, k = j + 1 + 1 := ⟨k - 2, by omega⟩
          show r148 (j + 1 + 1) _ _ _ _ _ _ = _
          rw [a]
          simp only [r148]
          rw [if_neg (by decide), if_pos trivial, if_pos c0]
        · obtain ⟨t, f2, q1, q2, q3⟩ := IH s' f' hB' (by omega)
          refine ⟨t, f2, ?_, q2, q3⟩
          obtain ⟨K, hK⟩ := q1
          refine ⟨K + 2, fun k hk => ?_⟩
          obtain ⟨j, rfl⟩ : ∃ j, k = j + 1 + 1 := ⟨k - 2, by omega⟩
          show r148 (j + 1 + 1) _ _ _ _ _ _ = _
          rw [a]
          simp only [r148]
          rw [if_neg (by decide), if_pos trivial, if_neg (by rw [c1]; decide)]
          exact hK j (by omega)
      | succ d ihd =>
        intro i hi s' f' c hB' hc
        have him : i < m := by omega
        have cols : ∀ e k, k + e = 3 → ∀ s' f' (c : Int32), BF s0 s' m T lk g f' → ((c = 0 ∧ f' = f ∧ (∀ i' j, i' < i → adj m T lk i' j → f' i' ≤ f' j + 1) ∧ ∀ k' j, k' < k → nx m T lk i k' j → f' i ≤ f' j + 1) ∨ (c = 1 ∧ sumf f' m < sumf f m)) → ∃ t f2, ev (fun q => r148 q 3 (nI g) c (nI i) (nI k) s') t ∧ BF s0 t m T lk g f2 ∧ ∀ i j, i < m → adj m T lk i j → f2 i ≤ f2 j + 1 := by
          intro e
          induction e with
          | zero =>
            intro k hk s' f' c hB' hc
            have ek : k = 3 := by omega
            subst ek
            obtain ⟨t, f2, q1, q2, q3⟩ := ihd (i + 1) (by omega) s' f' c hB' (by
              rcases hc with ⟨c0, ef, h1, h2⟩ | hc
              · refine Or.inl ⟨c0, ef, fun i' j h3 h4 => ?_⟩
                by_cases e : i' = i
                · rw [e] at h4 ⊢
                  obtain ⟨k', hk', hx⟩ := h4
                  exact h2 k' j hk' hx
                · exact h1 i' j (by omega) h4
              · exact Or.inr hc)
            refine ⟨t, f2, ev1 q1 fun q hq => ?_, q2, q3⟩
            show r148 (q + 1) _ _ _ _ _ _ = _
            simp only [r148]
            rw [if_neg (by decide), if_neg (by decide), if_neg (by decide), if_pos (show (3 : Int32) ≤ nI 3 by decide), nI_inc]
            exact hq
          | succ e ihe =>
            intro k hk s' f' c hB' hc
            have hk3 : k < 3 := by omega
            obtain ⟨r, r1, r2⟩ := hG s' hB'.1 i k him hk3
            have base : ∀ q, f149 q (nI i) (nI k) s' = some r → r148 (q + 1) 3 (nI g) c (nI i) (nI k) s' = if r < 0 then r148 q 3 (nI g) c (nI i) (nI (k + 1)) s' else rdI 100 r (rdI 100 (nI i) ((if ((s'.1 50 (Int32.toNatClampNeg (nI i))) ≤ ((s'.1 50 (Int32.toNatClampNeg r)) + (1 : Int32))) then
            r148 q 3 (nI g) c (nI i) (nI (k + 1)) s'
          else
            rdI 100 r (rdI 100 (nI i) (pt (uA 50 (upd (s'.1 50) (Int32.toNatClampNeg (nI i)) ((s'.1 50 (Int32.toNatClampNeg r)) + (1 : Int32))) s') fun s10 => r148 q 3 (nI g) 1 (nI i) (nI (k + 1)) s10))))) := by
              intro q hq
              simp only [r148]
              rw [if_neg (by decide), if_neg (by decide), if_neg (by decide), show (3 : Int32) = nI 3 from rfl, if_neg (fun q => by have := (nI_leI (by omega) (by omega)).mp q; omega), hq, nI_inc]
              rfl
            rcases r2 with ⟨j, hx, ej⟩ | ⟨er, hno⟩
            · have hjm := hx.lt
              have fi := hB'.2.2.2.1 i him
              have fj := hB'.2.2.2.1 j hjm
              have a1 := hB'.2.1 i him
              have a2 := hB'.2.1 j hjm
              by_cases cc : f' i ≤ f' j + 1
              · obtain ⟨t, f2, q1, q2, q3⟩ := ihe (k + 1) (by omega) s' f' c hB' (by
                  rcases hc with ⟨c0, ef, h1, h2⟩ | hc
                  · refine Or.inl ⟨c0, ef, h1, fun k' j' h3 h4 => ?_⟩
                    by_cases e : k' = k
                    · rw [e] at h4
                      rw [hU _ _ _ _ h4 hx]
                      exact cc
                    · exact h2 k' j' (by omega) h4
                  · exact Or.inr hc)
                refine ⟨t, f2, ev2 r1 q1 fun q hq1 hq2 => ?_, q2, q3⟩
                show r148 (q + 1) _ _ _ _ _ _ = _
                rw [base q hq1, ej, if_neg (nI_pos (by omega)), rdI_nI (show j < 100 by omega) (by decide), rdI_nI (show i < 100 by omega) (by decide), nI_clamp (by omega), nI_clamp (by omega), a1, a2, nI_1, if_pos ((nI_leI (by omega) (by omega)).mpr cc)]
                exact hq2
              · let f3 : Nat → Nat := fun x => if x = i then f' j + 1 else f' x
                have f3i : f3 i = f' j + 1 := if_pos rfl
                have f3x : ∀ x, x ≠ i → f3 x = f' x := fun x hx => if_neg hx
                have hw : wk m T lk g (f' j) j := by
                  rcases hB'.2.2.2.2 j hjm with q | q
                  · omega
                  · exact q
                have gi : g ≠ i := fun e => by
                  have := hB'.2.2.1
                  rw [e] at this
                  omega
                have hB3 : BF s0 (uA 50 (upd (s'.1 50) i (nI (f' j + 1))) s') m T lk g f3 := by
                  refine ⟨hB'.1.trans (sm_A (by decide) _ s'), fun x hx => ?_, by rw [f3x g gi]; exact hB'.2.2.1, fun x hx => ?_, fun x hx' => ?_⟩
                  · rw [uA_at]
                    unfold upd
                    by_cases e : x = i
                    · rw [if_pos e, e, f3i]
                    · rw [if_neg e, f3x x e]; exact hB'.2.1 x hx
                  · by_cases e : x = i
                    · rw [e, f3i]; omega
                    · rw [f3x x e]; exact hB'.2.2.2.1 x hx
                  · by_cases e : x = i
                    · rw [e, f3i]
                      exact Or.inr ⟨j, ⟨k, hk3, hx⟩, hw⟩
                    · rw [f3x x e]; exact hB'.2.2.2.2 x hx'
                have lt : sumf f3 m < sumf f' m := sumf_lt (fun x => by
                  by_cases e : x = i
                  · rw [e, f3i]; omega
                  · rw [f3x x e]; exact Nat.le_refl _) (i := i) (by rw [f3i]; omega) m him
                have start : sumf f' m ≤ sumf f m := by
                  rcases hc with ⟨_, ef, _⟩ | ⟨_, h⟩
                  · rw [ef]; exact Nat.le_refl _
                  · omega
                obtain ⟨t, f2, q1, q2, q3⟩ := ihe (k + 1) (by omega) _ f3 1 hB3 (Or.inr ⟨rfl, by omega⟩)
                refine ⟨t, f2, ev2 r1 q1 fun q hq1 hq2 => ?_, q2, q3⟩
                show r148 (q + 1) _ _ _ _ _ _ = _
                rw [base q hq1, ej, if_neg (nI_pos (by omega)), rdI_nI (show j < 100 by omega) (by decide), rdI_nI (show i < 100 by omega) (by decide), nI_clamp (by omega), nI_clamp (by omega), a1, a2, nI_1, if_neg (fun w => cc ((nI_leI (by omega) (by omega)).mp w)), rdI_nI (show j < 100 by omega) (by decide), rdI_nI (show i < 100 by omega) (by decide)]
                exact hq2
            · obtain ⟨t, f2, q1, q2, q3⟩ := ihe (k + 1) (by omega) s' f' c hB' (by
                rcases hc with ⟨c0, ef, h1, h2⟩ | hc
                · refine Or.inl ⟨c0, ef, h1, fun k' j' h3 h4 => ?_⟩
                  by_cases e : k' = k
                  · rw [e] at h4
                    exact absurd h4 (hno j')
                  · exact h2 k' j' (by omega) h4
                · exact Or.inr hc)
              refine ⟨t, f2, ev2 r1 q1 fun q hq1 hq2 => ?_, q2, q3⟩
              show r148 (q + 1) _ _ _ _ _ _ = _
              rw [base q hq1, er, if_pos (by decide)]
              exact hq2
        obtain ⟨t, f2, q1, q2, q3⟩ := cols 3 0 (by omega) s' f' c hB' (by
          rcases hc with ⟨c0, ef, h1⟩ | hc
          · exact Or.inl ⟨c0, ef, h1, fun k' _ h => by omega⟩
          · exact Or.inr hc)
        refine ⟨t, f2, ev1 q1 fun q hq => ?_, q2, q3⟩
        show r148 (q + 1) _ _ _ _ _ _ = _
        have h17' : s'.2.2.1 17 = nI m := by rw [hB'.1.2.2.1 17 (by decide)]; exact h17
        simp only [r148]
        rw [if_neg (by decide), if_neg (by decide), if_pos trivial, h17', if_neg (fun q => by have := (nI_leI (by omega) (by omega)).mp q; omega)]
        exact hq
    exact rows m 0 (by omega) s f 0 hB (Or.inl ⟨rfl, rfl, fun i' _ h => by omega⟩)
