/-! the reference's runs, backward; the turns along a chain -/
/-- doors 0 .. l, the last one the goal; ZN: tip t, doors up to p touch it; ZS: the scan stands at p -/
def Zc (X Y : Nat → Int) (L R : Nat → Nat) (l : Nat) (ZN : Nat → Nat → List Nat → Prop) (ZS : Nat → Nat → Nat → Nat → Nat → Nat → List Nat → Prop) : Prop :=
  (∀ t p ts, p + 1 ≤ l → (p + 1 < l → ¬ oS X Y (L (p + 1)) (R (p + 1)) t) → ZS t (p + 1) (L (p + 1)) (p + 1) (R (p + 1)) (p + 1) ts → ZN t p ts) ∧
  (∀ t p ts, p + 1 < l → oS X Y (L (p + 1)) (R (p + 1)) t → ZN t (p + 1) ts → ZN t p ts) ∧
  (∀ t p ts lam jl rho jr lam' jl' rho' jr', p + 1 ≤ l → Sq X Y t (L (p + 1)) (R (p + 1)) lam jl rho jr lam' jl' rho' jr' (p + 1) → ZS t (p + 1) lam' jl' rho' jr' ts → ZS t p lam jl rho jr ts) ∧
  (∀ t p ts lam jl rho jr, p + 1 ≤ l → (ar X Y t rho (L (p + 1))) < 0 → (ar X Y t lam (R (p + 1))) ≤ 0 → R jr = rho → jr ≤ p → ZN rho jr (ts ++ [rho]) → ZS t p lam jl rho jr ts) ∧
  (∀ t p ts lam jl rho jr, p + 1 ≤ l → 0 ≤ (ar X Y t rho (L (p + 1))) → 0 < (ar X Y t lam (R (p + 1))) → L jl = lam → jl ≤ p → ZN lam jl (ts ++ [lam]) → ZS t p lam jl rho jr ts)
theorem Sc.run {X Y : Nat → Int} {L R : Nat → Nat} {l : Nat} {ZN : Nat → Nat → List Nat → Prop} {ZS : Nat → Nat → Nat → Nat → Nat → Nat → List Nat → Prop} (hZ : Zc X Y L R l ZN ZS) {v j0 : Nat} {ts : List Nat} : ∀ {p lam jl rho jr}, Sc X Y L R v j0 p lam jl rho jr → p ≤ l → ZS v p lam jl rho jr ts → ZS v j0 (L j0) j0 (R j0) j0 ts := by
  intro p lam jl rho jr ⟨e, ep, h⟩ hp hz
  subst ep
  induction e generalizing lam jl rho jr with
  | zero =>
    obtain ⟨h1, h2, h3, h4⟩ := h
    rw [h1, h2, h3, h4] at hz
    exact hz
  | succ e ih =>
    obtain ⟨lam0, jl0, rho0, jr0, h, hq⟩ := h
    exact ih h (by omega) (hZ.2.2.1 v (j0 + e) ts lam0 jl0 rho0 jr0 lam jl rho jr (by omega) hq hz)
theorem oS_R (X Y : Nat → Int) (a b : Nat) : oS X Y a b b := ⟨ar_yxx X Y a b, by unfold dt; grind⟩
theorem oS_L (X Y : Nat → Int) (a b : Nat) : oS X Y a b a := ⟨ar_xyx X Y a b, by unfold dt; grind⟩
theorem RC.end {X Y : Nat → Int} {L R : Nat → Nat} {p u v q : Nat} {r : List (Nat × Nat)} (h : RC X Y L R p u v q r) : R q = v ∧ q ≤ p := by
  cases r with
  | nil => exact ⟨by rw [h.1]; exact h.2.1.symm, by rw [h.1]; exact Nat.le_refl _⟩
  | cons z r =>
    obtain ⟨v', q'⟩ := z
    exact ⟨h.1, Nat.le_of_lt h.2.1⟩
theorem not_on {X Y : Nat → Int} {v L R : Nat} (h : 0 < (ar X Y v R L)) : ¬ oS X Y L R v := fun k => by
  have := k.1
  have := ar_c X Y v L R
  have := ar_t X Y v L R
  omega
/-- w passes v: the tip turns at v and goes on -/
theorem turnsL {X Y : Nat → Int} {L R : Nat → Nat} {l p : Nat} {ZN : Nat → Nat → List Nat → Prop} {ZS : Nat → Nat → Nat → Nat → Nat → Nat → List Nat → Prop} (hZ : Zc X Y L R l ZN ZS) (hl : p + 1 < l) (hR : R (p + 1) = R p) (hw : 0 < (ar X Y (L p) (R p) (L (p + 1)))) : ∀ r u v q, RC X Y L R p u v q r → (ar X Y u v (L (p + 1))) < 0 →
    ((tnL X Y (L (p + 1)) v (r.map Prod.fst)).2.2 = [] ∧ (tnL X Y (L (p + 1)) v (r.map Prod.fst)).2.1 = R (p + 1) ∧ ∀ ts, ZN (R (p + 1)) (p + 1) (ts ++ (tnL X Y (L (p + 1)) v (r.map Prod.fst)).1) → ZN v q ts) ∨
    (∃ t x q2 r2, (tnL X Y (L (p + 1)) v (r.map Prod.fst)).2.1 = t ∧ (tnL X Y (L (p + 1)) v (r.map Prod.fst)).2.2 = x :: r2.map Prod.fst ∧ see X Y t (L (p + 1)) (R (p + 1)) (L (p + 1)) x ∧ RC X Y L R (p + 1) t x q2 r2 ∧ ((ar X Y t x (R (p + 1))) < 0 ∨ (x = R (p + 1) ∧ q2 = p + 1)) ∧ ∀ ts, ZS t (p + 1) (L (p + 1)) (p + 1) x q2 (ts ++ (tnL X Y (L (p + 1)) v (r.map Prod.fst)).1) → ZN v q ts) := by
  intro r
  induction r with
  | nil =>
    intro u v q h hu
    obtain ⟨h1, h2, h3⟩ := h
    refine Or.inl ⟨rfl, by rw [hR]; exact h2, fun ts hz => ?_⟩
    rw [h1, h2, ← hR]
    have e : ts ++ (tnL X Y (L (p + 1)) v (List.map Prod.fst ([] : List (Nat × Nat)))).1 = ts := List.append_nil ts
    rw [e] at hz
    exact hZ.2.1 _ p ts hl (oS_R X Y _ _) hz
  | cons z r ih =>
    intro u v q h hu
    obtain ⟨v', q'⟩ := z
    obtain ⟨h1, h2, h3, ⟨lam, jl, hs, hc⟩, h5⟩ := h
    have hlr := hc.1.Rl
    have he := h5.end
    obtain ⟨t1, t2⟩ := hc.turn hw hu
    -- from the scan at p back to the door after v's own
    have back : ∀ ts, ZS v p lam jl v' q' ts → ZN v q ts := fun ts hz => hZ.1 v q ts (by omega) (fun _ => not_on h3) (hs.run hZ (by omega) hz)
    rw [List.map_cons]
    by_cases c : (ar X Y v v' (L (p + 1))) < 0
    · have e : tnL X Y (L (p + 1)) v (v' :: r.map Prod.fst) = (v' :: (tnL X Y (L (p + 1)) v' (r.map Prod.fst)).1, (tnL X Y (L (p + 1)) v' (r.map Prod.fst)).2) := by
        rw [tnL]
        exact if_pos c
      have go : ∀ ts, ZN v' q' (ts ++ [v']) → ZN v q ts := fun ts hz => back ts (hZ.2.2.2.1 v p ts lam jl v' q' (by omega) c (by rw [hR]; exact hlr.1) he.1 he.2 hz)
      have ea : ∀ ts es : List Nat, ts ++ (v' :: es) = (ts ++ [v']) ++ es := fun ts es => by simp
      rw [e]
      rcases ih v v' q' h5 c with ⟨a1, a2, a3⟩ | ⟨t, x, q2, r2, a1, a2, a3, a4, a6, a5⟩
      · exact Or.inl ⟨a1, a2, fun ts hz => go ts (a3 (ts ++ [v']) (by rw [← ea]; exact hz))⟩
      · exact Or.inr ⟨t, x, q2, r2, a1, a2, a3, a4, a6, fun ts hz => go ts (a5 (ts ++ [v']) (by rw [← ea]; exact hz))⟩
    · have e : tnL X Y (L (p + 1)) v (v' :: r.map Prod.fst) = ([], v, v' :: r.map Prod.fst) := by
        rw [tnL]
        exact if_neg c
      have hn : 0 ≤ (ar X Y v v' (L (p + 1))) := by omega
      obtain ⟨q2, r2, k1, k2, k3⟩ := RC.stepL hR hw r v v' q' h5 hn
      obtain ⟨rho', jr', s1, s2, s3⟩ := hs.sameR hR
      have ej : jr' = q2 := by
        rcases s3 with ⟨a, b⟩ | ⟨a, b, c⟩
        · rcases k3 with ⟨e, _⟩ | ⟨_, e⟩
          · rw [e] at h5
            obtain ⟨_, e2, _⟩ := h5
            rw [e2, ar_yxx] at a
            omega
          · rw [b, e]
        · rcases k3 with ⟨_, e⟩ | ⟨e, _⟩
          · rw [c, e]
          · cases r with
            | nil => exact absurd rfl e
            | cons z2 r3 =>
              obtain ⟨_, e2, _⟩ := h5
              omega
      rw [s2, ej] at s1
      rw [e]
      refine Or.inr ⟨v, v', q2, r2, rfl, by rw [k2], by rw [hR]; exact t2 hn, k1, (by rcases s1 with ⟨a, _⟩ | ⟨_, a, b⟩; exact Or.inl a; exact Or.inr ⟨a, b⟩), fun ts hz => back ts (hZ.2.2.1 v p ts lam jl v' q' (L (p + 1)) (p + 1) v' q2 (by omega) ⟨hn, by rw [hR]; exact hlr.1, Or.inr ⟨Int.le_of_lt t1, rfl, rfl⟩, s1⟩ ?_)⟩
      have e9 : ts ++ ([] : List Nat) = ts := List.append_nil ts
      have hz : ZS v (p + 1) (L (p + 1)) (p + 1) v' q2 (ts ++ []) := hz
      rw [e9] at hz
      exact hz
