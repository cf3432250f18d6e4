/-! the reference's scan, and the chains that stand beside it -/
/-- one more door, without a turn -/
def Sq (X Y : Nat → Int) (v l1 r1 lam jl rho jr lam' jl' rho' jr' p : Nat) : Prop := 0 ≤ (ar X Y v rho l1) ∧ (ar X Y v lam r1) ≤ 0 ∧ ((0 < (ar X Y v lam l1) ∧ lam' = lam ∧ jl' = jl) ∨ ((ar X Y v lam l1) ≤ 0 ∧ lam' = l1 ∧ jl' = p)) ∧ (((ar X Y v rho r1) < 0 ∧ rho' = rho ∧ jr' = jr) ∨ (0 ≤ (ar X Y v rho r1) ∧ rho' = r1 ∧ jr' = p))
def Sn (X Y : Nat → Int) (L R : Nat → Nat) (v j0 : Nat) : Nat → Nat → Nat → Nat → Nat → Prop
  | 0, lam, jl, rho, jr => lam = L j0 ∧ jl = j0 ∧ rho = R j0 ∧ jr = j0
  | e + 1, lam', jl', rho', jr' => ∃ lam jl rho jr, Sn X Y L R v j0 e lam jl rho jr ∧ Sq X Y v (L (j0 + e + 1)) (R (j0 + e + 1)) lam jl rho jr lam' jl' rho' jr' (j0 + e + 1)
/-- from v, begun at door j0, without a turn, now at door p -/
def Sc (X Y : Nat → Int) (L R : Nat → Nat) (v j0 p lam jl rho jr : Nat) : Prop := ∃ e, p = j0 + e ∧ Sn X Y L R v j0 e lam jl rho jr
theorem Sc.start {X Y : Nat → Int} {L R : Nat → Nat} {v j0 : Nat} : Sc X Y L R v j0 j0 (L j0) j0 (R j0) j0 := ⟨0, rfl, rfl, rfl, rfl, rfl⟩
theorem Sc.step {X Y : Nat → Int} {L R : Nat → Nat} {v j0 p lam jl rho jr lam' jl' rho' jr' : Nat} (h : Sc X Y L R v j0 p lam jl rho jr) (h1 : 0 ≤ (ar X Y v rho (L (p + 1)))) (h2 : (ar X Y v lam (R (p + 1))) ≤ 0) (h3 : (0 < (ar X Y v lam (L (p + 1))) ∧ lam' = lam ∧ jl' = jl) ∨ ((ar X Y v lam (L (p + 1))) ≤ 0 ∧ lam' = L (p + 1) ∧ jl' = p + 1)) (h4 : ((ar X Y v rho (R (p + 1))) < 0 ∧ rho' = rho ∧ jr' = jr) ∨ (0 ≤ (ar X Y v rho (R (p + 1))) ∧ rho' = R (p + 1) ∧ jr' = p + 1)) : Sc X Y L R v j0 (p + 1) lam' jl' rho' jr' := by
  obtain ⟨e, ep, h⟩ := h
  subst ep
  exact ⟨e + 1, rfl, lam, jl, rho, jr, h, h1, h2, h3, h4⟩
theorem Sc.inv {X Y : Nat → Int} {L R : Nat → Nat} {v j0 p lam jl rho jr : Nat} (h : Sc X Y L R v j0 p lam jl rho jr) : ((ar X Y v rho (R p)) < 0 ∨ (rho = R p ∧ jr = p)) ∧ (0 < (ar X Y v lam (L p)) ∨ (lam = L p ∧ jl = p)) := by
  obtain ⟨e, ep, h⟩ := h
  subst ep
  cases e with
  | zero =>
    obtain ⟨h1, h2, h3, h4⟩ := h
    exact ⟨Or.inr ⟨h3, h4⟩, Or.inr ⟨h1, h2⟩⟩
  | succ e =>
    obtain ⟨_, _, _, _, _, _, _, h3, h4⟩ := h
    constructor
    · rcases h4 with ⟨q, e1, _⟩ | ⟨_, e1, e2⟩
      · rw [e1]; exact Or.inl q
      · exact Or.inr ⟨e1, e2⟩
    · rcases h3 with ⟨q, e1, _⟩ | ⟨_, e1, e2⟩
      · rw [e1]; exact Or.inl q
      · exact Or.inr ⟨e1, e2⟩
/-- the right chain from v on, u before it; each with the last door whose end it is -/
def RC (X Y : Nat → Int) (L R : Nat → Nat) (p : Nat) : Nat → Nat → Nat → List (Nat × Nat) → Prop
  | u, v, q, [] => q = p ∧ v = R p ∧ 0 ≤ (ar X Y u v (L p))
  | u, v, q, (v', q') :: r => R q = v ∧ q < p ∧ 0 < (ar X Y v (R (q + 1)) (L (q + 1))) ∧ (∃ lam jl, Sc X Y L R v (q + 1) p lam jl v' q' ∧ chR X Y u v (L p) (R p) lam v') ∧ RC X Y L R p v v' q' r
def LC (X Y : Nat → Int) (L R : Nat → Nat) (p : Nat) : Nat → Nat → Nat → List (Nat × Nat) → Prop
  | u, v, q, [] => q = p ∧ v = L p ∧ (ar X Y u v (R p)) ≤ 0
  | u, v, q, (v', q') :: r => L q = v ∧ q < p ∧ 0 < (ar X Y v (R (q + 1)) (L (q + 1))) ∧ (∃ rho jr, Sc X Y L R v (q + 1) p v' q' rho jr ∧ chL X Y u v (L p) (R p) v' rho) ∧ LC X Y L R p v v' q' r
/-- the right end does not move: the scan's right side -/
theorem Sc.sameR {X Y : Nat → Int} {L R : Nat → Nat} {v j0 p lam jl rho jr : Nat} (h : Sc X Y L R v j0 p lam jl rho jr) (hR : R (p + 1) = R p) : ∃ rho' jr', (((ar X Y v rho (R (p + 1))) < 0 ∧ rho' = rho ∧ jr' = jr) ∨ (0 ≤ (ar X Y v rho (R (p + 1))) ∧ rho' = R (p + 1) ∧ jr' = p + 1)) ∧ rho' = rho ∧ (((ar X Y v rho (R p)) < 0 ∧ jr' = jr) ∨ (rho = R p ∧ jr = p ∧ jr' = p + 1)) := by
  rcases h.inv.1 with q | ⟨q1, q2⟩
  · exact ⟨rho, jr, Or.inl ⟨by rw [hR]; exact q, rfl, rfl⟩, rfl, Or.inl ⟨q, rfl⟩⟩
  · refine ⟨R (p + 1), p + 1, Or.inr ⟨by rw [hR, q1, ar_yxx]; exact Int.le_refl _, rfl, rfl⟩, by rw [hR, q1], Or.inr ⟨q1, q2, rfl⟩⟩
theorem see.Rl {X Y : Nat → Int} {v L R lam rho : Nat} (h : see X Y v L R lam rho) : (ar X Y v lam R) ≤ 0 ∧ (ar X Y v rho R) ≤ 0 := by
  obtain ⟨f, hf, h0, h1, h2, h3, h4, h5, h6, h7⟩ := h
  have := tr_le hf h0 h2 h4 h3 h5 h6
  have := ar_t X Y v lam R
  have := ar_t X Y v rho R
  omega
/-- a new left end, seen from the right chain -/
theorem RC.stepL {X Y : Nat → Int} {L R : Nat → Nat} {p : Nat} (hR : R (p + 1) = R p) (hw : 0 < (ar X Y (L p) (R p) (L (p + 1)))) : ∀ r u v q, RC X Y L R p u v q r → 0 ≤ (ar X Y u v (L (p + 1))) → ∃ q2 r2, RC X Y L R (p + 1) u v q2 r2 ∧ r2.map Prod.fst = r.map Prod.fst ∧ ((r = [] ∧ q2 = p + 1) ∨ (r ≠ [] ∧ q2 = q)) := by
  intro r
  induction r with
  | nil =>
    intro u v q h hu
    obtain ⟨h1, h2, h3⟩ := h
    exact ⟨p + 1, [], ⟨rfl, by rw [hR]; exact h2, hu⟩, rfl, Or.inl ⟨rfl, rfl⟩⟩
  | cons z r ih =>
    intro u v q h hu
    obtain ⟨v', q'⟩ := z
    obtain ⟨h1, h2, h3, ⟨lam, jl, hs, hc⟩, h5⟩ := h
    obtain ⟨n1, n2, n3⟩ := hc.stepL hw hu
    obtain ⟨q2, r2, k1, k2, k3⟩ := ih v v' q' h5 n1
    obtain ⟨rho', jr', s1, s2, s3⟩ := hs.sameR hR
    have hl := hc.1.Rl
    have ej : jr' = q2 := by
      rcases s3 with ⟨a, b⟩ | ⟨a, b, c⟩
      · rcases k3 with ⟨e, _⟩ | ⟨_, e⟩
        · rw [e] at h5
          obtain ⟨_, e2, _⟩ := h5
          rw [e2, ar_yxx] at a
          omega
        · rw [b, e]
      · rcases k3 with ⟨_, e⟩ | ⟨e, _⟩
        · rw [c, e]
        · cases r with
          | nil => exact absurd rfl e
          | cons z2 r3 =>
            obtain ⟨_, e2, _⟩ := h5
            omega
    rw [s2, ej] at s1
    by_cases c : 0 < (ar X Y v lam (L (p + 1)))
    · exact ⟨q, (v', q2) :: r2, ⟨h1, by omega, h3, ⟨lam, jl, Sc.step hs n1 (by rw [hR]; exact hl.1) (Or.inl ⟨c, rfl, rfl⟩) s1, by rw [hR]; exact n2 c⟩, k1⟩, by rw [List.map_cons, List.map_cons, k2], Or.inr ⟨by simp, rfl⟩⟩
    · exact ⟨q, (v', q2) :: r2, ⟨h1, by omega, h3, ⟨L (p + 1), p + 1, Sc.step hs n1 (by rw [hR]; exact hl.1) (Or.inr ⟨by omega, rfl, rfl⟩) s1, by rw [hR]; exact n3 (by omega)⟩, k1⟩, by rw [List.map_cons, List.map_cons, k2], Or.inr ⟨by simp, rfl⟩⟩
/-- what is left of a chain after u when w comes: the ends that w passes go -/
def popL (X Y : Nat → Int) (w : Nat) : Nat → List Nat → List Nat
  | _, [] => []
  | u, v :: r => match popL X Y w v r with
    | [] => if 0 < (ar X Y u v w) then [v] else []
    | x :: y => v :: x :: y
/-- a new left end, on the left chain -/
theorem LC.stepL {X Y : Nat → Int} {L R : Nat → Nat} {p : Nat} (hR : R (p + 1) = R p) (hw : 0 < (ar X Y (L p) (R p) (L (p + 1)))) : ∀ r u v q, LC X Y L R p u v q r → (0 < (ar X Y u v (L (p + 1))) → ∃ r2, LC X Y L R (p + 1) u v q r2 ∧ r2.map Prod.fst = popL X Y (L (p + 1)) v (r.map Prod.fst) ++ [L (p + 1)]) ∧ ((ar X Y u v (L (p + 1))) ≤ 0 → popL X Y (L (p + 1)) v (r.map Prod.fst) = []) := by
  intro r
  induction r with
  | nil =>
    intro u v q h
    obtain ⟨h1, h2, h3⟩ := h
    subst h2
    subst h1
    refine ⟨fun hu => ⟨[(L (q + 1), q + 1)], ⟨rfl, by omega, ?_, ⟨R (q + 1), q + 1, Sc.start, see.start ?_, hu, by rw [hR]; exact h3⟩, rfl, rfl, ?_⟩, rfl⟩, fun _ => rfl⟩
    · rw [hR]; exact hw
    · rw [hR]; exact hw
    · rw [hR]
      have := ar_t X Y (L q) (L (q + 1)) (R q)
      omega
  | cons z r ih =>
    intro u v q h
    obtain ⟨v', q'⟩ := z
    obtain ⟨h1, h2, h3, ⟨rho, jr, hs, hc⟩, h5⟩ := h
    obtain ⟨rho', jr', s1, s2, s3⟩ := hs.sameR hR
    have hl := hc.1.Rl
    obtain ⟨i1, i2⟩ := ih v v' q' h5
    rw [List.map_cons]
    by_cases c : 0 < (ar X Y v v' (L (p + 1)))
    · obtain ⟨n1, n2, n3⟩ := hc.keep hw c
      obtain ⟨r2, k1, k2⟩ := i1 c
      have ep : popL X Y (L (p + 1)) v (v' :: r.map Prod.fst) = v' :: popL X Y (L (p + 1)) v' (r.map Prod.fst) := by
        simp only [popL]
        cases popL X Y (L (p + 1)) v' (r.map Prod.fst) with
        | nil => exact if_pos c
        | cons x y => rfl
      refine ⟨fun _ => ⟨(v', q') :: r2, ⟨h1, by omega, h3, ⟨rho', jr', Sc.step hs n1 (by rw [hR]; exact hl.1) (Or.inl ⟨c, rfl, rfl⟩) s1, by rw [hR, s2]; exact n2⟩, k1⟩, ?_⟩, fun q => by omega⟩
      rw [List.map_cons, k2, ep]
      rfl
    · have e0 := i2 (by omega)
      have ep : popL X Y (L (p + 1)) v (v' :: r.map Prod.fst) = [] := by
        simp only [popL]
        rw [e0]
        exact if_neg c
      refine ⟨fun hu => ?_, fun _ => ep⟩
      obtain ⟨n1, n2⟩ := hc.pass hw (by omega) hu
      refine ⟨[(L (p + 1), p + 1)], ⟨h1, by omega, h3, ⟨rho', jr', Sc.step hs n1 (by rw [hR]; exact hl.1) (Or.inr ⟨by omega, rfl, rfl⟩) s1, by rw [hR, s2]; exact n2⟩, rfl, rfl, ?_⟩, by rw [ep]; rfl⟩
      rw [hR]
      have := n2.1.A
      have := ar_t X Y v (L (p + 1)) (R p)
      omega
