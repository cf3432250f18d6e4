/-! the mirror, and the tip that turns -/
theorem Sq.m {X Y : Nat → Int} {v l1 r1 lam jl rho jr lam' jl' rho' jr' p : Nat} (h : Sq X Y v l1 r1 lam jl rho jr lam' jl' rho' jr' p) : Sq (mX X) Y v r1 l1 rho jr lam jl rho' jr' lam' jl' p := by
  obtain ⟨h1, h2, h3, h4⟩ := h
  unfold Sq
  rw [ar_m, ar_m, ar_m, ar_m]
  refine ⟨by omega, by omega, ?_, ?_⟩
  · rcases h4 with ⟨a, b, c⟩ | ⟨a, b, c⟩
    · exact Or.inl ⟨by omega, b, c⟩
    · exact Or.inr ⟨by omega, b, c⟩
  · rcases h3 with ⟨a, b, c⟩ | ⟨a, b, c⟩
    · exact Or.inl ⟨by omega, b, c⟩
    · exact Or.inr ⟨by omega, b, c⟩
theorem Sn.m {X Y : Nat → Int} {L R : Nat → Nat} {v j0 : Nat} : ∀ e lam jl rho jr, Sn X Y L R v j0 e lam jl rho jr → Sn (mX X) Y R L v j0 e rho jr lam jl := by
  intro e
  induction e with
  | zero =>
    intro lam jl rho jr ⟨h1, h2, h3, h4⟩
    exact ⟨h3, h4, h1, h2⟩
  | succ e ih =>
    intro lam' jl' rho' jr' ⟨lam, jl, rho, jr, h, hq⟩
    exact ⟨rho, jr, lam, jl, ih _ _ _ _ h, hq.m⟩
theorem Sc.m {X Y : Nat → Int} {L R : Nat → Nat} {v j0 p lam jl rho jr : Nat} (h : Sc X Y L R v j0 p lam jl rho jr) : Sc (mX X) Y R L v j0 p rho jr lam jl := by
  obtain ⟨e, ep, h⟩ := h
  exact ⟨e, ep, Sn.m _ _ _ _ _ h⟩
theorem RC.m {X Y : Nat → Int} {L R : Nat → Nat} {p : Nat} : ∀ r u v q, RC X Y L R p u v q r → LC (mX X) Y R L p u v q r := by
  intro r
  induction r with
  | nil =>
    intro u v q ⟨h1, h2, h3⟩
    exact ⟨h1, h2, by rw [ar_m]; omega⟩
  | cons z r ih =>
    intro u v q h
    obtain ⟨v', q'⟩ := z
    obtain ⟨h1, h2, h3, ⟨lam, jl, hs, hc⟩, h5⟩ := h
    exact ⟨h1, h2, by rw [ar_m, ar_t]; omega, ⟨lam, jl, hs.m, hc.m⟩, ih v v' q' h5⟩
theorem LC.m {X Y : Nat → Int} {L R : Nat → Nat} {p : Nat} : ∀ r u v q, LC X Y L R p u v q r → RC (mX X) Y R L p u v q r := by
  intro r
  induction r with
  | nil =>
    intro u v q ⟨h1, h2, h3⟩
    exact ⟨h1, h2, by rw [ar_m]; omega⟩
  | cons z r ih =>
    intro u v q h
    obtain ⟨v', q'⟩ := z
    obtain ⟨h1, h2, h3, ⟨rho, jr, hs, hc⟩, h5⟩ := h
    exact ⟨h1, h2, by rw [ar_m, ar_t]; omega, ⟨rho, jr, hs.m, hc.m⟩, ih v v' q' h5⟩
theorem RC.m' {X Y : Nat → Int} {L R : Nat → Nat} {p : Nat} {r : List (Nat × Nat)} {u v q : Nat} (h : LC (mX X) Y R L p u v q r) : RC X Y L R p u v q r := by
  have := LC.m _ _ _ _ h
  rw [mXX] at this
  exact this
theorem LC.m' {X Y : Nat → Int} {L R : Nat → Nat} {p : Nat} {r : List (Nat × Nat)} {u v q : Nat} (h : RC (mX X) Y R L p u v q r) : LC X Y L R p u v q r := by
  have := RC.m _ _ _ _ h
  rw [mXX] at this
  exact this
theorem Sc.m' {X Y : Nat → Int} {L R : Nat → Nat} {v j0 p lam jl rho jr : Nat} (h : Sc (mX X) Y R L v j0 p rho jr lam jl) : Sc X Y L R v j0 p lam jl rho jr := by
  have := h.m
  rw [mXX] at this
  exact this
/-- a left end right of rho lies right of lam -/
theorem see.turnL {X Y : Nat → Int} {v L R lam rho w : Nat} (h : see X Y v L R lam rho) (hw : 0 < (ar X Y L R w)) (hn : (ar X Y v rho w) < 0) : (ar X Y v lam w) ≤ 0 := by
  refine Decidable.byContradiction fun k => ?_
  have hk : 0 < (ar X Y v lam w) := by omega
  by_cases c : 0 < (ar X Y v R L)
  · obtain ⟨g1, g2⟩ := h.G c
    obtain ⟨f, hf, h0, h1, h2, h3, h4, h5, h6, h7⟩ := h
    have gw : 0 < dg X Y v L R w := by rw [dg_w]; omega
    have := tr_le (dg_aff X Y v L R) (dg_v X Y v L R) g2 g1 gw h6 (Int.le_of_lt hk)
    omega
  · have hA := h.A
    have hz : (ar X Y v R L) = 0 := by omega
    obtain ⟨f, hf, h0, h1, h2, h3, h4, h5, h6, h7⟩ := h
    have z : (ar X Y v rho lam) = 0 := by
      refine Decidable.byContradiction fun q => ?_
      have a := tr_lt2 hf h0 h2 h4 h3 h5 (show 0 < (ar X Y v rho lam) by omega)
      have b := tr_lt1 hf h0 h2 h3 h1 a h7
      omega
    have e := tr3 hf h0 rho lam w
    rw [z, Int.mul_zero, Int.add_zero] at e
    have a1 := mpp h4 hk
    have a2 := mpn h3 hn
    omega
/-- the tip goes on along the right chain while w passes its ends: what it turns at, where it stands, what is left -/
def tnL (X Y : Nat → Int) (w : Nat) : Nat → List Nat → List Nat × Nat × List Nat
  | t, [] => ([], t, [])
  | t, v :: r => if (ar X Y t v w) < 0 then (v :: (tnL X Y w v r).1, (tnL X Y w v r).2) else ([], t, v :: r)
