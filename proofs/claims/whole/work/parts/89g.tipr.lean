/-! the same at a new right end -/
theorem oS_m {X Y : Nat → Int} {a b t : Nat} : oS (mX X) Y b a t ↔ oS X Y a b t := by
  unfold oS
  rw [ar_m]
  have e : dt (mX X) Y t b a = dt X Y t a b := by unfold dt mX; grind
  have s := ar_s X Y b a t
  rw [e]
  constructor
  · intro ⟨h1, h2⟩
    exact ⟨by omega, h2⟩
  · intro ⟨h1, h2⟩
    exact ⟨by omega, h2⟩
def sZ (ZS : Nat → Nat → Nat → Nat → Nat → Nat → List Nat → Prop) : Nat → Nat → Nat → Nat → Nat → Nat → List Nat → Prop := fun t p lam jl rho jr => ZS t p rho jr lam jl
theorem Zc.m {X Y : Nat → Int} {L R : Nat → Nat} {l : Nat} {ZN : Nat → Nat → List Nat → Prop} {ZS : Nat → Nat → Nat → Nat → Nat → Nat → List Nat → Prop} (h : Zc X Y L R l ZN ZS) : Zc (mX X) Y R L l ZN (sZ ZS) := by
  obtain ⟨h1, h2, h3, h4, h5⟩ := h
  refine ⟨fun t p ts a b c => h1 t p ts a (fun q k => b q (oS_m.mpr k)) c, fun t p ts a b c => h2 t p ts a (oS_m.mp b) c, fun t p ts lam jl rho jr lam' jl' rho' jr' a b c => h3 t p ts rho jr lam jl rho' jr' lam' jl' a ?_ c, fun t p ts lam jl rho jr a b c d e f => h5 t p ts rho jr lam jl a ?_ ?_ d e f, fun t p ts lam jl rho jr a b c d e f => h4 t p ts rho jr lam jl a ?_ ?_ d e f⟩
  · have := b.m
    rw [mXX] at this
    exact this
  · rw [ar_m] at c; omega
  · rw [ar_m] at b; omega
  · rw [ar_m] at c; omega
  · rw [ar_m] at b; omega
theorem Tip.m {X Y : Nat → Int} {L R : Nat → Nat} {p t : Nat} {cl cr : List Nat} {Zf : List Nat → Prop} {ZN : Nat → Nat → List Nat → Prop} {ZS : Nat → Nat → Nat → Nat → Nat → Nat → List Nat → Prop} (h : Tip X Y L R ZN ZS p t cl cr Zf) : Tip (mX X) Y R L ZN (sZ ZS) p t cr cl Zf := by
  rcases h with ⟨lam, jl, rho, jr, l', r', e1, e2, hs, hi1, hi2, hL, hRc, ez⟩ | ⟨ht, e1, e2, ez⟩ | ⟨ht, e1, e2, ez⟩ | ⟨ht, ht2, e1, e2, ez⟩
  · refine Or.inl ⟨rho, jr, lam, jl, r', l', e2, e1, hs.m, ?_, ?_, RC.m _ _ _ _ hRc, LC.m _ _ _ _ hL, ez⟩
    · rw [ar_m]
      rcases hi2 with q | q
      · exact Or.inl (by omega)
      · exact Or.inr q
    · rw [ar_m]
      rcases hi1 with q | q
      · exact Or.inl (by omega)
      · exact Or.inr q
  · exact Or.inr (Or.inr (Or.inl ⟨⟨by show -X t = -X (R p); rw [ht.1], ht.2⟩, e2, e1, ez⟩))
  · exact Or.inr (Or.inl ⟨⟨by show -X t = -X (L p); rw [ht.1], ht.2⟩, e2, e1, ez⟩)
  · refine Or.inr (Or.inr (Or.inr ⟨fun w hw => ?_, fun w hw => ?_, e2, e1, ez⟩))
    · rw [ar_m] at hw
      have s := ar_s X Y (R p) (L p) w
      have := ht w (by omega)
      rw [ar_m, ar_m]
      omega
    · rw [ar_m] at hw
      have s := ar_s X Y (R p) (L p) w
      have := ht2 w (by omega)
      rw [ar_m, ar_m]
      omega
theorem Tip.m' {X Y : Nat → Int} {L R : Nat → Nat} {p t : Nat} {cl cr : List Nat} {Zf : List Nat → Prop} {ZN : Nat → Nat → List Nat → Prop} {ZS : Nat → Nat → Nat → Nat → Nat → Nat → List Nat → Prop} (h : Tip (mX X) Y R L ZN (sZ ZS) p t cr cl Zf) : Tip X Y L R ZN ZS p t cl cr Zf := by
  have := h.m
  rw [mXX] at this
  exact this
theorem Tip.stepR {X Y : Nat → Int} {L R : Nat → Nat} {l p : Nat} {ZN : Nat → Nat → List Nat → Prop} {ZS : Nat → Nat → Nat → Nat → Nat → Nat → List Nat → Prop} (hZ : Zc X Y L R l ZN ZS) (hl : p + 1 < l) (hL : L (p + 1) = L p) (hw : 0 < (ar X Y (L p) (R p) (R (p + 1)))) {t : Nat} {cl cr : List Nat} {Zf : List Nat → Prop} (h : Tip X Y L R ZN ZS p t cl cr Zf) :
    ∃ es t' cl' cr' Zf', adL (mX X) Y (R (p + 1)) t cr cl = (es, t', cr', cl') ∧ Tip X Y L R ZN ZS (p + 1) t' cl' cr' Zf' ∧ ∀ ts, Zf' (ts ++ es) → Zf ts := by
  obtain ⟨es, t', cr', cl', Zf', h1, h2, h3⟩ := Tip.stepL (X := mX X) (L := R) (R := L) hZ.m hl hL (by rw [ar_m, ar_s X Y (R p) (L p)]; omega) h.m
  exact ⟨es, t', cl', cr', Zf', h1, h2.m', h3⟩
