/-! the class's chains as lists -/
/-- the last of a chain after t -/
def lz : Nat → List Nat → Nat
  | t, [] => t
  | _, v :: r => lz v r
theorem lz_snoc (t x : Nat) (c : List Nat) : lz t (c ++ [x]) = x := by
  induction c generalizing t with
  | nil => rfl
  | cons v r ih => exact ih v
theorem popL_snoc (X Y : Nat → Int) (w x : Nat) : ∀ c t, popL X Y w t (c ++ [x]) = if 0 < (ar X Y (lz t c) x w) then c ++ [x] else popL X Y w t c := by
  intro c
  induction c with
  | nil => intro t; rfl
  | cons v r ih =>
    intro t
    show popL X Y w t (v :: (r ++ [x])) = if 0 < (ar X Y (lz v r) x w) then v :: (r ++ [x]) else popL X Y w t (v :: r)
    simp only [popL]
    rw [ih v]
    by_cases c : 0 < (ar X Y (lz v r) x w)
    · rw [if_pos c, if_pos c]
      cases r with
      | nil => rfl
      | cons y z => rfl
    · rw [if_neg c, if_neg c]
/-- the funnel: tip, chains, turns; hl and hr are the chains' beginnings -/
def FU (s : mS) (t hl hr : Nat) (cl cr ts : List Nat) : Prop := s.2.2.1 6 = nI t ∧ s.2.2.1 10 = nI hl ∧ s.2.2.1 11 = nI (hl + cl.length) ∧ s.2.2.1 12 = nI hr ∧ s.2.2.1 13 = nI (hr + cr.length) ∧ s.2.2.1 9 = nI ts.length ∧ (∀ i x, cl[i]? = some x → s.1 38 (hl + i) = nI x) ∧ (∀ i x, cr[i]? = some x → s.1 40 (hr + i) = nI x) ∧ (∀ i x, ts[i]? = some x → s.1 41 i = nI x)
