/-! the class's run, door by door: what holds, and one step of it -/
theorem adL_le (X Y : Nat → Int) (w t : Nat) (cl cr : List Nat) : (adL X Y w t cl cr).2.2.1.length ≤ cl.length + 1 ∧ (adL X Y w t cl cr).1 ++ (adL X Y w t cl cr).2.2.2 = cr ∧ (adL X Y w t cl cr).2.1 = lz t (adL X Y w t cl cr).1 ∧ ∀ y, y ∈ (adL X Y w t cl cr).2.2.1 → y ∈ cl ∨ y = w := by
  have h1 := popL_le X Y w cl t
  have h2 := tnL_le X Y w cr t
  unfold adL
  cases e : popL X Y w t cl with
  | nil =>
    refine ⟨by show 1 ≤ _; omega, h2.1, h2.2, fun y hy => Or.inr ?_⟩
    have hy : y ∈ [w] := hy
    simpa using hy
  | cons x z =>
    rw [e] at h1
    refine ⟨?_, rfl, rfl, fun y hy => ?_⟩
    · show (x :: z ++ [w]).length ≤ _
      rw [List.length_append]
      have := h1.1
      show _ + 1 ≤ _
      omega
    · have hy : y ∈ (x :: z) ++ [w] := hy
      rcases List.mem_append.mp hy with q | q
      · exact Or.inl (h1.2 y q)
      · exact Or.inr (by simpa using q)
theorem lz_app (a b : List Nat) : ∀ t, lz t (a ++ b) = lz (lz t a) b := by
  induction a with
  | nil => intro t; rfl
  | cons v r ih => intro t; exact ih v
theorem last_ex : ∀ (ts : List Nat) (t0 : Nat), ∃ m, t0 :: ts = m ++ [lz t0 ts] := by
  intro ts
  induction ts with
  | nil => intro t0; exact ⟨[], rfl⟩
  | cons v r ih =>
    intro t0
    obtain ⟨m, e⟩ := ih v
    exact ⟨t0 :: m, by show t0 :: (v :: r) = t0 :: (m ++ [lz v r]); rw [e]⟩
theorem suf2 {u v : Nat} {l : List Nat} (hl : 2 ≤ l.length) : ∀ m m2 : List Nat, m ++ l = m2 ++ [u, v] → ∃ m3, l = m3 ++ [u, v] := by
  intro m
  induction m with
  | nil => intro m2 e; exact ⟨m2, e⟩
  | cons a m ih =>
    intro m2 e
    cases m2 with
    | nil =>
      have := congrArg List.length e
      simp at this
      omega
    | cons b m2 =>
      refine ih m2 ?_
      have e : a :: (m ++ l) = b :: (m2 ++ [u, v]) := e
      exact (List.cons.inj e).2
/-- what holds of tip, chains and turns after door p -/
def AS (X Y : Nat → Int) (n : Nat) (L R : Nat → Nat) (ZN : (List Nat → Prop) → Nat → Nat → List Nat → Prop) (ZS : (List Nat → Prop) → Nat → Nat → Nat → Nat → Nat → Nat → List Nat → Prop) (Z0 : (List Nat → Prop) → Prop) (t0 p t hl hr : Nat) (cl cr ts : List Nat) : Prop :=
  hl + cl.length + hr + cr.length ≤ p + 2 ∧ ts.length = hl + hr ∧ gdp n t ∧ (∀ y, y ∈ cl → y < n) ∧ (∀ y, y ∈ cr → y < n) ∧ (∀ y, y ∈ ts → y < n) ∧
  (∀ G, ∃ Zf, Tip X Y L R (ZN G) (ZS G) p t cl cr Zf ∧ (Zf ts → Z0 G)) ∧ lz t0 ts = t ∧ PN X Y (t0 :: ts) ∧ ∀ m u, t0 :: ts = m ++ [u, t] → Kp X Y L R p u t cl cr
/-- the path grows -/
theorem path_step {X Y : Nat → Int} {t0 t t' : Nat} {ts es : List Nat} {K K' : Nat → Nat → Prop} (h0 : lz t0 ts = t) (hP : PN X Y (t0 :: ts)) (hK : ∀ m u, t0 :: ts = m ++ [u, t] → K u t) (et : t' = lz t es) (s1 : ∀ u, K u t → (es = [] → K' u t') ∧ ∀ e r, es = e :: r → NS X Y u t e) (s2 : es ≠ [] → PN X Y (t :: es) ∧ ∀ m u', t :: es = m ++ [u', t'] → K' u' t') : PN X Y (t0 :: (ts ++ es)) ∧ ∀ m u, t0 :: (ts ++ es) = m ++ [u, t'] → K' u t' := by
  obtain ⟨m, em⟩ := last_ex ts t0
  rw [h0] at em
  have ep : t0 :: (ts ++ es) = m ++ (t :: es) := by
    show (t0 :: ts) ++ es = _
    rw [em]
    simp
  rw [ep]
  rw [em] at hP
  refine ⟨PN_app ?_ m hP fun m' u e r k1 k2 => ?_, fun m2 u e => ?_⟩
  · by_cases c : es = []
    · rw [c]; exact trivial
    · exact (s2 c).1
  · refine (s1 u (hK m' u ?_)).2 e r k2
    rw [em, k1]
    simp
  · by_cases c : es = []
    · have e' : t' = t := by rw [et, c]; rfl
      refine (s1 u (hK m2 u ?_)).1 c
      rw [em, ← e', ← e, c, e']
    · obtain ⟨m3, e3⟩ := suf2 (l := t :: es) (by cases es with
        | nil => exact absurd rfl c
        | cons a b => simp) m m2 e
      exact (s2 c).2 m3 u e3
theorem AS.stepL {X Y : Nat → Int} {n d p t0 t hl hr : Nat} {L R : Nat → Nat} {ZN : (List Nat → Prop) → Nat → Nat → List Nat → Prop} {ZS : (List Nat → Prop) → Nat → Nat → Nat → Nat → Nat → Nat → List Nat → Prop} {Z0 : (List Nat → Prop) → Prop} {cl cr ts : List Nat} (hZ : ∀ G, Zc X Y L R d (ZN G) (ZS G)) (hd : p + 1 < d) (hR : R (p + 1) = R p) (hw : 0 < (ar X Y (L p) (R p) (L (p + 1)))) (hn : L (p + 1) < n) (hfan : ∀ t u q, q + 1 ≤ p → (∀ i, q ≤ i → i ≤ p → L i = t) → (ar X Y u t (R q)) ≤ 0 → 0 < (ar X Y u t (R (q + 1))) → FN X Y u t (L (p + 1)) (R p)) (h : AS X Y n L R ZN ZS Z0 t0 p t hl hr cl cr ts) : AS X Y n L R ZN ZS Z0 t0 (p + 1) (adL X Y (L (p + 1)) t cl cr).2.1 hl (hr + (adL X Y (L (p + 1)) t cl cr).1.length) (adL X Y (L (p + 1)) t cl cr).2.2.1 (adL X Y (L (p + 1)) t cl cr).2.2.2 (ts ++ (adL X Y (L (p + 1)) t cl cr).1) := by
  obtain ⟨h1, h2, h3, h4, h5, h6, h7, h8, h9, h10⟩ := h
  obtain ⟨a1, a2, a3, a4⟩ := adL_le X Y (L (p + 1)) t cl cr
  have a2' := congrArg List.length a2
  rw [List.length_append] at a2'
  have mem1 : ∀ y, y ∈ (adL X Y (L (p + 1)) t cl cr).1 → y < n := fun y hy => h5 y (by rw [← a2]; exact List.mem_append.mpr (Or.inl hy))
  have K := fun G => (h7 G)
  obtain ⟨Z1, T1, _⟩ := h7 (fun _ => True)
  obtain ⟨k1, k2⟩ := Tip.stepK hR hw (hfan t) T1
  obtain ⟨p1, p2⟩ := path_step h8 h9 (K := fun u t => Kp X Y L R p u t cl cr) (K' := fun u t' => Kp X Y L R (p + 1) u t' (adL X Y (L (p + 1)) t cl cr).2.2.1 (adL X Y (L (p + 1)) t cl cr).2.2.2) h10 a3 k1 k2
  refine ⟨by omega, by rw [List.length_append]; omega, ?_, fun y hy => ?_, fun y hy => h5 y (by rw [← a2]; exact List.mem_append.mpr (Or.inr hy)), fun y hy => ?_, fun G => ?_, by rw [lz_app, h8, a3], p1, p2⟩
  · rw [a3]
    rcases lz_mem (t := t) (c := (adL X Y (L (p + 1)) t cl cr).1) with q | q
    · rw [q]; exact h3
    · exact Or.inl (mem1 _ q)
  · rcases a4 y hy with q | q
    · exact h4 y q
    · rw [q]; exact hn
  · rcases List.mem_append.mp hy with q | q
    · exact h6 y q
    · exact mem1 y q
  · obtain ⟨Zf, T2, z⟩ := h7 G
    obtain ⟨es, t', cl', cr', Zf', e, T3, z2⟩ := Tip.stepL (hZ G) hd hR hw T2
    rw [e]
    exact ⟨Zf', T3, fun q => z (z2 ts q)⟩
theorem AS.stepR {X Y : Nat → Int} {n d p t0 t hl hr : Nat} {L R : Nat → Nat} {ZN : (List Nat → Prop) → Nat → Nat → List Nat → Prop} {ZS : (List Nat → Prop) → Nat → Nat → Nat → Nat → Nat → Nat → List Nat → Prop} {Z0 : (List Nat → Prop) → Prop} {cl cr ts : List Nat} (hZ : ∀ G, Zc X Y L R d (ZN G) (ZS G)) (hd : p + 1 < d) (hL : L (p + 1) = L p) (hw : 0 < (ar X Y (L p) (R p) (R (p + 1)))) (hn : R (p + 1) < n) (hfan : ∀ t u q, q + 1 ≤ p → (∀ i, q ≤ i → i ≤ p → R i = t) → 0 ≤ (ar X Y u t (L q)) → (ar X Y u t (L (q + 1))) < 0 → FN X Y u t (L p) (R (p + 1))) (h : AS X Y n L R ZN ZS Z0 t0 p t hl hr cl cr ts) : AS X Y n L R ZN ZS Z0 t0 (p + 1) (adL (mX X) Y (R (p + 1)) t cr cl).2.1 (hl + (adL (mX X) Y (R (p + 1)) t cr cl).1.length) hr (adL (mX X) Y (R (p + 1)) t cr cl).2.2.2 (adL (mX X) Y (R (p + 1)) t cr cl).2.2.1 (ts ++ (adL (mX X) Y (R (p + 1)) t cr cl).1) := by
  obtain ⟨h1, h2, h3, h4, h5, h6, h7, h8, h9, h10⟩ := h
  obtain ⟨a1, a2, a3, a4⟩ := adL_le (mX X) Y (R (p + 1)) t cr cl
  have a2' := congrArg List.length a2
  rw [List.length_append] at a2'
  have mem1 : ∀ y, y ∈ (adL (mX X) Y (R (p + 1)) t cr cl).1 → y < n := fun y hy => h4 y (by rw [← a2]; exact List.mem_append.mpr (Or.inl hy))
  obtain ⟨Z1, T1, _⟩ := h7 (fun _ => True)
  obtain ⟨k1, k2⟩ := Tip.stepKR hL hw (hfan t) T1
  obtain ⟨p1, p2⟩ := path_step h8 h9 (K := fun u t => Kp X Y L R p u t cl cr) (K' := fun u t' => Kp X Y L R (p + 1) u t' (adL (mX X) Y (R (p + 1)) t cr cl).2.2.2 (adL (mX X) Y (R (p + 1)) t cr cl).2.2.1) h10 a3 k1 k2
  refine ⟨by omega, by rw [List.length_append]; omega, ?_, fun y hy => h4 y (by rw [← a2]; exact List.mem_append.mpr (Or.inr hy)), fun y hy => ?_, fun y hy => ?_, fun G => ?_, by rw [lz_app, h8, a3], p1, p2⟩
  · rw [a3]
    rcases lz_mem (t := t) (c := (adL (mX X) Y (R (p + 1)) t cr cl).1) with q | q
    · rw [q]; exact h3
    · exact Or.inl (mem1 _ q)
  · rcases a4 y hy with q | q
    · exact h5 y q
    · rw [q]; exact hn
  · rcases List.mem_append.mp hy with q | q
    · exact h6 y q
    · exact mem1 y q
  · obtain ⟨Zf, T2, z⟩ := h7 G
    obtain ⟨es, t', cl', cr', Zf', e, T3, z2⟩ := Tip.stepR (hZ G) hd hL hw T2
    rw [e]
    exact ⟨Zf', T3, fun q => z (z2 ts q)⟩
