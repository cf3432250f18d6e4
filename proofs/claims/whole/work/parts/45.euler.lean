/-! M3: how many flips; how many triangles and edges -/
theorem nd_len {α : Type} : ∀ l1 l2 : List α, l1.Nodup → (∀ x, x ∈ l1 → x ∈ l2) → l1.length ≤ l2.length := by
  intro l1
  induction l1 with
  | nil => intro l2 _ _; exact Nat.zero_le _
  | cons x l1 ih =>
    intro l2 hn hs
    obtain ⟨s, t, rfl⟩ := List.append_of_mem (hs x List.mem_cons_self)
    have hn' := List.nodup_cons.mp hn
    have := ih (s ++ t) hn'.2 (fun y hy => by
      have := hs y (List.mem_cons_of_mem _ hy)
      rw [List.mem_append, List.mem_cons] at this
      rw [List.mem_append]
      rcases this with h | h | h
      · exact Or.inl h
      · rw [h] at hy; exact absurd hy hn'.1
      · exact Or.inr h)
    simp only [List.length_append, List.length_cons] at *
    omega
theorem cnt_mem {α : Type} {l : List α} {P : α → Prop} {x : α} : x ∈ l.filter (fun x => @decide (P x) (Classical.propDecidable _)) ↔ x ∈ l ∧ P x := by
  rw [List.mem_filter]
  exact ⟨fun h => ⟨h.1, @of_decide_eq_true (P x) (Classical.propDecidable _) h.2⟩, fun h => ⟨h.1, @decide_eq_true (P x) (Classical.propDecidable _) h.2⟩⟩
theorem cnt_inj {α β : Type} {l : List α} {l' : List β} {P : α → Prop} {Q : β → Prop} (f : α → β) (hn : l.Nodup) (h : ∀ x, x ∈ l → P x → f x ∈ l' ∧ Q (f x)) (hi : ∀ x y, x ∈ l → y ∈ l → P x → P y → f x = f y → x = y) : cntP l P ≤ cntP l' Q := by
  unfold cntP
  rw [← List.length_map (f := f)]
  refine nd_len _ _ ?_ ?_
  · rw [List.Nodup, List.pairwise_map]
    have hn2 := List.Pairwise.filter (fun x => @decide (P x) (Classical.propDecidable _)) hn
    refine List.Pairwise.imp_of_mem ?_ hn2
    intro x y hx hy hne e
    have h1 := cnt_mem.mp hx
    have h2 := cnt_mem.mp hy
    exact hne (hi x y h1.1 h2.1 h1.2 h2.2 e)
  · intro y hy
    obtain ⟨x, hx, rfl⟩ := List.mem_map.mp hy
    have h1 := cnt_mem.mp hx
    exact cnt_mem.mpr (h x h1.1 h1.2)
def prs (n : Nat) : List (Nat × Nat) := (List.range n).flatMap (fun a => (List.range n).map (fun b => (a, b)))
theorem prs_mem {n : Nat} {z : Nat × Nat} : z ∈ prs n ↔ z.1 < n ∧ z.2 < n := by
  unfold prs
  rw [List.mem_flatMap]
  constructor
  · intro ⟨a, ha, hb⟩
    obtain ⟨b, hb2, rfl⟩ := List.mem_map.mp hb
    exact ⟨List.mem_range.mp ha, List.mem_range.mp hb2⟩
  · intro ⟨h1, h2⟩
    exact ⟨z.1, List.mem_range.mpr h1, List.mem_map.mpr ⟨z.2, List.mem_range.mpr h2, rfl⟩⟩
theorem prs_nodup (n : Nat) : (prs n).Nodup := by
  unfold prs
  rw [List.Nodup, List.pairwise_flatMap]
  constructor
  · intro a _
    rw [List.pairwise_map]
    exact List.Pairwise.imp (fun h e => h (by cases e; rfl)) List.nodup_range
  · refine List.Pairwise.imp ?_ List.nodup_range
    intro a b hab x hx y hy e
    obtain ⟨u, _, rfl⟩ := List.mem_map.mp hx
    obtain ⟨v, _, rfl⟩ := List.mem_map.mp hy
    cases e
    exact hab rfl
theorem prs_len (n : Nat) : (prs n).length = n * n := by
  unfold prs
  rw [List.length_flatMap]
  simp only [List.length_map, List.length_range]
  have : ∀ l : List Nat, (l.map (fun _ => n)).sum = l.length * n := by
    intro l
    induction l with
    | nil => simp
    | cons x l ih => simp only [List.map_cons, List.sum_cons, List.length_cons, ih, Nat.add_mul]; omega
  rw [this, List.length_range]
theorem cnt_split {α : Type} {P Q : α → Prop} : ∀ l : List α, cntP l P = cntP l (fun x => P x ∧ Q x) + cntP l (fun x => P x ∧ ¬ Q x) := by
  intro l
  induction l with
  | nil => rfl
  | cons x l ih =>
    by_cases p : P x
    · rw [(cnt_cons x l P).1 p]
      by_cases q : Q x
      · rw [(cnt_cons x l (fun x => P x ∧ Q x)).1 ⟨p, q⟩, (cnt_cons x l (fun x => P x ∧ ¬ Q x)).2 (fun h => h.2 q)]; omega
      · rw [(cnt_cons x l (fun x => P x ∧ Q x)).2 (fun h => q h.2), (cnt_cons x l (fun x => P x ∧ ¬ Q x)).1 ⟨p, q⟩]; omega
    · rw [(cnt_cons x l P).2 p, (cnt_cons x l (fun x => P x ∧ Q x)).2 (fun h => p h.1), (cnt_cons x l (fun x => P x ∧ ¬ Q x)).2 (fun h => p h.1)]; omega
theorem cnt_congr {α : Type} {P Q : α → Prop} {l : List α} (h : ∀ x, x ∈ l → (P x ↔ Q x)) : cntP l P = cntP l Q := Nat.le_antisymm (cnt_le l fun x hx => (h x hx).1) (cnt_le l fun x hx => (h x hx).2)
/-! the flips -/
noncomputable def lwn (X Y H : Nat → Int) (n : Nat) (E : Nat → Nat → Prop) : Nat := cntP (prs n) (fun z => clr X Y n z.1 z.2 ∧ ¬ Dd X Y H E z.1 z.2)
theorem lwn_le (X Y H : Nat → Int) (n : Nat) (E : Nat → Nat → Prop) : lwn X Y H n E ≤ n * n := by
  have := cnt_len (prs n) (fun z => clr X Y n z.1 z.2 ∧ ¬ Dd X Y H E z.1 z.2)
  rw [prs_len] at this
  exact this
theorem lwn_flip {X Y H : Nat → Int} {n p q r t : Nat} {E : Nat → Nat → Prop} (hM : Mx X Y n E) (hF : FL X Y n E p q r t) (hG : 0 < GH X Y H p q r t) : lwn X Y H n (fl E p q r t) < lwn X Y H n E := by
  have hpq := hF.1.1
  obtain ⟨hp, hq, _, _⟩ := hM.1 p q hpq
  refine cnt_lt _ (fun z hz ⟨h1, h2⟩ => ⟨h1, fun h => h2 ?_⟩) ⟨(p, q), prs_mem.mpr ⟨hp, hq⟩, ⟨hM.2.1 p q hpq, Dd_not hM hpq⟩, fun h => h.2 (Dd_new hF hG)⟩
  have hz := prs_mem.mp hz
  exact Dd_flip hM hF hG hz.1 hz.2 h1 h
/-- what a flip does to edges that bend down -/
theorem bend_flip {X Y H : Nat → Int} {n p q r t x y : Nat} {E : Nat → Nat → Prop} (hD : Dst X Y n) (hM : Mx X Y n E) (hF : FL X Y n E p q r t) (hG : 0 < GH X Y H p q r t)
    (hg : ∀ z w, Tr X Y n E x y z → Tr X Y n E y x w → GH X Y H x y z w < 0) (h1 : ¬ ((x = p ∧ y = t) ∨ (x = t ∧ y = p))) (h2 : ¬ ((x = t ∧ y = q) ∨ (x = q ∧ y = t))) (h3 : ¬ ((x = q ∧ y = r) ∨ (x = r ∧ y = q))) (h4 : ¬ ((x = r ∧ y = p) ∨ (x = p ∧ y = r))) :
    ∀ z w, Tr X Y n (fl E p q r t) x y z → Tr X Y n (fl E p q r t) y x w → GH X Y H x y z w < 0 := by
  intro z w k1 k2
  have hM2 := fl_Mx hD hM hF
  by_cases e1 : x = p ∧ y = q
  · rw [e1.1, e1.2] at k1; exact absurd k1 (fl_no hF).1
  by_cases e2 : x = q ∧ y = p
  · rw [e2.1, e2.2] at k1; exact absurd k1 (fl_no hF).2
  by_cases e3 : x = r ∧ y = t
  · rw [e3.1, e3.2] at k1 k2 ⊢
    have z1 := Tr.uniq hM2 k1 (fl_T2 hF).rot.rot
    have z2 := Tr.uniq hM2 k2 (fl_T1 hF).rot
    rw [z1, z2, GH_t, GH_p]
    omega
  by_cases e4 : x = t ∧ y = r
  · rw [e4.1, e4.2] at k1 k2 ⊢
    have z1 := Tr.uniq hM2 k1 (fl_T1 hF).rot
    have z2 := Tr.uniq hM2 k2 (fl_T2 hF).rot.rot
    rw [z1, z2, GH_s, GH_p]
    omega
  exact hg z w ((fl_stay hD hM hF e1 e2 (fun e => h1 (Or.inl e)) e4 (fun e => h4 (Or.inl e)) (fun e => h2 (Or.inl e)) (fun e => h3 (Or.inl e)) e3).mp k1)
    ((fl_stay hD hM hF (fun e => e2 ⟨e.2, e.1⟩) (fun e => e1 ⟨e.2, e.1⟩) (fun e => h1 (Or.inr ⟨e.2, e.1⟩)) (fun e => e3 ⟨e.2, e.1⟩) (fun e => h4 (Or.inr ⟨e.2, e.1⟩)) (fun e => h2 (Or.inr ⟨e.2, e.1⟩)) (fun e => h3 (Or.inr ⟨e.2, e.1⟩)) (fun e => e4 ⟨e.2, e.1⟩)).mp k2)
/-! Euler -/
def hasT (X Y : Nat → Int) (n : Nat) (E : Nat → Nat → Prop) (a b : Nat) : Prop := ∃ c, Tr X Y n E a b c
/-- a triangle told from its corner that is least by k -/
def lst (X Y : Nat → Int) (n : Nat) (E : Nat → Nat → Prop) (k : Nat → Int) (a b : Nat) : Prop := ∃ c, Tr X Y n E a b c ∧ k a < k b ∧ k a < k c
theorem Tr.ne {X Y : Nat → Int} {n a b c : Nat} {E : Nat → Nat → Prop} (h : Tr X Y n E a b c) : a ≠ b ∧ b ≠ c ∧ c ≠ a := by
  have A := h.2.2.2.1
  refine ⟨?_, ?_, ?_⟩ <;> intro e
  · rw [e, ar_xx] at A; omega
  · rw [e, ar_yxx] at A; omega
  · rw [e, ar_xyx] at A; omega
theorem Tr.lt {X Y : Nat → Int} {n a b c : Nat} {E : Nat → Nat → Prop} (hM : Mx X Y n E) (h : Tr X Y n E a b c) : a < n ∧ b < n ∧ c < n := ⟨(hM.1 a b h.1).1, (hM.1 a b h.1).2.1, (hM.1 b c h.2.1).2.1⟩
noncomputable def thd (X Y : Nat → Int) (n : Nat) (E : Nat → Nat → Prop) (a b : Nat) : Nat := @dite Nat (hasT X Y n E a b) (Classical.propDecidable _) (fun h => Classical.choose h) (fun _ => n)
theorem thd_eq {X Y : Nat → Int} {n a b c : Nat} {E : Nat → Nat → Prop} (hM : Mx X Y n E) (h : Tr X Y n E a b c) : thd X Y n E a b = c := by
  unfold thd
  have hh : hasT X Y n E a b := ⟨c, h⟩
  rw [dif_pos hh]
  exact Tr.uniq hM (Classical.choose_spec hh) h
theorem tri3 {X Y : Nat → Int} {n : Nat} {E : Nat → Nat → Prop} (hM : Mx X Y n E) {k : Nat → Int} (hk : ∀ i j, i < n → j < n → k i = k j → i = j) :
    cntP (prs n) (fun z => hasT X Y n E z.1 z.2) = 3 * cntP (prs n) (fun z => lst X Y n E k z.1 z.2) := by
  let A : Nat × Nat → Prop := fun z => lst X Y n E k z.1 z.2
  let B : Nat × Nat → Prop := fun z => ∃ c, Tr X Y n E z.1 z.2 c ∧ k z.2 < k z.1 ∧ k z.2 < k c
  let C : Nat × Nat → Prop := fun z => ∃ c, Tr X Y n E z.1 z.2 c ∧ k c < k z.1 ∧ k c < k z.2
  have rot : ∀ (P Q : Nat × Nat → Prop), (∀ z, P z → hasT X Y n E z.1 z.2) → (∀ a b c, Tr X Y n E a b c → P (a, b) → Q (b, c)) → cntP (prs n) P ≤ cntP (prs n) Q := by
    intro P Q hP hQ
    refine cnt_inj (fun z => (z.2, thd X Y n E z.1 z.2)) (prs_nodup n) ?_ ?_
    · intro z hz pz
      obtain ⟨c, hc⟩ := hP z pz
      have e := thd_eq hM hc
      have l := hc.lt hM
      refine ⟨prs_mem.mpr ⟨l.2.1, by show thd X Y n E z.1 z.2 < n; rw [e]; exact l.2.2⟩, ?_⟩
      show Q (z.2, thd X Y n E z.1 z.2)
      rw [e]
      exact hQ z.1 z.2 c hc pz
    · intro z w hz hw pz pw he
      obtain ⟨c, hc⟩ := hP z pz
      obtain ⟨d, hd⟩ := hP w pw
      have e1 := thd_eq hM hc
      have e2 := thd_eq hM hd
      have he1 : z.2 = w.2 := congrArg Prod.fst he
      have he2 : thd X Y n E z.1 z.2 = thd X Y n E w.1 w.2 := congrArg Prod.snd he
      rw [e1, e2] at he2
      have h1 := hc.rot
      have h2 := hd.rot
      rw [he1, he2] at h1
      have := Tr.uniq hM h1 h2
      exact Prod.ext this he1
  have hA : ∀ z, A z → hasT X Y n E z.1 z.2 := fun z ⟨c, h, _⟩ => ⟨c, h⟩
  have hB : ∀ z, B z → hasT X Y n E z.1 z.2 := fun z ⟨c, h, _⟩ => ⟨c, h⟩
  have hC : ∀ z, C z → hasT X Y n E z.1 z.2 := fun z ⟨c, h, _⟩ => ⟨c, h⟩
  have ac : cntP (prs n) A ≤ cntP (prs n) C := rot A C hA fun a b c h ⟨d, hd, k1, k2⟩ => by
    have e := Tr.uniq hM h hd
    rw [← e] at k2
    exact ⟨a, h.rot, k1, k2⟩
  have cb : cntP (prs n) C ≤ cntP (prs n) B := rot C B hC fun a b c h ⟨d, hd, k1, k2⟩ => by
    have e := Tr.uniq hM h hd
    rw [← e] at k1 k2
    exact ⟨a, h.rot, k2, k1⟩
  have ba : cntP (prs n) B ≤ cntP (prs n) A := rot B A hB fun a b c h ⟨d, hd, k1, k2⟩ => by
    have e := Tr.uniq hM h hd
    rw [← e] at k2
    exact ⟨a, h.rot, k2, k1⟩
  have s1 := cnt_split (P := fun z : Nat × Nat => hasT X Y n E z.1 z.2) (Q := A) (prs n)
  have s2 := cnt_split (P := fun z : Nat × Nat => hasT X Y n E z.1 z.2 ∧ ¬ A z) (Q := B) (prs n)
  have e1 : cntP (prs n) (fun z : Nat × Nat => hasT X Y n E z.1 z.2 ∧ A z) = cntP (prs n) A := cnt_congr fun z _ => ⟨fun h => h.2, fun h => ⟨hA z h, h⟩⟩
  have e2 : cntP (prs n) (fun z : Nat × Nat => (hasT X Y n E z.1 z.2 ∧ ¬ A z) ∧ B z) = cntP (prs n) B := cnt_congr fun z _ => ⟨fun h => h.2, fun h => ⟨⟨hB z h, fun ⟨c, hc, k1, k2⟩ => by
    obtain ⟨d, hd, k3, k4⟩ := h
    omega⟩, h⟩⟩
  have e3 : cntP (prs n) (fun z : Nat × Nat => (hasT X Y n E z.1 z.2 ∧ ¬ A z) ∧ ¬ B z) = cntP (prs n) C := cnt_congr fun z _ => ⟨fun ⟨⟨⟨c, hc⟩, na⟩, nb⟩ => by
      have l := hc.lt hM
      have ne := hc.ne
      have q1 : k z.1 ≠ k z.2 := fun e => ne.1 (hk _ _ l.1 l.2.1 e)
      have q2 : k z.2 ≠ k c := fun e => ne.2.1 (hk _ _ l.2.1 l.2.2 e)
      have q3 : k c ≠ k z.1 := fun e => ne.2.2 (hk _ _ l.2.2 l.1 e)
      have na' : ¬ (k z.1 < k z.2 ∧ k z.1 < k c) := fun h => na ⟨c, hc, h.1, h.2⟩
      have nb' : ¬ (k z.2 < k z.1 ∧ k z.2 < k c) := fun h => nb ⟨c, hc, h.1, h.2⟩
      exact ⟨c, hc, by omega, by omega⟩,
    fun ⟨c, hc, k1, k2⟩ => ⟨⟨⟨c, hc⟩, fun ⟨d, hd, k3, k4⟩ => by
      have e := Tr.uniq hM hc hd
      rw [← e] at k4; omega⟩, fun ⟨d, hd, k3, k4⟩ => by
      have e := Tr.uniq hM hc hd
      rw [← e] at k4; omega⟩⟩
  have eA : cntP (prs n) (fun z => lst X Y n E k z.1 z.2) = cntP (prs n) A := rfl
  omega
theorem edg2 {X Y : Nat → Int} {n : Nat} {E P : Nat → Nat → Prop} (hM : Mx X Y n E) {k : Nat → Int} (hk : ∀ i j, i < n → j < n → k i = k j → i = j) (hP : ∀ a b, P a b → E a b) :
    cntP (prs n) (fun z => P z.1 z.2) = cntP (prs n) (fun z => P z.1 z.2 ∧ k z.1 < k z.2) + cntP (prs n) (fun z => P z.2 z.1 ∧ k z.1 < k z.2) := by
  rw [cnt_split (Q := fun z => k z.1 < k z.2) (prs n)]
  have sw : ∀ (P Q : Nat × Nat → Prop), (∀ a b, P (a, b) → Q (b, a)) → cntP (prs n) P ≤ cntP (prs n) Q := by
    intro P Q h
    refine cnt_inj (fun z => (z.2, z.1)) (prs_nodup n) (fun z hz pz => ⟨prs_mem.mpr ⟨(prs_mem.mp hz).2, (prs_mem.mp hz).1⟩, h z.1 z.2 pz⟩) ?_
    intro z w _ _ _ _ he
    exact Prod.ext (congrArg Prod.snd he) (congrArg Prod.fst he)
  congr 1
  refine Nat.le_antisymm (sw _ _ fun a b ⟨h1, h2⟩ => ⟨h1, ?_⟩) (sw _ _ fun a b ⟨h1, h2⟩ => ⟨h1, ?_⟩)
  · have := hM.1 a b (hP a b h1)
    have q : k a ≠ k b := fun e => this.2.2.1 (hk a b this.1 this.2.1 e)
    show k b < k a
    have h2 : ¬ k a < k b := h2
    omega
  · show ¬ k b < k a
    have h2 : k a < k b := h2
    omega
