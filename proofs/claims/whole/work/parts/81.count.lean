/-! count -/
theorem cnt_one {α : Type} {l : List α} {P : α → Prop} {z0 : α} (hn : l.Nodup) (hm : z0 ∈ l) (hp : P z0) : cntP l P = cntP l (fun z => P z ∧ ¬ z = z0) + 1 := by
  have s1 := cnt_split (P := P) (Q := fun z => z = z0) l
  have e2 : cntP l (fun z => P z ∧ z = z0) = 1 := by
    have one : cntP [z0] (fun _ => True) = 1 := cnt_true [z0]
    have a1 := cnt_inj (l := l) (l' := [z0]) (P := fun z => P z ∧ z = z0) (Q := fun _ => True) id hn (fun z _ k => ⟨by show z ∈ [z0]; rw [k.2]; exact List.mem_cons_self, trivial⟩) (fun x y _ _ _ _ h => h)
    have b1 := cnt_inj (l := [z0]) (l' := l) (P := fun _ => True) (Q := fun z => P z ∧ z = z0) id (List.nodup_cons.mpr ⟨List.not_mem_nil, List.nodup_nil⟩) (fun z hz _ => by
      have : z = z0 := List.mem_singleton.mp hz
      rw [this]
      exact ⟨hm, hp, rfl⟩) (fun x y _ _ _ _ h => h)
    omega
  omega
/-- pairs told of before (a, b) -/
noncomputable def CB (n : Nat) (Q : Nat → Nat → Prop) (a b : Nat) : Nat := cntP (prs n) (fun z => Q z.1 z.2 ∧ z.2 < z.1 ∧ (z.1 < a ∨ (z.1 = a ∧ z.2 < b)))
theorem CB_next {n : Nat} {Q : Nat → Nat → Prop} (a : Nat) : CB n Q (a + 1) 0 = CB n Q a a := cnt_congr fun z _ => ⟨fun ⟨h1, h2, h3⟩ => ⟨h1, h2, by omega⟩, fun ⟨h1, h2, h3⟩ => ⟨h1, h2, by omega⟩⟩
theorem CB_no {n : Nat} {Q : Nat → Nat → Prop} {a b : Nat} (h : ¬ Q a b) : CB n Q a (b + 1) = CB n Q a b := cnt_congr fun z _ => ⟨fun ⟨h1, h2, h3⟩ => ⟨h1, h2, by
  by_cases q : z.1 = a ∧ z.2 = b
  · rw [q.1, q.2] at h1; exact absurd h1 h
  · omega⟩, fun ⟨h1, h2, h3⟩ => ⟨h1, h2, by omega⟩⟩
theorem CB_yes {n : Nat} {Q : Nat → Nat → Prop} {a b : Nat} (h : Q a b) (hb : b < a) (ha : a < n) : CB n Q a (b + 1) = CB n Q a b + 1 := by
  unfold CB
  rw [cnt_one (z0 := (a, b)) (prs_nodup n) (prs_mem.mpr ⟨ha, by show b < n; omega⟩) ⟨h, hb, Or.inr ⟨rfl, by show b < b + 1; omega⟩⟩]
  congr 1
  refine cnt_congr fun z _ => ⟨fun ⟨⟨h1, h2, h3⟩, h4⟩ => ⟨h1, h2, ?_⟩, fun ⟨h1, h2, h3⟩ => ⟨⟨h1, h2, by omega⟩, fun e => by rw [e] at h3; have h3 : a < a ∨ a = a ∧ b < b := h3; omega⟩⟩
  by_cases q : z.1 = a ∧ z.2 = b
  · exact absurd (Prod.ext q.1 q.2) h4
  · omega
theorem CB_all {n : Nat} {Q : Nat → Nat → Prop} : CB n Q n 0 = cntP (prs n) (fun z => Q z.1 z.2 ∧ z.2 < z.1) := cnt_congr fun z hz => ⟨fun ⟨h1, h2, _⟩ => ⟨h1, h2⟩, fun ⟨h1, h2⟩ => ⟨h1, h2, Or.inl (prs_mem.mp hz).1⟩⟩
theorem CB_0 {n : Nat} {Q : Nat → Nat → Prop} : CB n Q 0 0 = 0 := by
  have : CB n Q 0 0 = cntP (prs n) (fun _ => False) := cnt_congr fun z _ => ⟨fun ⟨_, _, h⟩ => by omega, fun h => absurd h id⟩
  rw [this]
  unfold cntP
  rw [List.filter_eq_nil_iff.mpr (fun x _ => by simp)]
  rfl
theorem r127_ev {s : mS} {n : Nat} {x : Int32} {Q : Nat → Nat → Prop} (h15 : s.2.2.1 15 = nI n) (hn : n ≤ 40)
    (hs : ∀ a b (c : Int32), b < a → a < n → (Q a b → ∃ K, ∀ k, K ≤ k → r127 (k + 1) 1 x c (nI a) (nI b) s = r127 k 1 x (c + 1) (nI a) (nI (b + 1)) s) ∧ (¬ Q a b → ∃ K, ∀ k, K ≤ k → r127 (k + 1) 1 x c (nI a) (nI b) s = r127 k 1 x c (nI a) (nI (b + 1)) s)) :
    ev (fun k => r127 k 0 x 0 0 0 s) (if x = 1 ∨ x = 3 ∨ x = 4 then nI (cntP (prs n) (fun z => Q z.1 z.2 ∧ z.2 < z.1)) else -1, s) := by
  have main : ∀ d a, a + d = n → ev (fun k => r127 k 0 x (nI (CB n Q a 0)) (nI a) 0 s) (if x = 1 ∨ x = 3 ∨ x = 4 then nI (CB n Q n 0) else -1, s) := by
    intro d
    induction d with
    | zero =>
      intro a ha
      have ea : a = n := by omega
      subst ea
      refine ev_c fun k => ?_
      simp only [r127]
      rw [if_pos trivial, h15, if_pos ((nI_leI (by omega) (by omega)).mpr (Nat.le_refl _))]
      by_cases c1 : x = 1
      · rw [if_pos c1, if_pos (Or.inl c1)]
      · rw [if_neg c1]
        by_cases c3 : x = 3
        · rw [if_pos c3, if_pos (Or.inr (Or.inl c3))]
        · rw [if_neg c3]
          by_cases c4 : x = 4
          · rw [if_neg (fun q => q c4), if_pos (Or.inr (Or.inr c4))]
          · rw [if_pos c4, if_neg (fun q => by rcases q with q | q | q; exact c1 q; exact c3 q; exact c4 q)]
    | succ d ih =>
      intro a ha
      have han : a < n := by omega
      have row : ∀ e b, b + e = a → ev (fun k => r127 k 1 x (nI (CB n Q a b)) (nI a) (nI b) s) (if x = 1 ∨ x = 3 ∨ x = 4 then nI (CB n Q n 0) else -1, s) := by
        intro e
        induction e with
        | zero =>
          intro b hb
          have eb : b = a := by omega
          subst eb
          have := ih (b + 1) (by omega)
          rw [CB_next] at this
          refine ev1 this fun k hk => ?_
          show r127 (k + 1) _ _ _ _ _ _ = _
          simp only [r127]
          rw [if_neg (by decide), if_pos ((nI_leI (by omega) (by omega)).mpr (Nat.le_refl _)), nI_inc]
          exact hk
        | succ e ihe =>
          intro b hb
          obtain ⟨s1, s2⟩ := hs a b (nI (CB n Q a b)) (by omega) han
          have q1 := ihe (b + 1) (by omega)
          by_cases hQ : Q a b
          · obtain ⟨K, hK⟩ := s1 hQ
            rw [CB_yes hQ (by omega) han] at q1
            obtain ⟨K2, hK2⟩ := q1
            refine ⟨K + K2 + 1, fun k hk => ?_⟩
            obtain ⟨j, rfl⟩ : ∃ j, k = j + 1 := ⟨k - 1, by omega⟩
            show r127 (j + 1) _ _ _ _ _ _ = _
            rw [hK j (by omega), nI_1]
            exact hK2 j (by omega)
          · obtain ⟨K, hK⟩ := s2 hQ
            rw [CB_no hQ] at q1
            obtain ⟨K2, hK2⟩ := q1
            refine ⟨K + K2 + 1, fun k hk => ?_⟩
            obtain ⟨j, rfl⟩ : ∃ j, k = j + 1 := ⟨k - 1, by omega⟩
            show r127 (j + 1) _ _ _ _ _ _ = _
            rw [hK j (by omega)]
            exact hK2 j (by omega)
      refine ev1 (row a 0 (by omega)) fun k hk => ?_
      show r127 (k + 1) _ _ _ _ _ _ = _
      simp only [r127]
      rw [if_pos trivial, h15, if_neg (fun q => by have := (nI_leI (by omega) (by omega)).mp q; omega)]
      exact hk
  have := main n 0 (by omega)
  rw [CB_0, CB_all] at this
  exact this
/-- what the reference counts -/
def Qx (X Y : Nat → Int) (n m : Nat) (E lk : Nat → Nat → Prop) (x : Int32) (a b : Nat) : Prop := (x = 1 ∧ lk a b) ∨ (x = 3 ∧ 0 < m ∧ E a b) ∨ (x ≠ 1 ∧ x ≠ 3 ∧ 0 < m ∧ E a b ∧ (¬ hasT X Y n E a b ∨ ¬ hasT X Y n E b a))
theorem f127r_ev {s : mS} {n m : Nat} {E lk : Nat → Nat → Prop} {T : Nat → Nat → Nat} {X Y : Nat → Int} {x : Int32} (h15 : s.2.2.1 15 = nI n) (hn : n ≤ 40) (hM : Mx X Y n E) (hT : TL X Y n E m T) (hR : RT s m T) (hm : m ≤ 75) (hl : tb45 s lk) (hE : 0 < m → tb46 s E) :
    ev (fun k => r127 k 0 x 0 0 0 s) (if x = 1 ∨ x = 3 ∨ x = 4 then nI (cntP (prs n) (fun z => Qx X Y n m E lk x z.1 z.2 ∧ z.2 < z.1)) else -1, s) := by
  refine r127_ev h15 hn fun a b c hb ha => ?_
  have hlab := hl.ne (show a < 40 by omega) (show b < 40 by omega)
  have hm0 : nI m ≤ 0 ↔ m = 0 := by
    rw [show (0 : Int32) = nI 0 from rfl, nI_leI (by omega) (by decide)]
    omega
  by_cases x1 : x = 1
  · subst x1
    have base : ∀ k, r127 (k + 1) 1 1 c (nI a) (nI b) s = if s.1 45 (40 * a + b) = 0 then r127 k 1 1 c (nI a) (nI (b + 1)) s else r127 k 1 1 (c + 1) (nI a) (nI (b + 1)) s := by
      intro k
      simp only [r127]
      rw [if_neg (by decide), if_neg (fun q => by have := (nI_leI (by omega) (by omega)).mp q; omega), idx2, rdI_nI (show 40 * a + b < 1600 by omega) (by decide), rdI_nI (show 40 * a + b < 1600 by omega) (by decide), nI_clamp (by omega), nI_inc]
      split
      · rfl
      · split
        · rfl
        · rfl
    constructor
    · intro q
      have q : lk a b := by
        rcases q with q | q | q
        · exact q.2
        · exact absurd q.1 (by decide)
        · exact absurd rfl q.1
      exact ⟨0, fun k _ => by rw [base, if_neg (hlab.mpr q)]⟩
    · intro q
      have q : ¬ lk a b := fun w => q (Or.inl ⟨rfl, w⟩)
      exact ⟨0, fun k _ => by rw [base, if_pos (Decidable.not_not.mp (fun w => q (hlab.mp w)))]⟩
  · by_cases em : m = 0
    · have nQ : ¬ Qx X Y n m E lk x a b := by
        rintro (q | q | q)
        · exact x1 q.1
        · have := q.2.1; omega
        · have := q.2.2.1; omega
      refine ⟨fun q => absurd q nQ, fun _ => ⟨0, fun k _ => ?_⟩⟩
      simp only [r127]
      rw [if_neg (by decide), if_neg (fun q => by have := (nI_leI (by omega) (by omega)).mp q; omega), hR.1, if_pos (hm0.mpr em), if_pos x1, nI_inc]
      split <;> rfl
    · have hm1 : 0 < m := by omega
      have tb := (hE hm1).ne (show a < 40 by omega) (show b < 40 by omega)
      have head : ∀ k (R1 R2 : Option (Int32 × mS)), (¬ E a b → R1 = r127 k 1 x c (nI a) (nI (b + 1)) s) → True := fun _ _ _ _ => trivial
      by_cases hEab : E a b
      · have c46 := tb.mpr hEab
        by_cases x3 : x = 3
        · subst x3
          have yes : Qx X Y n m E lk 3 a b := Or.inr (Or.inl ⟨rfl, hm1, hEab⟩)
          refine ⟨fun _ => ⟨0, fun k _ => ?_⟩, fun q => absurd yes q⟩
          simp only [r127]
          rw [if_neg (by decide), if_neg (fun q => by have := (nI_leI (by omega) (by omega)).mp q; omega), hR.1, if_neg (fun q => em (hm0.mp q)), idx2, rdI_nI (show 40 * a + b < 1600 by omega) (by decide), nI_clamp (by omega), if_neg c46, nI_inc]
          rfl
        · obtain ⟨r, ⟨K1, r1⟩, r2⟩ := f138_ev hM hn hT hR hm (show a < 40 by omega) (show b < 40 by omega)
          obtain ⟨r', ⟨K2, r1'⟩, r2'⟩ := f138_ev hM hn hT hR hm (show b < 40 by omega) (show a < 40 by omega)
          have sg : ∀ {u v : Nat} {r : Int32}, nb m T u v r → (r < 0 ↔ ¬ hasT X Y n E u v) := by
            intro u v r q
            rcases q with ⟨j, q1, q2⟩ | ⟨q1, q2⟩
            · rw [q2]
              exact ⟨fun w => absurd w (nI_pos (by have := q1.1; omega)), fun w => absurd ((at2_has hT).mp ⟨j, q1⟩) w⟩
            · rw [q1]
              exact ⟨fun _ w => by obtain ⟨j, hj⟩ := (at2_has hT).mpr w; exact q2 j hj, fun _ => by decide⟩
          have s1 := sg r2
          have s2 := sg r2'
          have base : ∀ k, K1 + K2 ≤ k → r127 (k + 1) 1 x c (nI a) (nI b) s = if r < 0 then r127 k 1 x (c + 1) (nI a) (nI (b + 1)) s else if 0 ≤ r' then r127 k 1 x c (nI a) (nI (b + 1)) s else r127 k 1 x (c + 1) (nI a) (nI (b + 1)) s := by
            intro k hk
            have h1 : f138 k (nI a) (nI b) s = some r := r1 k (by omega)
            have h2 : f138 k (nI b) (nI a) s = some r' := r1' k (by omega)
            simp only [r127]
            rw [if_neg (by decide), if_neg (fun q => by have := (nI_leI (by omega) (by omega)).mp q; omega), hR.1, if_neg (fun q => em (hm0.mp q)), idx2, rdI_nI (show 40 * a + b < 1600 by omega) (by decide), nI_clamp (by omega), if_neg c46, if_pos x1, if_pos x3, h1, h2, nI_inc]
            rfl
          have ge : 0 ≤ r' ↔ ¬ r' < 0 := by rw [Int32.le_iff_toInt_le, Int32.lt_iff_toInt_lt]; omega
          constructor
          · intro q
            have q : ¬ hasT X Y n E a b ∨ ¬ hasT X Y n E b a := by
              rcases q with q | q | q
              · exact absurd q.1 x1
              · exact absurd q.1 x3
              · exact q.2.2.2.2
            refine ⟨K1 + K2, fun k hk => ?_⟩
            rw [base k hk]
            by_cases w : r < 0
            · rw [if_pos w]
            · rw [if_neg w]
              rcases q with q | q
              · exact absurd (s1.mpr q) w
              · rw [if_neg (fun z => ge.mp z (s2.mpr q))]
          · intro q
            have q1 : hasT X Y n E a b := Classical.byContradiction fun w => q (Or.inr (Or.inr ⟨x1, x3, hm1, hEab, Or.inl w⟩))
            have q2 : hasT X Y n E b a := Classical.byContradiction fun w => q (Or.inr (Or.inr ⟨x1, x3, hm1, hEab, Or.inr w⟩))
            refine ⟨K1 + K2, fun k hk => ?_⟩
            rw [base k hk, if_neg (fun z => s1.mp z q1), if_pos (ge.mpr fun z => s2.mp z q2)]
      · have nQ : ¬ Qx X Y n m E lk x a b := by
          rintro (q | q | q)
          · exact x1 q.1
          · exact hEab q.2.2
          · exact hEab q.2.2.2.1
        have c46 : s.1 46 (40 * a + b) = 0 := Decidable.not_not.mp (fun q => hEab (tb.mp q))
        refine ⟨fun q => absurd q nQ, fun _ => ⟨0, fun k _ => ?_⟩⟩
        simp only [r127]
        rw [if_neg (by decide), if_neg (fun q => by have := (nI_leI (by omega) (by omega)).mp q; omega), hR.1, if_neg (fun q => em (hm0.mp q)), idx2, rdI_nI (show 40 * a + b < 1600 by omega) (by decide), nI_clamp (by omega), if_pos c46, if_pos x1, nI_inc]
        split <;> rfl
