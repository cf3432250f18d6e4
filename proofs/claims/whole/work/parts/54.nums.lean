/-! M2: the triangles get their numbers -/
def NMi (s : mS) (n : Nat) (E : Nat → Nat → Prop) (L : List Nat) : Prop := s.2.2.1 2 = nI L.length ∧ ∀ i c z, L[i]? = some c → Tr (Xc s) (Yc s) n E (c / 40) (c % 40) z →
  s.1 26 (3 * i) = nI (c / 40) ∧ s.1 26 (3 * i + 1) = nI (c % 40) ∧ s.1 26 (3 * i + 2) = nI z ∧ s.1 25 (40 * (c / 40) + c % 40) = nI i ∧ s.1 25 (40 * (c % 40) + z) = nI i ∧ s.1 25 (40 * z + c / 40) = nI i
/-- the codes of the triangles below u, in their order -/
def NL (X Y : Nat → Int) (n : Nat) (E : Nat → Nat → Prop) (u : Nat) (L : List Nat) : Prop := L.Pairwise (· < ·) ∧ ∀ c, c ∈ L ↔ c < u ∧ lst X Y n E ik (c / 40) (c % 40)
theorem NL_uniq {u : Nat} {P : Nat → Prop} : ∀ {L K : List Nat}, L.Pairwise (· < ·) → K.Pairwise (· < ·) → (∀ c, c ∈ L ↔ c < u ∧ P c) → (∀ c, c ∈ K ↔ c < u ∧ P c) → L = K := by
  intro L
  induction L generalizing P with
  | nil =>
    intro K _ _ h1 h2
    cases K with
    | nil => rfl
    | cons c K => exact absurd ((h1 c).mpr ((h2 c).mp List.mem_cons_self)) List.not_mem_nil
  | cons c L ih =>
    intro K p1 p2 h1 h2
    cases K with
    | nil => exact absurd ((h2 c).mpr ((h1 c).mp List.mem_cons_self)) List.not_mem_nil
    | cons d K =>
      have q1 := List.pairwise_cons.mp p1
      have q2 := List.pairwise_cons.mp p2
      have e : c = d := by
        have m1 : c ∈ d :: K := (h2 c).mpr ((h1 c).mp List.mem_cons_self)
        have m2 : d ∈ c :: L := (h1 d).mpr ((h2 d).mp List.mem_cons_self)
        rcases List.mem_cons.mp m1 with m1 | m1
        · exact m1
        · rcases List.mem_cons.mp m2 with m2 | m2
          · exact m2.symm
          · have := q2.1 c m1
            have := q1.1 d m2
            omega
      subst e
      have := ih (P := fun x => P x ∧ x ≠ c) q1.2 q2.2 (fun x => by
        constructor
        · intro hx
          have g := (h1 x).mp (List.mem_cons_of_mem _ hx)
          have := q1.1 x hx
          exact ⟨g.1, g.2, by omega⟩
        · intro ⟨k1, k2, k3⟩
          rcases List.mem_cons.mp ((h1 x).mpr ⟨k1, k2⟩) with k | k
          · exact absurd k k3
          · exact k) (fun x => by
        constructor
        · intro hx
          have g := (h2 x).mp (List.mem_cons_of_mem _ hx)
          have := q2.1 x hx
          exact ⟨g.1, g.2, by omega⟩
        · intro ⟨k1, k2, k3⟩
          rcases List.mem_cons.mp ((h2 x).mpr ⟨k1, k2⟩) with k | k
          · exact absurd k k3
          · exact k)
      rw [this]
theorem NL_len {X Y : Nat → Int} {n u : Nat} {E : Nat → Nat → Prop} {L : List Nat} (hM : Mx X Y n E) (h : NL X Y n E u L) : L.length ≤ cntP (prs n) (fun z => lst X Y n E ik z.1 z.2) := by
  have nd : L.Nodup := List.Pairwise.imp (fun h => by omega) h.1
  have := cnt_inj (l := L) (l' := prs n) (P := fun _ => True) (Q := fun z => lst X Y n E ik z.1 z.2) (fun c => (c / 40, c % 40)) nd (fun c hc _ => by
    have hl := ((h.2 c).mp hc).2
    have hl2 := hl
    obtain ⟨w, hw, _⟩ := hl2
    have := hw.lt hM
    exact ⟨prs_mem.mpr ⟨this.1, this.2.1⟩, hl⟩) (fun x y _ _ _ _ e => by
    have e1 : x / 40 = y / 40 := congrArg Prod.fst e
    have e2 : x % 40 = y % 40 := congrArg Prod.snd e
    omega)
  rw [cnt_true] at this
  exact this
theorem lst_nfl {X Y : Nat → Int} {n a b : Nat} {E : Nat → Nat → Prop} {k : Nat → Int} (hM : Mx X Y n E) (h : lst X Y n E k a b) : nfl X Y n := by
  obtain ⟨w, hw, _⟩ := h
  have := hw.lt hM
  exact ⟨a, b, w, this.1, this.2.1, this.2.2, by have := hw.2.2.2.1; omega⟩
theorem NL_75 {X Y : Nat → Int} {n u : Nat} {E : Nat → Nat → Prop} {L : List Nat} (hD : Dst X Y n) (hB : Bd X Y n) (hn : n ≤ 40) (hM : Mx X Y n E) (h : NL X Y n E u L) : L.length ≤ 75 := by
  cases L with
  | nil => exact Nat.zero_le _
  | cons c L =>
    have hl := ((h.2 c).mp List.mem_cons_self).2
    have f := few_T hD hB hM (lst_nfl hM hl)
    have l := NL_len hM h
    omega
theorem P42.Bd {s : mS} {n : Nat} (h : P42 s) (hn : n ≤ 40) : Bd (Xc s) (Yc s) n := fun i hi => h i (by omega)
/-- two triangles, both told from their least corner, with a directed edge in common are one -/
theorem lst_dis {X Y : Nat → Int} {n a b z a' b' z' : Nat} {E : Nat → Nat → Prop} (hM : Mx X Y n E) (h : Tr X Y n E a b z) (k1 : a < b) (k2 : a < z) (h' : Tr X Y n E a' b' z') (k1' : a' < b') (k2' : a' < z') :
    ((a = a' ∧ b = b') ∨ (a = b' ∧ b = z') ∨ (a = z' ∧ b = a') ∨ (b = a' ∧ z = b') ∨ (b = b' ∧ z = z') ∨ (b = z' ∧ z = a') ∨ (z = a' ∧ a = b') ∨ (z = b' ∧ a = z') ∨ (z = z' ∧ a = a')) → a = a' ∧ b = b' := by
  intro c
  rcases c with ⟨e1, e2⟩ | ⟨e1, e2⟩ | ⟨e1, e2⟩ | ⟨e1, e2⟩ | ⟨e1, e2⟩ | ⟨e1, e2⟩ | ⟨e1, e2⟩ | ⟨e1, e2⟩ | ⟨e1, e2⟩
  · exact ⟨e1, e2⟩
  · subst e1 e2; have := Tr.uniq hM h h'.rot; omega
  · subst e1 e2; have := Tr.uniq hM h h'.rot.rot; omega
  · subst e1 e2; have := Tr.uniq hM h.rot h'; omega
  · subst e1 e2; have := Tr.uniq hM h.rot h'.rot; omega
  · subst e1 e2; have := Tr.uniq hM h.rot h'.rot.rot; omega
  · subst e1 e2; have := Tr.uniq hM h.rot.rot h'; omega
  · subst e1 e2; have := Tr.uniq hM h.rot.rot h'.rot; omega
  · subst e1 e2; have := Tr.uniq hM h.rot.rot h'.rot.rot; omega
theorem nI_3 (i : Nat) : (3 : Int32) * nI i = nI (3 * i) := by rw [show (3 : Int32) = nI 3 from rfl, nI_mul]
theorem nI_p (i j : Nat) (v : Int32) (h : v = nI j) : nI i + v = nI (i + j) := by rw [h, nI_add]
theorem f61_eq {s : mS} {a b z m : Nat} (ha : a < 40) (hb : b < 40) (hz : z < 40) (hm : m < 75) (h2 : s.2.2.1 2 = nI m) : f61 (nI a) (nI b) (nI z) s = some (uF 2 (nI (m + 1)) (uA 26 (upd (upd (upd (s.1 26) (3 * m) (nI a)) (3 * m + 1) (nI b)) (3 * m + 2) (nI z)) (uA 25 (th3 (s.1 25) a b z (nI m) (nI m) (nI m)) s))) := by
  have e25 : ∀ (T U : Nat → Int32) (s : mS), uA 25 U (uA 25 T s) = uA 25 U s := by
    intro T U s
    unfold uA
    ext <;> simp
    split <;> rfl
  have e26 : ∀ (T U : Nat → Int32) (s : mS), uA 26 U (uA 26 T s) = uA 26 U s := by
    intro T U s
    unfold uA
    ext <;> simp
    split <;> rfl
  unfold f61
  have k2 : ∀ (T : Nat → Int32) (j : Nat) (u : mS), (uA j T u).2.2.1 2 = u.2.2.1 2 := fun _ _ _ => rfl
  have k26 : ∀ (T : Nat → Int32) (u : mS), (uA 25 T u).1 26 = u.1 26 := fun _ _ => rfl
  simp only [f99_eq, Option.bind_some, rdI_nI (idx_lt ha hb) (show 1600 < 2 ^ 31 by decide), rdI_nI (idx_lt hb hz) (show 1600 < 2 ^ 31 by decide), rdI_nI (idx_lt hz ha) (show 1600 < 2 ^ 31 by decide), nI_clamp (show 40 * a + b < 2 ^ 31 by omega), nI_clamp (show 40 * b + z < 2 ^ 31 by omega), nI_clamp (show 40 * z + a < 2 ^ 31 by omega), pt, uA_at, e25, e26, k2, k26, h2, nI_3, nI_p _ 1 1 rfl, nI_p _ 2 2 rfl,
    rdI_nI (show 3 * m < 225 by omega) (show 225 < 2 ^ 31 by decide), rdI_nI (show 3 * m + 1 < 225 by omega) (show 225 < 2 ^ 31 by decide), rdI_nI (show 3 * m + 2 < 225 by omega) (show 225 < 2 ^ 31 by decide), nI_clamp (show 3 * m < 2 ^ 31 by omega), nI_clamp (show 3 * m + 1 < 2 ^ 31 by omega), nI_clamp (show 3 * m + 2 < 2 ^ 31 by omega)]
  rfl
def nf (s t : mS) : Prop := sm [25, 26] [] [2] [] s t
theorem nf.z {s t : mS} (h : nf s t) : mz s t := h.mono (by decide) (by decide) (by decide) (by decide)
theorem f61_ev {s : mS} {n : Nat} {E : Nat → Nat → Prop} (h : CX s n E) {L : List Nat} {u a b z : Nat} (hL : NL (Xc s) (Yc s) n E u L) (hN : NMi s n E L) (hu : u ≤ 40 * a + b) (ht : Tr (Xc s) (Yc s) n E a b z) (k1 : a < b) (k2 : a < z) (hm : L.length < 75) :
    ∃ t, f61 (nI a) (nI b) (nI z) s = some t ∧ nf s t ∧ NMi t n E (L ++ [40 * a + b]) := by
  obtain ⟨h1, h2, h3, h4, h5, h6⟩ := h
  have lt := ht.lt h5
  have ha : a < 40 := by omega
  have hb : b < 40 := by omega
  have hz : z < 40 := by omega
  refine ⟨_, f61_eq ha hb hz hm hN.1, ((sm_A (by decide) _ s).trans (sm_A (by decide) _ _)).trans (sm_F (by decide) _ _), ?_, ?_⟩
  · rw [uF_at, List.length_append]; rfl
  · intro i c w hi hw
    have hw : Tr (Xc s) (Yc s) n E (c / 40) (c % 40) w := hw
    have lw := hw.lt h5
    show (upd (upd (upd (s.1 26) (3 * L.length) (nI a)) (3 * L.length + 1) (nI b)) (3 * L.length + 2) (nI z)) (3 * i) = _ ∧ (upd (upd (upd (s.1 26) (3 * L.length) (nI a)) (3 * L.length + 1) (nI b)) (3 * L.length + 2) (nI z)) (3 * i + 1) = _ ∧ (upd (upd (upd (s.1 26) (3 * L.length) (nI a)) (3 * L.length + 1) (nI b)) (3 * L.length + 2) (nI z)) (3 * i + 2) = _ ∧
      (th3 (s.1 25) a b z (nI L.length) (nI L.length) (nI L.length)) (40 * (c / 40) + c % 40) = _ ∧ (th3 (s.1 25) a b z (nI L.length) (nI L.length) (nI L.length)) (40 * (c % 40) + w) = _ ∧ (th3 (s.1 25) a b z (nI L.length) (nI L.length) (nI L.length)) (40 * w + c / 40) = _
    rw [th3_at ha hb hz (by omega) (by omega), th3_at ha hb hz (by omega) (by omega), th3_at ha hb hz (by omega) (by omega)]
    by_cases il : i < L.length
    · rw [List.getElem?_append_left il] at hi
      have hc := (hL.2 c).mp (List.mem_of_getElem? hi)
      obtain ⟨w', hw', q1, q2⟩ := hc.2
      have ew := Tr.uniq h5 hw hw'
      rw [← ew] at q2
      unfold ik at q1 q2
      have q1' : c / 40 < c % 40 := by omega
      have q2' : c / 40 < w := by omega
      obtain ⟨r1, r2, r3, r4, r5, r6⟩ := hN.2 i c w hi hw
      have dis := lst_dis h5 hw q1' q2' ht k1 k2
      have ncd : ¬ (c / 40 = a ∧ c % 40 = b) := fun e => by have := hc.1; omega
      have d : ∀ {p : Prop}, p → (p → (c / 40 = a ∧ c % 40 = b)) → False := fun hp hf => ncd (hf hp)
      unfold upd
      refine ⟨?_, ?_, ?_, ?_, ?_, ?_⟩
      · rw [if_neg (by omega), if_neg (by omega), if_neg (by omega)]; exact r1
      · rw [if_neg (by omega), if_neg (by omega), if_neg (by omega)]; exact r2
      · rw [if_neg (by omega), if_neg (by omega), if_neg (by omega)]; exact r3
      · rw [if_neg (fun e => ncd (dis (Or.inr (Or.inr (Or.inl e))))), if_neg (fun e => ncd (dis (Or.inr (Or.inl e)))), if_neg (fun e => ncd (dis (Or.inl e)))]; exact r4
      · rw [if_neg (fun e => ncd (dis (Or.inr (Or.inr (Or.inr (Or.inr (Or.inr (Or.inl e)))))))), if_neg (fun e => ncd (dis (Or.inr (Or.inr (Or.inr (Or.inr (Or.inl e))))))), if_neg (fun e => ncd (dis (Or.inr (Or.inr (Or.inr (Or.inl e))))))]; exact r5
      · rw [if_neg (fun e => ncd (dis (Or.inr (Or.inr (Or.inr (Or.inr (Or.inr (Or.inr (Or.inr (Or.inr e)))))))))), if_neg (fun e => ncd (dis (Or.inr (Or.inr (Or.inr (Or.inr (Or.inr (Or.inr (Or.inr (Or.inl e)))))))))), if_neg (fun e => ncd (dis (Or.inr (Or.inr (Or.inr (Or.inr (Or.inr (Or.inr (Or.inl e)))))))))]; exact r6
    · have ei : i = L.length := by
        have := (List.getElem?_eq_some_iff.mp hi).1
        rw [List.length_append] at this
        simp at this
        omega
      rw [ei, List.getElem?_append_right (by omega), Nat.sub_self] at hi
      have ec : c = 40 * a + b := by simpa using hi.symm
      have ea : c / 40 = a := by omega
      have eb : c % 40 = b := by omega
      rw [ea, eb] at hw ⊢
      have ew := Tr.uniq h5 hw ht
      have ne := ht.ne
      rw [ew, ei]
      unfold upd
      refine ⟨?_, ?_, ?_, ?_, ?_, ?_⟩
      · rw [if_neg (by omega), if_neg (by omega), if_pos rfl]
      · rw [if_neg (by omega), if_pos rfl]
      · rw [if_pos rfl]
      · rw [if_neg (by omega), if_neg (by omega), if_pos ⟨rfl, rfl⟩]
      · rw [if_neg (by omega), if_pos ⟨rfl, rfl⟩]
      · rw [if_pos ⟨rfl, rfl⟩]
