/-! from triangle to triangle, where no link bars the way; how many steps -/
/-- from triangle i over its side k into j -/
def nx (m : Nat) (T : Nat → Nat → Nat) (lk : Nat → Nat → Prop) (i k j : Nat) : Prop := ¬ lk (T i k) (T i ((k + 1) % 3)) ∧ at2 m T (T i ((k + 1) % 3)) (T i k) j
def gt (m : Nat) (T : Nat → Nat → Nat) (lk : Nat → Nat → Prop) (i k : Nat) (r : Int32) : Prop := (∃ j, nx m T lk i k j ∧ r = nI j) ∨ (r = -1 ∧ ∀ j, ¬ nx m T lk i k j)
def adj (m : Nat) (T : Nat → Nat → Nat) (lk : Nat → Nat → Prop) (i j : Nat) : Prop := ∃ k, k < 3 ∧ nx m T lk i k j
theorem nx.lt {m : Nat} {T : Nat → Nat → Nat} {lk : Nat → Nat → Prop} {i k j : Nat} (h : nx m T lk i k j) : j < m := h.2.1
theorem adj.lt {m : Nat} {T : Nat → Nat → Nat} {lk : Nat → Nat → Prop} {i j : Nat} (h : adj m T lk i j) : j < m := by
  obtain ⟨k, _, h⟩ := h
  exact h.lt
theorem adj.sym {m : Nat} {T : Nat → Nat → Nat} {lk : Nat → Nat → Prop} {i j : Nat} (hl : ∀ x y, lk x y → lk y x) (hi : i < m) (h : adj m T lk i j) : adj m T lk j i := by
  obtain ⟨k, hk, h1, h2, k', hk', e1, e2⟩ := h
  refine ⟨k', hk', ?_, hi, k, hk, ?_, ?_⟩
  · rw [e1, e2]; exact fun q => h1 (hl _ _ q)
  · exact e2.symm
  · exact e1.symm
theorem nx_uniq {X Y : Nat → Int} {n m : Nat} {E : Nat → Nat → Prop} {T : Nat → Nat → Nat} {lk : Nat → Nat → Prop} (h : TL X Y n E m T) {i k j j' : Nat} (h1 : nx m T lk i k j) (h2 : nx m T lk i k j') : j = j' := at2_uniq h h1.2 h2.2
theorem gt_uniq {X Y : Nat → Int} {n m : Nat} {E : Nat → Nat → Prop} {T : Nat → Nat → Nat} {lk : Nat → Nat → Prop} (h : TL X Y n E m T) {i k : Nat} {r r' : Int32} (h1 : gt m T lk i k r) (h2 : gt m T lk i k r') : r = r' := by
  rcases h1 with ⟨j, a1, a2⟩ | ⟨a1, a2⟩ <;> rcases h2 with ⟨j', b1, b2⟩ | ⟨b1, b2⟩
  · rw [a2, b2, nx_uniq h a1 b1]
  · exact absurd a1 (b2 j)
  · exact absurd b1 (a2 j')
  · rw [a1, b1]
/-- the class's -/
theorem f64_ev {s : mS} {n m i k : Nat} {E lk : Nat → Nat → Prop} {T : Nat → Nat → Nat} (hC : CX s n E) (hl : LKc s lk) (hT : CT s n E m T) (hi : i < m) (hk : k < 3) : ∃ r, f64 (nI i) (nI k) s = some r ∧ gt m T lk i k r := by
  have hn := hC.2.2.1
  have hM := hC.2.2.2.2.1
  have hm := hT.2.1
  have l1 := hT.1.lt hM hi hk
  have l2 := hT.1.lt hM hi (show (k + 1) % 3 < 3 by omega)
  have e1 := (hT.2.2.2 i k hi hk).1
  have e2 := (hT.2.2.2 i _ hi (show (k + 1) % 3 < 3 by omega)).1
  obtain ⟨r, r1, r2⟩ := f63_ev hC hT hi hk
  have base : f64 (nI i) (nI k) s = if bI (bL (s.2.1 22 (T i k)) (T i ((k + 1) % 3))) = 0 then some r else some (-1) := by
    unfold f64
    rw [f52_eq (by omega), f53_eq hk (by omega), e1, e2]
    simp only [Option.bind_some]
    rw [f39_eq (by omega) (by omega), r1]
    rfl
  have hb := hl.2 (T i k) (T i ((k + 1) % 3)) (by omega) (by omega)
  rw [base]
  by_cases q : lk (T i k) (T i ((k + 1) % 3))
  · rw [hb.mpr q, if_neg (show ¬ bI true = 0 by decide)]
    exact ⟨_, rfl, Or.inr ⟨rfl, fun j w => w.1 q⟩⟩
  · have : bL (s.2.1 22 (T i k)) (T i ((k + 1) % 3)) = false := by
      cases z : bL (s.2.1 22 (T i k)) (T i ((k + 1) % 3)) with
      | false => rfl
      | true => exact absurd (hb.mp z) q
    rw [this, if_pos (show bI false = 0 from rfl)]
    refine ⟨r, rfl, ?_⟩
    rcases r2 with ⟨j, w1, w2⟩ | ⟨w1, w2⟩
    · exact Or.inl ⟨j, ⟨q, w1⟩, w2⟩
    · exact Or.inr ⟨w1, fun j w => w2 j w.2⟩
/-- the reference's -/
theorem f149_ev {s : mS} {n m i k : Nat} {E lk : Nat → Nat → Prop} {T : Nat → Nat → Nat} {X Y : Nat → Int} (hM : Mx X Y n E) (hn : n ≤ 40) (hT : TL X Y n E m T) (hR : RT s m T) (hm : m ≤ 75) (hl : tb45 s lk) (hi : i < m) (hk : k < 3) : ∃ r, ev (fun q => f149 q (nI i) (nI k) s) r ∧ gt m T lk i k r := by
  have l1 := hT.lt hM hi hk
  have l2 := hT.lt hM hi (show (k + 1) % 3 < 3 by omega)
  have e1 := hR.2 i k hi hk
  have e2 := hR.2 i _ hi (show (k + 1) % 3 < 3 by omega)
  obtain ⟨r, r1, r2⟩ := f138_ev hM hn hT hR hm (show T i ((k + 1) % 3) < 40 by omega) (show T i k < 40 by omega)
  have base : ∀ q, f138 q (nI (T i ((k + 1) % 3))) (nI (T i k)) s = some r → f149 q (nI i) (nI k) s = if s.1 45 (40 * T i k + T i ((k + 1) % 3)) = 0 then some r else some (-1) := by
    intro q hq
    unfold f149
    rw [md3 k hk, nI_3, nI_add, nI_add, rdI_nI (show 3 * i + k < 300 by omega) (by decide), rdI_nI (show 3 * i + (k + 1) % 3 < 300 by omega) (by decide), nI_clamp (by omega), nI_clamp (by omega), e1, e2, idx2, rdI_nI (show 40 * T i k + T i ((k + 1) % 3) < 1600 by omega) (by decide), nI_clamp (by omega), hq]
    rfl
  have hb := hl.ne (show T i k < 40 by omega) (show T i ((k + 1) % 3) < 40 by omega)
  by_cases q : lk (T i k) (T i ((k + 1) % 3))
  · refine ⟨-1, evm r1 fun z hz => ?_, Or.inr ⟨rfl, fun j w => w.1 q⟩⟩
    show f149 z _ _ _ = _
    rw [base z hz, if_neg (hb.mpr q)]
  · refine ⟨r, evm r1 fun z hz => ?_, ?_⟩
    · show f149 z _ _ _ = _
      rw [base z hz, if_pos (Decidable.not_not.mp fun w => q (hb.mp w))]
    · rcases r2 with ⟨j, w1, w2⟩ | ⟨w1, w2⟩
      · exact Or.inl ⟨j, ⟨q, w1⟩, w2⟩
      · exact Or.inr ⟨w1, fun j w => w2 j w.2⟩
/-- d steps lead from i to g -/
def wk (m : Nat) (T : Nat → Nat → Nat) (lk : Nat → Nat → Prop) (g : Nat) : Nat → Nat → Prop
  | 0, i => i = g
  | d + 1, i => ∃ j, adj m T lk i j ∧ wk m T lk g d j
/-- d is the least -/
def Ds (m : Nat) (T : Nat → Nat → Nat) (lk : Nat → Nat → Prop) (g i d : Nat) : Prop := wk m T lk g d i ∧ ∀ e, wk m T lk g e i → d ≤ e
theorem Ds_uniq {m : Nat} {T : Nat → Nat → Nat} {lk : Nat → Nat → Prop} {g i d e : Nat} (h1 : Ds m T lk g i d) (h2 : Ds m T lk g i e) : d = e := by
  have a := h1.2 e h2.1
  have b := h2.2 d h1.1
  omega
/-- labels that cannot be bettered are the least numbers of steps -/
theorem lab_le {m : Nat} {T : Nat → Nat → Nat} {lk : Nat → Nat → Prop} {g : Nat} {f : Nat → Nat} (h0 : f g = 0) (hb : ∀ i j, i < m → adj m T lk i j → f i ≤ f j + 1) : ∀ d i, i < m → wk m T lk g d i → f i ≤ d := by
  intro d
  induction d with
  | zero =>
    intro i _ hi
    have hi : i = g := hi
    rw [hi, h0]
    exact Nat.le_refl _
  | succ d ih =>
    intro i hm hi
    obtain ⟨j, h1, h2⟩ := hi
    have := ih j h1.lt h2
    have := hb i j hm h1
    omega
