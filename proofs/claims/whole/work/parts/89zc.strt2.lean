/-! the reference's straightening: the loop -/
theorem pe_NS1 {X Y : Nat → Int} {a a' c b : Nat} (h : pe X Y a a') (hN : NS X Y a c b) : NS X Y a' c b := by
  unfold NS pe ar at *
  rw [← h.1, ← h.2]
  exact hN
theorem pe_NS3 {X Y : Nat → Int} {a c b b' : Nat} (h : pe X Y b b') (hN : NS X Y a c b) : NS X Y a c b' := by
  unfold NS pe ar at *
  rw [← h.1, ← h.2]
  exact hN
theorem last2 : ∀ (l : List Nat) (i a c : Nat), l[i]? = some a → l[i + 1]? = some c → l.length = i + 2 → ∃ m, l = m ++ [a, c] := by
  intro l
  induction l with
  | nil => intro i a c h; simp at h
  | cons x l ih =>
    intro i a c h1 h2 h3
    cases i with
    | zero =>
      have e : x = a := by simpa using h1
      have h2 : l[0]? = some c := h2
      have h3 : l.length = 1 := by simpa using h3
      cases l with
      | nil => simp at h2
      | cons y l =>
        have e2 : y = c := by simpa using h2
        have e3 : l = [] := by simpa using h3
        exact ⟨[], by rw [e, e2, e3]; rfl⟩
    | succ i =>
      obtain ⟨m, e⟩ := ih i a c h1 h2 (by simpa using h3)
      exact ⟨x :: m, by rw [e]; rfl⟩
/-- at every turn the way bends, but a last one at the goal -/
def Bn (X Y : Nat → Int) (ts : List Nat) : Prop := ∀ i a c b : Nat, (40 :: ts)[i]? = some a → ts[i]? = some c → (ts ++ [41])[i + 1]? = some b → (i + 1 = ts.length ∧ pe X Y c 41) ∨ NS X Y a c b
theorem Bn.of {X Y : Nat → Int} {t0 : Nat} {ts : List Nat} (h0 : pe X Y t0 40) (h1 : PN X Y (t0 :: ts)) (h2 : ∀ m u v, t0 :: ts = m ++ [u, v] → ¬ pe X Y v 41 → NS X Y u v 41) : Bn X Y ts := by
  intro i a c b ha hc hb
  have hi := at_lt hc
  have prev : ∃ a', (t0 :: ts)[i]? = some a' ∧ (∀ b, NS X Y a' c b → NS X Y a c b) := by
    cases i with
    | zero =>
      have e : 40 = a := by simpa using ha
      exact ⟨t0, rfl, fun b hN => by rw [← e]; exact pe_NS1 h0 hN⟩
    | succ i => exact ⟨a, ha, fun b hN => hN⟩
  obtain ⟨a', q1, q2⟩ := prev
  by_cases k : i + 1 < ts.length
  · rw [List.getElem?_append_left k] at hb
    exact Or.inr (q2 b (PN_at _ i a' c b h1 q1 hc hb))
  · rw [List.getElem?_append_right (by omega), show i + 1 - ts.length = 0 by omega] at hb
    have e : 41 = b := by simpa using hb
    by_cases w : pe X Y c 41
    · exact Or.inl ⟨by omega, w⟩
    · obtain ⟨m, em⟩ := last2 (t0 :: ts) i a' c q1 hc (by simp; omega)
      rw [← e]
      exact Or.inr (q2 41 (h2 m a' c em w))
theorem RX.bend {s0 s : mS} {X Y : Nat → Int} {n d : Nat} {L R : Nat → Nat} {ts : List Nat} (h : RX s0 X Y n d L R) (z : RSt s0 s ts) {a c b : Nat} (ha : gdp n a) (hc : gdp n c) (hb : gdp n b) : (NS X Y a c b → NS (Xm s) (Ym s) a c b) ∧ (pe X Y c b → pe (Xm s) (Ym s) c b) := by
  obtain ⟨_, h2⟩ := h.c z
  unfold NS pe ar
  rw [(h2 a ha).1, (h2 a ha).2, (h2 b hb).1, (h2 b hb).2, (h2 c hc).1, (h2 c hc).2]
  exact ⟨fun q => q, fun q => q⟩
theorem at_ex {l : List Nat} {i : Nat} (h : i < l.length) : ∃ x, l[i]? = some x := ⟨l[i], List.getElem?_eq_getElem h⟩
/-- the loop up to e places from the end, where the way bends at each -/
theorem r152_go {s0 s : mS} {X Y : Nat → Int} {n d : Nat} {L R : Nat → Nat} {ts : List Nat} {r : mS} (h : RX s0 X Y n d L R) (z : RSt s0 s ts) (hl : ts.length ≤ 77) (hm : ∀ y, y ∈ ts → y < n) {E : Nat} (hE : E ≤ ts.length) (hN : ∀ i a c b : Nat, i < E → (40 :: ts)[i]? = some a → ts[i]? = some c → (ts ++ [41])[i + 1]? = some b → NS X Y a c b) (hr : ev (fun k => r152 k 0 (nI E) 0 s) r) : ∀ e i, i + e = E → ev (fun k => r152 k 0 (nI i) 0 s) r := by
  intro e
  induction e with
  | zero => intro i hi; rw [show i = E by omega]; exact hr
  | succ e ih =>
    intro i hi
    obtain ⟨z1, z2, z3⟩ := z
    obtain ⟨a, ea⟩ := at_ex (l := 40 :: ts) (i := i) (by simp; omega)
    obtain ⟨c, ec⟩ := at_ex (l := ts) (i := i) (by omega)
    obtain ⟨b, eb⟩ := at_ex (l := ts ++ [41]) (i := i + 1) (by simp; omega)
    have gts : ∀ y, y ∈ ts → gdp n y := fun y hy => Or.inl (hm y hy)
    have ga : gdp n a := by
      have := List.mem_of_getElem? ea
      rcases List.mem_cons.mp this with q | q
      · rw [q]; exact Or.inr (Or.inl rfl)
      · exact gts a q
    have gc : gdp n c := gts c (List.mem_of_getElem? ec)
    have gb : gdp n b := by
      have := List.mem_of_getElem? eb
      rcases List.mem_append.mp this with q | q
      · exact gts b q
      · have : b = 41 := by simpa using q
        rw [this]; exact Or.inr (Or.inr rfl)
    have z : RSt s0 s ts := ⟨z1, z2, z3⟩
    have e3 := (f153_eq (h.c z).1 (show i < 100 by omega) (f154_prv z2 z3 hl (by omega) ea) (z3 i c ec) (f154_nxt z2 z3 hl (by omega) eb) (ga.lt h.2.1) (gc.lt h.2.1) (gb.lt h.2.1)).1 ((h.bend z ga gc gb).1 (hN i a c b (by omega) ea ec eb))
    refine ev1 (ih (i + 1) (by omega)) fun k hk => ?_
    have hk : r152 k 0 (nI (i + 1)) 0 s = some r := hk
    show r152 (k + 1) 0 (nI i) 0 s = some r
    rw [r152]
    rw [if_pos rfl, z2, if_neg (fun q => by have := (nI_leI (by omega) (by omega)).mp q; omega), e3]
    simp only [Option.bind_some]
    rw [if_neg (show ¬ (1 : Int32) = 0 by decide), nI_inc]
    exact hk
theorem r152_end {s0 s : mS} {ts : List Nat} (z : RSt s0 s ts) : ev (fun k => r152 k 0 (nI ts.length) 0 s) s := ev_c fun k => by
  show r152 (k + 1) 0 (nI ts.length) 0 s = some s
  rw [r152]
  rw [if_pos rfl, z.2.1, if_pos (Int32.le_refl _)]
theorem f152_ev {s0 s : mS} {X Y : Nat → Int} {n d b' : Nat} {L R : Nat → Nat} {ts l' : List Nat} (h : RX s0 X Y n d L R) (z : RSt s0 s ts) (hl : ts.length ≤ 77) (hm : ∀ y, y ∈ ts → y < n) (hB : Bn X Y ts) (hb1 : pe X Y b' 41) (hb2 : ∀ q, q < n → pe X Y q 41 → q = b') (hc : cutR b' ts l') : ∃ s', ev (fun k => f152 k s) s' ∧ RSt s0 s' l' := by
  rcases hc with hc | ⟨hc, hno⟩
  · -- the last one goes
    subst hc
    have el : (l' ++ [b']).length = l'.length + 1 := by simp
    rw [el] at hl
    have hb : b' < n := hm b' (by simp)
    obtain ⟨z1, z2, z3⟩ := z
    let s2 := uF 19 (nI l'.length) s
    have zz : RSt s0 s2 l' := ⟨z1.trans (sm_F (by decide) _ s), uF_at 19 _ _, fun i x hx => z3 i x (by rw [List.getElem?_append_left (at_lt hx)]; exact hx)⟩
    -- the way still bends
    have N1 : ∀ i a c b : Nat, i < l'.length → (40 :: (l' ++ [b']))[i]? = some a → (l' ++ [b'])[i]? = some c → ((l' ++ [b']) ++ [41])[i + 1]? = some b → NS X Y a c b := by
      intro i a c b hi ha hc hb
      rcases hB i a c b ha hc hb with ⟨q, _⟩ | q
      · rw [el] at q; omega
      · exact q
    have N2 : ∀ i a c b : Nat, i < l'.length → (40 :: l')[i]? = some a → l'[i]? = some c → (l' ++ [41])[i + 1]? = some b → NS X Y a c b := by
      intro i a c b hi ha hc hb
      have ha' : (40 :: (l' ++ [b']))[i]? = some a := by
        cases i with
        | zero => exact ha
        | succ i =>
          show (l' ++ [b'])[i]? = some a
          rw [List.getElem?_append_left (by omega)]
          exact ha
      have hc' : (l' ++ [b'])[i]? = some c := by rw [List.getElem?_append_left hi]; exact hc
      by_cases k : i + 1 < l'.length
      · rw [List.getElem?_append_left k] at hb
        exact N1 i a c b hi ha' hc' (by rw [List.getElem?_append_left (by rw [el]; omega), List.getElem?_append_left k]; exact hb)
      · rw [List.getElem?_append_right (by omega), show i + 1 - l'.length = 0 by omega] at hb
        have e : 41 = b := by simpa using hb
        rw [← e]
        refine pe_NS3 hb1 (N1 i a c b' hi ha' hc' ?_)
        rw [List.getElem?_append_left (by rw [el]; omega), List.getElem?_append_right (by omega), show i + 1 - l'.length = 0 by omega]
        rfl
    have go2 := r152_go h zz (by omega) (fun y hy => hm y (List.mem_append.mpr (Or.inl hy))) (Nat.le_refl _) N2 (r152_end zz) l'.length 0 (by omega)
    obtain ⟨a, ea⟩ := at_ex (l := 40 :: (l' ++ [b'])) (i := l'.length) (by simp; omega)
    have ec : (l' ++ [b'])[l'.length]? = some b' := by simp
    have eb : ((l' ++ [b']) ++ [41])[l'.length + 1]? = some 41 := by
      rw [List.getElem?_append_right (by rw [el]; omega), el, show l'.length + 1 - (l'.length + 1) = 0 by omega]
      rfl
    have z : RSt s0 s (l' ++ [b']) := ⟨z1, z2, z3⟩
    have ga : gdp n a := by
      have := List.mem_of_getElem? ea
      rcases List.mem_cons.mp this with q | q
      · rw [q]; exact Or.inr (Or.inl rfl)
      · exact Or.inl (hm a q)
    have gb : gdp n b' := Or.inl hb
    have g41 : gdp n 41 := Or.inr (Or.inr rfl)
    have e3 := (f153_eq (h.c z).1 (show l'.length < 100 by omega) (f154_prv z2 z3 (by omega) (by omega) ea) (z3 _ b' ec) (f154_nxt z2 z3 (by omega) (by omega) eb) (ga.lt h.2.1) (gb.lt h.2.1) (g41.lt h.2.1)).2 ((h.bend z ga gb g41).2 hb1)
    have last : ev (fun k => r152 k 0 (nI l'.length) 0 s) s2 := by
      obtain ⟨K, hK⟩ := go2
      refine ⟨K + 2, fun k hk => ?_⟩
      have hk : r152 (k - 2) 0 (nI 0) 0 s2 = some s2 := hK (k - 2) (by omega)
      show r152 k 0 (nI l'.length) 0 s = some s2
      rw [show k = (k - 2) + 1 + 1 by omega]
      rw [r152]
      rw [if_pos rfl, z2, el, if_neg (fun q => by have := (nI_leI (by omega) (by omega)).mp q; omega), e3]
      simp only [Option.bind_some]
      rw [if_pos trivial, r152]
      rw [if_neg (show ¬ (1 : Nat) = 0 by decide), z2, el, nI_1, if_pos (Int32.le_refl _), nI_s1 (by omega)]
      exact hk
    exact ⟨s2, r152_go h z (by omega) hm (by rw [el]; omega) N1 last l'.length 0 (by omega), zz⟩
  · subst hc
    refine ⟨s, r152_go h z hl hm (Nat.le_refl _) (fun i a c b hi ha hc hb => ?_) (r152_end z) l'.length 0 (by omega), z⟩
    rcases hB i a c b ha hc hb with ⟨q1, q2⟩ | q
    · exfalso
      have := hb2 c (hm c (List.mem_of_getElem? hc)) q2
      obtain ⟨m, x, em⟩ := snoc_ex l' (fun e => by rw [e] at hi; simp at hi)
      have ex : x = c := by
        rw [em] at hc q1
        have ei : i = m.length := by simp at q1; omega
        rw [ei] at hc
        simpa using hc
      rw [ex, this] at em
      exact hno m em
    · exact q
