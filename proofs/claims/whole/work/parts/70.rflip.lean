/-! M2: the reference turns edges until all are GOOD -/
theorem f130_eq {a b : Nat} {v : Int32} (ha : a < 40) (hb : b < 40) (hv : vp_nar .boolean v = v) (s : mS) : f130 (nI a) (nI b) v s = some (uA 46 (upd (upd (s.1 46) (40 * a + b) v) (40 * b + a) v) s) := by
  unfold f130
  simp only [idx2, rdI_nI (idx_lt ha hb) (show 1600 < 2 ^ 31 by decide), rdI_nI (idx_lt hb ha) (show 1600 < 2 ^ 31 by decide), nI_clamp (show 40 * a + b < 2 ^ 31 by omega), nI_clamp (show 40 * b + a < 2 ^ 31 by omega), pt, uA_at, hv]
  congr 1
  unfold uA
  ext <;> simp
  split <;> rfl
theorem mark1 {s : mS} {R : Nat → Nat → Prop} {a b : Nat} (h : tb46 s R) (ha : a < 40) (hb : b < 40) : tb46 (uA 46 (upd (upd (s.1 46) (40 * a + b) 1) (40 * b + a) 1) s) (fun x y => R x y ∨ (x = a ∧ y = b) ∨ (x = b ∧ y = a)) := by
  intro x y hx hy
  rw [uA_at]
  unfold upd
  simp only [idx_eq hy ha, idx_eq hy hb]
  obtain ⟨h1, h2⟩ := h x y hx hy
  by_cases c1 : x = b ∧ y = a
  · rw [if_pos c1]; exact ⟨fun _ => rfl, fun k => absurd (Or.inr (Or.inr c1)) k⟩
  · rw [if_neg c1]
    by_cases c2 : x = a ∧ y = b
    · rw [if_pos c2]; exact ⟨fun _ => rfl, fun k => absurd (Or.inr (Or.inl c2)) k⟩
    · rw [if_neg c2]
      refine ⟨fun k => h1 ?_, fun k => h2 fun q => k (Or.inl q)⟩
      rcases k with k | k | k
      · exact k
      · exact absurd k c2
      · exact absurd k c1
theorem mark0 {s : mS} {R : Nat → Nat → Prop} {a b : Nat} (h : tb46 s R) (ha : a < 40) (hb : b < 40) : tb46 (uA 46 (upd (upd (s.1 46) (40 * a + b) 0) (40 * b + a) 0) s) (fun x y => R x y ∧ ¬ (x = a ∧ y = b) ∧ ¬ (x = b ∧ y = a)) := by
  intro x y hx hy
  rw [uA_at]
  unfold upd
  simp only [idx_eq hy ha, idx_eq hy hb]
  obtain ⟨h1, h2⟩ := h x y hx hy
  by_cases c1 : x = b ∧ y = a
  · rw [if_pos c1]; exact ⟨fun k => absurd c1 k.2.2, fun _ => rfl⟩
  · rw [if_neg c1]
    by_cases c2 : x = a ∧ y = b
    · rw [if_pos c2]; exact ⟨fun k => absurd c2 k.2.1, fun _ => rfl⟩
    · rw [if_neg c2]
      exact ⟨fun k => h1 k.1, fun k => h2 fun q => k ⟨q, c2, c1⟩⟩
theorem tb46.congr {s : mS} {R R' : Nat → Nat → Prop} (h : tb46 s R) (e : ∀ x y, R x y ↔ R' x y) : tb46 s R' := fun x y hx hy => ⟨fun k => (h x y hx hy).1 ((e x y).mpr k), fun k => (h x y hx hy).2 fun q => k ((e x y).mp q)⟩
theorem tb46.same {s t : mS} {R : Nat → Nat → Prop} (h : tb46 s R) (e : t.1 46 = s.1 46) : tb46 t R := fun x y hx hy => by rw [e]; exact h x y hx hy
theorem f137_nI {a b : Nat} (ha : a < 2 ^ 31) (hb : b < 2 ^ 31) (s : mS) : f137 (nI a) (nI b) s = some (nI (min a b)) := by
  unfold f137
  by_cases h : b ≤ a
  · rw [if_pos ((nI_leI hb ha).mpr h)]; congr 2; omega
  · rw [if_neg (fun q => h ((nI_leI hb ha).mp q))]; congr 2; omega
/-- a frame that says nothing of the longs -/
def sn (LA LJ LF : List Nat) (s t : mS) : Prop := (∀ j, j ∉ LA → t.1 j = s.1 j) ∧ (∀ j, j ∉ LJ → t.2.1 j = s.2.1 j) ∧ (∀ j, j ∉ LF → t.2.2.1 j = s.2.2.1 j)
theorem sn.refl {LA LJ LF : List Nat} (s : mS) : sn LA LJ LF s s := ⟨fun _ _ => rfl, fun _ _ => rfl, fun _ _ => rfl⟩
theorem sn.trans {LA LJ LF : List Nat} {s t u : mS} (h1 : sn LA LJ LF s t) (h2 : sn LA LJ LF t u) : sn LA LJ LF s u := ⟨fun j hj => (h2.1 j hj).trans (h1.1 j hj), fun j hj => (h2.2.1 j hj).trans (h1.2.1 j hj), fun j hj => (h2.2.2 j hj).trans (h1.2.2 j hj)⟩
theorem sn.mono {LA LJ LF KA KJ KF : List Nat} {s t : mS} (h : sn LA LJ LF s t) (h1 : ∀ j, j ∈ LA → j ∈ KA) (h2 : ∀ j, j ∈ LJ → j ∈ KJ) (h3 : ∀ j, j ∈ LF → j ∈ KF) : sn KA KJ KF s t := ⟨fun j hj => h.1 j fun k => hj (h1 j k), fun j hj => h.2.1 j fun k => hj (h2 j k), fun j hj => h.2.2 j fun k => hj (h3 j k)⟩
theorem sm.n {LA LJ LF LG : List Nat} {s t : mS} (h : sm LA LJ LF LG s t) : sn LA LJ LF s t := ⟨h.1, h.2.1, h.2.2.1⟩
theorem snX {LA LJ LF : List Nat} {s t : mS} (h : sn LA LJ LF s t) (h1 : 43 ∉ LJ) (h2 : 44 ∉ LJ) : Xm t = Xm s ∧ Ym t = Ym s := ⟨funext fun j => by unfold Xm; rw [h.2.1 43 h1], funext fun j => by unfold Ym; rw [h.2.1 44 h2]⟩
theorem sameV.n {s t : mS} (h : sameV s t) : sn [] [] [] s t := ⟨fun j _ => by rw [h.1], fun j _ => by rw [h.2.1], fun j _ => by rw [h.2.2.1]⟩
theorem f131_ev {s : mS} {n a b : Nat} {E : Nat → Nat → Prop} (hP : PM s) (hn : s.2.2.1 15 = nI n) (hn4 : n ≤ 40) (hE : tb46 s E) (hB : Bd (Xm s) (Ym s) n) (hM : Mx (Xm s) (Ym s) n E) (ha : a < n) (hb : b < n) :
    ∃ g t, ev (fun k => f131 k (nI a) (nI b) s) (bI g, t) ∧ sn [46] [] [] s t ∧ ((g = false ∧ tb46 t E ∧ bnd (Xm s) (Ym s) n E a b) ∨ (g = true ∧ ∃ c d, FL (Xm s) (Ym s) n E a b c d ∧ 0 < GH (Xm s) (Ym s) (Ht (Xm s) (Ym s)) a b c d ∧ tb46 t (fl E a b c d))) := by
  obtain ⟨r1, q1, p1⟩ := f132_ev hP hn hn4 hE hM ha hb
  obtain ⟨r2, q2, p2⟩ := f132_ev hP hn hn4 hE hM hb ha
  rcases p1 with ⟨c, hc, e1⟩ | ⟨e1, h1⟩
  · have lc := hc.lt hM
    have n1 : ¬ nI c < 0 := nI_pos (by omega)
    rcases p2 with ⟨d, hd, e2⟩ | ⟨e2, h2⟩
    · have ld := hd.lt hM
      have nc := hc.ne
      have nd := hd.ne
      have n2 : (0 : Int32) ≤ nI d := nI_pos' (by omega)
      obtain ⟨t, f1, f2⟩ := f135_eq hP (show a < 42 by omega) (show b < 42 by omega) (show c < 42 by omega) (show d < 42 by omega)
      have zt : sn [46] [] [] s t := f2.n.mono (by decide) (by decide) (by decide)
      have hEt : tb46 t E := hE.same (by rw [f2.1])
      have ncd : c ≠ d := fun q => by
        have A1 := hc.2.2.2.1
        have A2 := hd.2.2.2.1
        rw [← q] at A2
        have := ar_s (Xm s) (Ym s) a b c
        omega
      -- the flip
      let T1 := upd (upd (t.1 46) (40 * a + b) 0) (40 * b + a) 0
      let t1 := uA 46 T1 t
      let T2 := upd (upd T1 (40 * c + d) 1) (40 * d + c) 1
      let t2 := uA 46 T2 t1
      have g1 : f130 (nI a) (nI b) 0 t = some t1 := f130_eq (by omega) (by omega) nar0 t
      have e46 : t1.1 46 = T1 := uA_at 46 T1 t
      have g2 : f130 (nI c) (nI d) 1 t1 = some t2 := by rw [f130_eq (by omega) (by omega) nar1 t1, e46]
      have z2 : sn [46] [] [] s t2 := zt.trans (((sm_A (LG := []) (by decide) T1 t).trans (sm_A (by decide) T2 t1)).n)
      have hE2 : tb46 t2 (fl E a b c d) := by
        have m1 := mark0 hEt (show a < 40 by omega) (show b < 40 by omega)
        have m2 := mark1 m1 (show c < 40 by omega) (show d < 40 by omega)
        rw [uA_at] at m2
        exact m2.congr fun x y => by
          unfold fl
          constructor
          · rintro (k | k | k)
            · exact Or.inl k
            · exact Or.inr (Or.inl k)
            · exact Or.inr (Or.inr k)
          · rintro (k | k | k)
            · exact Or.inl k
            · exact Or.inr (Or.inl k)
            · exact Or.inr (Or.inr k)
      have gi := gd_iff hB hn4 ha hb lc.2.2 ld.2.2 hc.2.2.2.1 hd.2.2.2.1
      have good : gd (Xm s) (Ym s) a b c d → bnd (Xm s) (Ym s) n E a b := fun k z w hz hw => by
        rw [Tr.uniq hM hz hc, Tr.uniq hM hw hd]
        exact gi.1 k
      have bad : ¬ gd (Xm s) (Ym s) a b c d → FL (Xm s) (Ym s) n E a b c d ∧ 0 < GH (Xm s) (Ym s) (Ht (Xm s) (Ym s)) a b c d := fun k => by
        obtain ⟨k1, k2, k3⟩ := gi.2 k
        exact ⟨⟨hc, hd, k2, k3⟩, k1⟩
      have base : ∀ k, f132 k (nI a) (nI b) s = some (nI c) → f132 k (nI b) (nI a) s = some (nI d) → f131 k (nI a) (nI b) s = if inc (Xm s) (Ym s) a b c d < 0 then some (0, t) else if ¬ inc (Xm s) (Ym s) a b c d = 0 then some (1, t2) else if min (min a b) (min c d) = a then some (0, t) else if ¬ min (min a b) (min c d) = b then some (1, t2) else some (0, t) := by
        intro k hk1 hk2
        unfold f131
        rw [hk1, hk2]
        simp only [Option.bind_some]
        rw [if_neg n1, if_pos n2, f1]
        simp only [Option.bind_some, f137_nI (show a < 2 ^ 31 by omega) (show b < 2 ^ 31 by omega), f137_nI (show c < 2 ^ 31 by omega) (show d < 2 ^ 31 by omega), f137_nI (show min a b < 2 ^ 31 by omega) (show min c d < 2 ^ 31 by omega), sgn_lt, sgn_zero, nI_eq (show min (min a b) (min c d) < 2 ^ 31 by omega) (show a < 2 ^ 31 by omega), nI_eq (show min (min a b) (min c d) < 2 ^ 31 by omega) (show b < 2 ^ 31 by omega), g1, g2]
      have yes : (gd (Xm s) (Ym s) a b c d) → (∀ k, f132 k (nI a) (nI b) s = some (nI c) → f132 k (nI b) (nI a) s = some (nI d) → f131 k (nI a) (nI b) s = some (0, t)) → ∃ g t, ev (fun k => f131 k (nI a) (nI b) s) (bI g, t) ∧ sn [46] [] [] s t ∧ ((g = false ∧ tb46 t E ∧ bnd (Xm s) (Ym s) n E a b) ∨ (g = true ∧ ∃ c d, FL (Xm s) (Ym s) n E a b c d ∧ 0 < GH (Xm s) (Ym s) (Ht (Xm s) (Ym s)) a b c d ∧ tb46 t (fl E a b c d))) := by
        intro hg hf
        refine ⟨false, t, evm2 q1 q2 fun k hk1 hk2 => ?_, zt, Or.inl ⟨rfl, hEt, good hg⟩⟩
        rw [e1] at hk1
        rw [e2] at hk2
        exact hf k hk1 hk2
      have no : (¬ gd (Xm s) (Ym s) a b c d) → (∀ k, f132 k (nI a) (nI b) s = some (nI c) → f132 k (nI b) (nI a) s = some (nI d) → f131 k (nI a) (nI b) s = some (1, t2)) → ∃ g t, ev (fun k => f131 k (nI a) (nI b) s) (bI g, t) ∧ sn [46] [] [] s t ∧ ((g = false ∧ tb46 t E ∧ bnd (Xm s) (Ym s) n E a b) ∨ (g = true ∧ ∃ c d, FL (Xm s) (Ym s) n E a b c d ∧ 0 < GH (Xm s) (Ym s) (Ht (Xm s) (Ym s)) a b c d ∧ tb46 t (fl E a b c d))) := by
        intro hg hf
        obtain ⟨b1, b2⟩ := bad hg
        refine ⟨true, t2, evm2 q1 q2 fun k hk1 hk2 => ?_, z2, Or.inr ⟨rfl, c, d, b1, b2, hE2⟩⟩
        rw [e1] at hk1
        rw [e2] at hk2
        exact hf k hk1 hk2
      by_cases i1 : inc (Xm s) (Ym s) a b c d < 0
      · exact yes (Or.inl i1) fun k hk1 hk2 => by rw [base k hk1 hk2, if_pos i1]
      · by_cases i2 : inc (Xm s) (Ym s) a b c d = 0
        · by_cases i3 : min a b < min c d
          · refine yes (Or.inr ⟨i2, i3⟩) fun k hk1 hk2 => ?_
            rw [base k hk1 hk2, if_neg i1, if_neg (fun q => q i2)]
            by_cases i4 : min (min a b) (min c d) = a
            · rw [if_pos i4]
            · rw [if_neg i4, if_neg (fun q => q (by omega))]
          · refine no (fun q => by rcases q with q | q <;> omega) fun k hk1 hk2 => ?_
            rw [base k hk1 hk2, if_neg i1, if_neg (fun q => q i2), if_neg (by omega), if_pos (by omega)]
        · exact no (fun q => by rcases q with q | q <;> omega) fun k hk1 hk2 => by rw [base k hk1 hk2, if_neg i1, if_pos i2]
    · refine ⟨false, s, evm2 q1 q2 fun k hk1 hk2 => ?_, sn.refl s, Or.inl ⟨rfl, hE, fun z w _ hw => absurd ⟨w, hw⟩ h2⟩⟩
      show f131 k (nI a) (nI b) s = _
      have hk1 : f132 k (nI a) (nI b) s = some r1 := hk1
      have hk2 : f132 k (nI b) (nI a) s = some r2 := hk2
      unfold f131
      rw [hk1, hk2, e1, e2]
      simp only [Option.bind_some]
      rw [if_neg n1, if_neg (by decide)]
      rfl
  · refine ⟨false, s, evm2 q1 q2 fun k hk1 hk2 => ?_, sn.refl s, Or.inl ⟨rfl, hE, fun z w hz _ => absurd ⟨z, hz⟩ h1⟩⟩
    show f131 k (nI a) (nI b) s = _
    have hk1 : f132 k (nI a) (nI b) s = some r1 := hk1
    have hk2 : f132 k (nI b) (nI a) s = some r2 := hk2
    unfold f131
    rw [hk1, hk2, e1]
    simp only [Option.bind_some]
    rw [if_pos (by decide)]
    rfl
/-- what the reference's mesh ends in -/
def FIN (s t : mS) (n : Nat) (X Y : Nat → Int) (lk : Nat → Nat → Prop) : Prop := sn [46, 47] [] [17] s t ∧ ∃ E L, tb46 t E ∧ Mx X Y n E ∧ (∀ x y, lk x y → E x y) ∧ (∀ x y, ¬ lk x y → bnd X Y n E x y) ∧ NL X Y n E 1600 L ∧ LM t n E L
theorem FIN.pre {s u t : mS} {n : Nat} {X Y : Nat → Int} {lk : Nat → Nat → Prop} (h : FIN u t n X Y lk) (h1 : sn [46, 47] [] [17] s u) : FIN s t n X Y lk := ⟨h1.trans h.1, h.2⟩
theorem more_ev {n : Nat} {X Y : Nat → Int} {lk : Nat → Nat → Prop} (hn4 : n ≤ 40) (hD : Dst X Y n) (hB : Bd X Y n) (hls : ∀ x y, lk x y → lk y x) : ∀ m s E, PM s → Xm s = X → Ym s = Y → s.2.2.1 15 = nI n → s.2.2.1 17 = nI 0 → tb46 s E → tb45 s lk → Mx X Y n E → (∀ x y, lk x y → E x y) → lwn X Y (Ht X Y) n E ≤ m → ∃ t, ev (fun k => r128 k 3 1 0 0 0 s) t ∧ FIN s t n X Y lk := by
  intro m
  induction m using Nat.strongRecOn with
  | _ m IH =>
    intro s0 E0 hP0 hX0 hY0 hn0 h170 hE0 hl0 hM0 hlE0 hm0
    -- a pass, from the place a, b on; w tells whether an edge was turned
    have pass : ∀ d a, a + d = n → ∀ (w : Bool) s E, PM s → Xm s = X → Ym s = Y → s.2.2.1 15 = nI n → s.2.2.1 17 = nI 0 → tb46 s E → tb45 s lk → Mx X Y n E → (∀ x y, lk x y → E x y) → (w = true → lwn X Y (Ht X Y) n E < m) → (w = false → lwn X Y (Ht X Y) n E ≤ m ∧ ∀ x y, y < x → x < a → ¬ lk x y → bnd X Y n E x y) → ∃ t, ev (fun k => r128 k 4 (bI w) (nI a) 0 0 s) t ∧ FIN s t n X Y lk := by
      intro d
      induction d with
      | zero =>
        intro a ha w s E hP hX hY hn h17 hE hl hM hlE hw1 hw0
        cases w with
        | true =>
          obtain ⟨t, g1, g2⟩ := IH (lwn X Y (Ht X Y) n E) (hw1 rfl) s E hP hX hY hn h17 hE hl hM hlE (Nat.le_refl _)
          refine ⟨t, ev1 g1 fun k hk => ?_, g2⟩
          show r128 (k + 1) _ _ _ _ _ _ = _
          simp only [r128]
          rw [if_neg (by decide), if_neg (by decide), if_neg (by decide), if_neg (by decide), if_pos trivial, hn, if_pos ((nI_leI (by omega) (by omega)).mpr (by omega))]
          exact hk
        | false =>
          have hb := (hw0 rfl).2
          obtain ⟨t, L, g1, g2, g3, g4⟩ := lst_ev hD hB hM hn4 0 n 0 (by omega) s [] hP hX hY hn hE ⟨List.Pairwise.nil, fun c => ⟨fun k => absurd k List.not_mem_nil, fun k => by omega⟩⟩ ⟨h17, fun i c z hi => by simp at hi⟩
          have g6 : ev (fun k => r128 k 3 0 0 0 0 s) t := ev1 g1 fun k hk => by
            show r128 (k + 1) _ _ _ _ _ _ = _
            simp only [r128]
            rw [if_neg (by decide), if_neg (by decide), if_neg (by decide), if_pos trivial, if_pos trivial]
            exact hk
          refine ⟨t, ev1 g6 fun k hk => ?_, g2.n.mono (by decide) (by decide) (by decide), E, L, hE.same (g2.1 46 (by decide)), hM, hlE, fun x y k => ?_, g3, g4⟩
          · show r128 (k + 1) _ _ _ _ _ _ = _
            simp only [r128]
            rw [if_neg (by decide), if_neg (by decide), if_neg (by decide), if_neg (by decide), if_pos trivial, hn, if_pos ((nI_leI (by omega) (by omega)).mpr (by omega))]
            exact hk
          · by_cases hh : bnd X Y n E x y
            · exact hh
            · have hx := bnd_lt hM hh
              rcases Nat.lt_or_gt_of_ne hx.2.2 with q | q
              · exact bnd_sym (hb y x q (by omega) fun k2 => k (hls y x k2))
              · exact hb x y q (by omega) k
      | succ d ihd =>
        intro a ha w s E hP hX hY hn h17 hE hl hM hlE hw1 hw0
        have row : ∀ e b, b + e = a → ∀ (w : Bool) s E, PM s → Xm s = X → Ym s = Y → s.2.2.1 15 = nI n → s.2.2.1 17 = nI 0 → tb46 s E → tb45 s lk → Mx X Y n E → (∀ x y, lk x y → E x y) → (w = true → lwn X Y (Ht X Y) n E < m) → (w = false → lwn X Y (Ht X Y) n E ≤ m ∧ ∀ x y, y < x → (x < a ∨ (x = a ∧ y < b)) → ¬ lk x y → bnd X Y n E x y) → ∃ t, ev (fun k => r128 k 5 (bI w) (nI a) (nI b) 0 s) t ∧ FIN s t n X Y lk := by
          intro e
          induction e with
          | zero =>
            intro b hb w s E hP hX hY hn h17 hE hl hM hlE hw1 hw0
            obtain ⟨t, g1, g2⟩ := ihd (a + 1) (by omega) w s E hP hX hY hn h17 hE hl hM hlE hw1 (fun k => ⟨(hw0 k).1, fun x y h1 h2 => (hw0 k).2 x y h1 (by omega)⟩)
            refine ⟨t, ev1 g1 fun k hk => ?_, g2⟩
            show r128 (k + 1) _ _ _ _ _ _ = _
            simp only [r128]
            rw [if_neg (by decide), if_neg (by decide), if_neg (by decide), if_neg (by decide), if_neg (by decide), if_pos trivial, if_pos ((nI_leI (by omega) (by omega)).mpr (by omega)), nI_inc]
            exact hk
          | succ e ihe =>
            intro b hb w s E hP hX hY hn h17 hE hl hM hlE hw1 hw0
            have hE46 := hE.ne (show a < 40 by omega) (show b < 40 by omega)
            have hl45 := hl.ne (show a < 40 by omega) (show b < 40 by omega)
            have base : ∀ k, r128 (k + 1) 5 (bI w) (nI a) (nI b) 0 s = (if s.1 46 (40 * a + b) = 0 then r128 k 5 (bI w) (nI a) (nI (b + 1)) 0 s else if ¬ s.1 45 (40 * a + b) = 0 then r128 k 5 (bI w) (nI a) (nI (b + 1)) 0 s else (f131 k (nI a) (nI b) s).bind fun q6 => (if (q6.1 = (0 : Int32)) then r128 k 5 (bI w) (nI a) (nI (b + 1)) 0 q6.2 else r128 k 5 1 (nI a) (nI (b + 1)) 0 q6.2)) := by
              intro k
              simp only [r128]
              rw [if_neg (by decide), if_neg (by decide), if_neg (by decide), if_neg (by decide), if_neg (by decide), if_pos trivial, if_neg (fun q => by have := (nI_leI (by omega) (by omega)).mp q; omega), idx2, rdI_nI (by omega) (by decide), nI_clamp (by omega), rdI_nI (by omega) (by decide), nI_inc]
            have skip : (¬ lk a b → bnd X Y n E a b) → (∀ k, r128 (k + 1) 5 (bI w) (nI a) (nI b) 0 s = r128 k 5 (bI w) (nI a) (nI (b + 1)) 0 s) → ∃ t, ev (fun k => r128 k 5 (bI w) (nI a) (nI b) 0 s) t ∧ FIN s t n X Y lk := by
              intro hbn hs
              obtain ⟨t, g1, g2⟩ := ihe (b + 1) (by omega) w s E hP hX hY hn h17 hE hl hM hlE hw1 (fun k => ⟨(hw0 k).1, fun x y h1 h2 h3 => by
                by_cases q : x = a ∧ y = b
                · rw [q.1, q.2] at h3 ⊢; exact hbn h3
                · exact (hw0 k).2 x y h1 (by omega) h3⟩)
              exact ⟨t, ev1 g1 fun k hk => by show r128 (k + 1) _ _ _ _ _ _ = _; rw [hs]; exact hk, g2⟩
            by_cases c1 : s.1 46 (40 * a + b) = 0
            · exact skip (fun _ z w hz _ => absurd c1 (hE46.mpr hz.1)) fun k => by rw [base, if_pos c1]
            · by_cases c2 : s.1 45 (40 * a + b) = 0
              · have nl : ¬ lk a b := fun q => absurd c2 (hl45.mpr q)
                obtain ⟨g, t1, f1, f2, f3⟩ := f131_ev hP hn hn4 hE (by rw [hX, hY]; exact hB) (by rw [hX, hY]; exact hM) (show a < n by omega) (show b < n by omega)
                rw [hX, hY] at f3
                have XY := snX f2 (by decide) (by decide)
                have hP1 : PM t1 := fun j hj => by rw [XY.1, XY.2]; exact hP j hj
                have hX1 : Xm t1 = X := XY.1.trans hX
                have hY1 : Ym t1 = Y := XY.2.trans hY
                have hn1 : t1.2.2.1 15 = nI n := by rw [f2.2.2 15 (by decide)]; exact hn
                have h171 : t1.2.2.1 17 = nI 0 := by rw [f2.2.2 17 (by decide)]; exact h17
                have hl1 : tb45 t1 lk := fun x y hx hy => by rw [f2.1 45 (by decide)]; exact hl x y hx hy
                have pre : sn [46, 47] [] [17] s t1 := f2.mono (by decide) (by decide) (by decide)
                rcases f3 with ⟨eg, hE1, hbn⟩ | ⟨eg, c, d, hF, hG, hE1⟩
                · obtain ⟨t, g1, g2⟩ := ihe (b + 1) (by omega) w t1 E hP1 hX1 hY1 hn1 h171 hE1 hl1 hM hlE hw1 (fun k => ⟨(hw0 k).1, fun x y h1 h2 h3 => by
                    by_cases q : x = a ∧ y = b
                    · rw [q.1, q.2]; exact hbn
                    · exact (hw0 k).2 x y h1 (by omega) h3⟩)
                  refine ⟨t, ev2 f1 g1 fun k hk1 hk2 => ?_, g2.pre pre⟩
                  show r128 (k + 1) _ _ _ _ _ _ = _
                  rw [base, if_neg c1, if_neg (fun q => q c2), hk1, eg]
                  exact hk2
                · have hlt := lwn_flip hM hF hG
                  have hle : lwn X Y (Ht X Y) n E ≤ m := by
                    cases w with
                    | true => have := hw1 rfl; omega
                    | false => exact (hw0 rfl).1
                  obtain ⟨t, g1, g2⟩ := ihe (b + 1) (by omega) true t1 (fl E a b c d) hP1 hX1 hY1 hn1 h171 hE1 hl1 (fl_Mx hD hM hF) (fun x y k => Or.inl ⟨hlE x y k, fun q => nl (by rw [q.1, q.2] at k; exact k), fun q => nl (by rw [q.1, q.2] at k; exact hls b a k)⟩) (fun _ => by omega) (fun k => by cases k)
                  refine ⟨t, ev2 f1 g1 fun k hk1 hk2 => ?_, g2.pre pre⟩
                  show r128 (k + 1) _ _ _ _ _ _ = _
                  rw [base, if_neg c1, if_neg (fun q => q c2), hk1, eg]
                  exact hk2
              · exact skip (fun k => absurd (hl45.mp c2) k) fun k => by rw [base, if_neg c1, if_pos c2]
        obtain ⟨t, g1, g2⟩ := row a 0 (by omega) w s E hP hX hY hn h17 hE hl hM hlE hw1 (fun k => ⟨(hw0 k).1, fun x y h1 h2 h3 => (hw0 k).2 x y h1 (by omega) h3⟩)
        refine ⟨t, ev1 g1 fun k hk => ?_, g2⟩
        show r128 (k + 1) _ _ _ _ _ _ = _
        simp only [r128]
        rw [if_neg (by decide), if_neg (by decide), if_neg (by decide), if_neg (by decide), if_pos trivial, hn, if_neg (fun q => by have := (nI_leI (by omega) (by omega)).mp q; omega)]
        exact hk
    obtain ⟨t, g1, g2⟩ := pass n 0 (by omega) false s0 E0 hP0 hX0 hY0 hn0 h170 hE0 hl0 hM0 hlE0 (fun k => by cases k) (fun _ => ⟨hm0, fun x y _ h => by omega⟩)
    refine ⟨t, ev1 g1 fun k hk => ?_, g2⟩
    show r128 (k + 1) _ _ _ _ _ _ = _
    simp only [r128]
    rw [if_neg (by decide), if_neg (by decide), if_neg (by decide), if_pos trivial, if_neg (by decide)]
    exact hk
