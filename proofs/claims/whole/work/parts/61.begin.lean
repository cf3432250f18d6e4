/-! M2: the first triangles; in which triangle a place lies -/
theorem f74_eq {s : mS} (hP : P42 s) {a b : Nat} (ha : a < 42) (hb : b < 42) : f74 (nI a) (nI b) s = some (bI (decide (Lx (Xc s) (Yc s) a < Lx (Xc s) (Yc s) b))) := by
  unfold f74
  simp only [rdI_nI ha (by decide), rdI_nI hb (by decide), nI_clamp (show a < 2 ^ 31 by omega), nI_clamp (show b < 2 ^ 31 by omega), Int32.lt_iff_toInt_lt, Int32.le_iff_toInt_le]
  have k1 : (s.1 18 a).toInt = Xc s a := rfl
  have k2 : (s.1 18 b).toInt = Xc s b := rfl
  have k3 : (s.1 19 a).toInt = Yc s a := rfl
  have k4 : (s.1 19 b).toInt = Yc s b := rfl
  rw [k1, k2, k3, k4]
  obtain ⟨b1, b2⟩ := hP a ha
  obtain ⟨b3, b4⟩ := hP b hb
  unfold Lx
  by_cases h1 : Xc s a < Xc s b
  · rw [if_pos h1, decide_eq_true (by omega)]; rfl
  · rw [if_neg h1]
    by_cases h2 : s.1 18 a = s.1 18 b
    · rw [if_neg (fun q => q h2)]
      have h2 := Xeq.mp h2
      by_cases h3 : Yc s b ≤ Yc s a
      · rw [if_pos h3, decide_eq_false (by omega)]; rfl
      · rw [if_neg h3, decide_eq_true (by omega)]; rfl
    · rw [if_pos h2]
      have h2 : ¬ Xc s a = Xc s b := fun q => h2 (Xeq.mpr q)
      rw [decide_eq_false (by omega)]; rfl
def Bst (X Y : Nat → Int) (a u : Nat) (r : Int32) : Prop := (r = -1 ∧ ∀ w, w < u → ¬ Lx X Y a < Lx X Y w) ∨ (∃ b, b < u ∧ r = nI b ∧ Lx X Y a < Lx X Y b ∧ ∀ w, w < u → Lx X Y a < Lx X Y w → Lx X Y b ≤ Lx X Y w)
theorem r22_ev {s : mS} {n a : Nat} (hP : P42 s) (hn : n ≤ 40) (ha : a < 42) : ∀ d v c, v + d = n → Bst (Xc s) (Yc s) a v c → ∃ r, ev (fun k => r22 k (nI a) (nI n) c (nI v) s) r ∧ Bst (Xc s) (Yc s) a n r := by
  intro d
  induction d with
  | zero =>
    intro v c hv hc
    have : v = n := by omega
    subst this
    refine ⟨c, ev_c fun k => ?_, hc⟩
    simp only [r22]
    rw [if_pos ((nI_leI (by omega) (by omega)).mpr (by omega))]
  | succ d ih =>
    intro v c hv hc
    have go : ∀ c', Bst (Xc s) (Yc s) a (v + 1) c' → (∀ k, r22 (k + 1) (nI a) (nI n) c (nI v) s = r22 k (nI a) (nI n) c' (nI (v + 1)) s) → ∃ r, ev (fun k => r22 k (nI a) (nI n) c (nI v) s) r ∧ Bst (Xc s) (Yc s) a n r := by
      intro c' hc' hs
      obtain ⟨r, g1, g2⟩ := ih (v + 1) c' (by omega) hc'
      refine ⟨r, ev1 g1 fun k hk => ?_, g2⟩
      show r22 (k + 1) _ _ _ _ _ = _
      rw [hs]; exact hk
    have st : ∀ k, r22 (k + 1) (nI a) (nI n) c (nI v) s = (if decide (Lx (Xc s) (Yc s) a < Lx (Xc s) (Yc s) v) = false then r22 k (nI a) (nI n) c (nI (v + 1)) s else if c = -1 then r22 k (nI a) (nI n) (nI v) (nI (v + 1)) s else (f74 (nI v) c s).bind fun q6 => if q6 = 0 then r22 k (nI a) (nI n) c (nI (v + 1)) s else r22 k (nI a) (nI n) (nI v) (nI (v + 1)) s) := by
      intro k
      simp only [r22]
      rw [if_neg (fun q => by have := (nI_leI (by omega) (by omega)).mp q; omega), f74_eq hP ha (by omega), nI_inc]
      simp only [Option.bind_some, bI_0]
    by_cases hb : Lx (Xc s) (Yc s) a < Lx (Xc s) (Yc s) v
    · rcases hc with ⟨h1, h2⟩ | ⟨b, h1, h2, h3, h4⟩
      · refine go (nI v) (Or.inr ⟨v, by omega, rfl, hb, fun w hw hl => ?_⟩) fun k => ?_
        · by_cases e : w = v
          · rw [e]; omega
          · exact absurd hl (h2 w (by omega))
        · rw [st, decide_eq_true hb, if_neg (by decide), if_pos h1]
      · have q : f74 (nI v) c s = some (bI (decide (Lx (Xc s) (Yc s) v < Lx (Xc s) (Yc s) b))) := by rw [h2]; exact f74_eq hP (by omega) (by omega)
        by_cases hl : Lx (Xc s) (Yc s) v < Lx (Xc s) (Yc s) b
        · refine go (nI v) (Or.inr ⟨v, by omega, rfl, hb, fun w hw hw2 => ?_⟩) fun k => ?_
          · by_cases e : w = v
            · rw [e]; omega
            · have := h4 w (by omega) hw2; omega
          · rw [st, decide_eq_true hb, if_neg (by decide), if_neg (by rw [h2]; exact nI_m1 (by omega)), q, decide_eq_true hl]
            rfl
        · refine go c (Or.inr ⟨b, by omega, h2, h3, fun w hw hw2 => ?_⟩) fun k => ?_
          · by_cases e : w = v
            · rw [e]; omega
            · exact h4 w (by omega) hw2
          · rw [st, decide_eq_true hb, if_neg (by decide), if_neg (by rw [h2]; exact nI_m1 (by omega)), q, decide_eq_false hl]
            rfl
    · refine go c ?_ fun k => ?_
      · rcases hc with ⟨h1, h2⟩ | ⟨b, h1, h2, h3, h4⟩
        · refine Or.inl ⟨h1, fun w hw => ?_⟩
          by_cases e : w = v
          · rw [e]; exact hb
          · exact h2 w (by omega)
        · refine Or.inr ⟨b, by omega, h2, h3, fun w hw hw2 => ?_⟩
          by_cases e : w = v
          · rw [e] at hw2; exact absurd hw2 hb
          · exact h4 w (by omega) hw2
      · rw [st, decide_eq_false hb, if_pos rfl]
/-- all on one line -/
def flat (X Y : Nat → Int) (n : Nat) : Prop := ∀ x y z, x < n → y < n → z < n → (ar X Y x y z) = 0
theorem flat_no {X Y : Nat → Int} {n : Nat} {E : Nat → Nat → Prop} (h : flat X Y n) (hM : Mx X Y n E) {a b c : Nat} : ¬ Tr X Y n E a b c := fun k => by
  have l := k.lt hM
  have := h a b c l.1 l.2.1 l.2.2
  have := k.2.2.2.1
  omega
theorem flat_E {X Y : Nat → Int} {n : Nat} {E : Nat → Nat → Prop} (hD : Dst X Y n) (hB : Bd X Y n) (h : flat X Y n) (hM : Mx X Y n E) {a b : Nat} (ha : a < n) (hb : b < n) (hl : Lx X Y a < Lx X Y b) : E a b ↔ ∀ w, w < n → Lx X Y a < Lx X Y w → Lx X Y b ≤ Lx X Y w := by
  have hk := Lx_inj hD hB
  have nab : a ≠ b := fun e => by rw [e] at hl; omega
  constructor
  · intro hE w hw hlw
    refine Decidable.byContradiction fun k => ?_
    have nwa : w ≠ a := fun e => by rw [e] at hlw; omega
    have nwb : w ≠ b := fun e => by rw [e] at k; omega
    refine hM.2.1 a b hE w hw nwa nwb (oS_of (aff_L X Y 0) (h a b w ha hb hw) ?_ ?_ ?_)
    · show Lx X Y a - 0 ≤ Lx X Y w - 0; omega
    · show Lx X Y w - 0 ≤ Lx X Y b - 0; omega
    · show Lx X Y a - 0 < Lx X Y b - 0; omega
  · intro hm
    refine hM.2.2.2 a b ha hb nab (fun w hw nwa nwb hon => ?_) (fun c d hcd hx => ?_)
    · obtain ⟨w1, w2⟩ := oS_ws hon (hD.nq ha hb nab) (hD.nq ha hw (Ne.symm nwa)) (hD.nq hb hw (Ne.symm nwb))
      have hs := sq_pos (hD.nq ha hb nab)
      have ws := w_sum X Y a b w
      have e : sq X Y a b * (Lx X Y w - Lx X Y a) = wa X Y a b w * (Lx X Y a - Lx X Y a) + wb X Y a b w * (Lx X Y b - Lx X Y a) := w_aff (aff_L X Y (Lx X Y a)) hon.1
      have e2 : sq X Y a b * (Lx X Y w - Lx X Y b) = wa X Y a b w * (Lx X Y a - Lx X Y b) + wb X Y a b w * (Lx X Y b - Lx X Y b) := w_aff (aff_L X Y (Lx X Y b)) hon.1
      rw [Int.sub_self, Int.mul_zero, Int.zero_add] at e
      rw [Int.sub_self, Int.mul_zero, Int.add_zero] at e2
      have l1 : 0 < Lx X Y w - Lx X Y a := cpos hs (by rw [e]; exact mpp w2 (by omega))
      have l2 : Lx X Y w - Lx X Y b < 0 := cneg hs (by rw [e2]; exact mpn w1 (by omega))
      have := hm w hw (by omega)
      omega
    · have := hM.1 c d hcd
      have k := hx.1
      rw [h a b c ha hb this.1, Int.zero_mul] at k
      omega
theorem r21_ev {s0 : mS} {n : Nat} {E : Nat → Nat → Prop} (hP : P42 s0) (hn : n < 40) (hD : Dst (Xc s0) (Yc s0) (n + 1)) (hM : Mx (Xc s0) (Yc s0) n E) (hfl : flat (Xc s0) (Yc s0) n) (h2 : 2 ≤ n) (h01 : ar (Xc s0) (Yc s0) 0 1 n ≠ 0) :
    ∀ d v, v + d = n → ∀ s K, gf s0 s → TP s K → SU s [] → (∀ x y z, K x y z → Tr (Xc s0) (Yc s0) (n + 1) (insE (Xc s0) (Yc s0) n E) x y z) → (∀ x y z, K x y z → K y z x) →
    ∃ t K', ev (fun k => r21 k (nI n) (nI v) s) t ∧ gf s0 t ∧ TP t K' ∧ SU t [] ∧ (∀ x y z, K' x y z → Tr (Xc s0) (Yc s0) (n + 1) (insE (Xc s0) (Yc s0) n E) x y z) ∧ (∀ x y z, K' x y z → K' y z x) ∧ (∀ x y z, K x y z → K' x y z) ∧
      (∀ x y, Tr (Xc s0) (Yc s0) (n + 1) (insE (Xc s0) (Yc s0) n E) x y n → ((Lx (Xc s0) (Yc s0) x < Lx (Xc s0) (Yc s0) y ∧ v ≤ x) ∨ (Lx (Xc s0) (Yc s0) y < Lx (Xc s0) (Yc s0) x ∧ v ≤ y)) → K' x y n) := by
  have hD' := hD.le (show n ≤ n + 1 by omega)
  have hB : Bd (Xc s0) (Yc s0) n := hP.Bd (by omega)
  have hM2 := ins_Mx hD hM
  have hk := Lx_inj hD' hB
  have at' : ∀ {x y : Nat}, x ≠ n → y ≠ n → (Tr (Xc s0) (Yc s0) (n + 1) (insE (Xc s0) (Yc s0) n E) x y n ↔ E x y ∧ 0 < ar (Xc s0) (Yc s0) x y n) := by
    intro x y hx hy
    rw [at_out hD hM hx hy (fun a b c h => absurd h (flat_no hfl hM))]
    exact ⟨fun h => ⟨h.1, h.2.1⟩, fun h => ⟨h.1, h.2, fun ⟨w, hw⟩ => flat_no hfl hM hw⟩⟩
  intro d
  induction d with
  | zero =>
    intro v hv s K g1 g2 g3 g4 g5
    refine ⟨s, K, ev_c fun k => ?_, g1, g2, g3, g4, g5, fun _ _ _ h => h, fun x y h1 h2 => ?_⟩
    · simp only [r21]
      rw [if_pos ((nI_leI (by omega) (by omega)).mpr (by omega))]
    · have ne := h1.ne
      have l := h1.lt hM2
      rcases h2 with h | h <;> omega
  | succ d ih =>
    intro v hv s K g1 g2 g3 g4 g5
    have XY : Xc s = Xc s0 ∧ Yc s = Yc s0 := ⟨g1.z.X, g1.z.Y⟩
    have hPs := g1.z.P hP
    obtain ⟨r, q1, q2⟩ := r22_ev (s := s) (a := v) hPs (show n ≤ 40 by omega) (by omega) n 0 (-1) (by omega) (Or.inl ⟨rfl, fun w hw => by omega⟩)
    rw [XY.1, XY.2] at q2
    have q1' : ev (fun k => f22 k (nI v) (nI n) s) r := q1
    rcases q2 with ⟨e1, e2⟩ | ⟨b, hb, e1, e2, e3⟩
    · obtain ⟨t, K', f1, f2, f3, f4, f5, f6, f7, f8⟩ := ih (v + 1) (by omega) s K g1 g2 g3 g4 g5
      refine ⟨t, K', ev2 q1' f1 fun k hk1 hk2 => ?_, f2, f3, f4, f5, f6, f7, fun x y h1 h2 => f8 x y h1 ?_⟩
      · show r21 (k + 1) _ _ _ = _
        simp only [r21]
        rw [if_neg (fun q => by have := (nI_leI (by omega) (by omega)).mp q; omega), hk1]
        simp only [Option.bind_some]
        rw [if_pos e1, nI_inc]
        exact hk2
      · have ne := h1.ne
        have l := h1.lt hM2
        rcases h2 with ⟨k1, k2⟩ | ⟨k1, k2⟩
        · by_cases e : x = v
          · exact absurd (by rw [e] at k1; exact k1) (e2 y (by omega))
          · exact Or.inl ⟨k1, by omega⟩
        · by_cases e : y = v
          · exact absurd (by rw [e] at k1; exact k1) (e2 x (by omega))
          · exact Or.inr ⟨k1, by omega⟩
    · have hE : E v b := (flat_E hD' hB hfl hM (by omega) hb e2).mpr e3
      have hEb := (hM.1 v b hE).2.2.2
      have nz : ar (Xc s0) (Yc s0) v b n ≠ 0 := fun z => h01 (col (hD'.nq (show v < n by omega) hb (hM.1 v b hE).2.2.1) (hfl v b 0 (by omega) hb (by omega)) (hfl v b 1 (by omega) hb (by omega)) z)
      have nvb := (hM.1 v b hE).2.2.1
      -- the triangle that comes in
      obtain ⟨p, q, hT, hpq, hf⟩ : ∃ p q, Tr (Xc s0) (Yc s0) (n + 1) (insE (Xc s0) (Yc s0) n E) p q n ∧ ((p = v ∧ q = b) ∨ (p = b ∧ q = v)) ∧ f23 (nI v) (nI b) (nI n) s = (f49 (nI p) (nI q) (nI n) s).bind fun q => some q := by
        have e := ar_s (Xc s0) (Yc s0) b v n
        by_cases hp : 0 < ar (Xc s0) (Yc s0) v b n
        · refine ⟨v, b, (at' (by omega) (by omega)).mpr ⟨hE, hp⟩, Or.inl ⟨rfl, rfl⟩, ?_⟩
          unfold f23
          rw [f73_eq hPs (by omega) (by omega) (by omega), XY.1, XY.2]
          simp only [Option.bind_some]
          rw [if_neg (fun q => by have := (sgn_le _).mp q; omega)]
        · refine ⟨b, v, (at' (by omega) (by omega)).mpr ⟨hEb, by omega⟩, Or.inr ⟨rfl, rfl⟩, ?_⟩
          unfold f23
          rw [f73_eq hPs (by omega) (by omega) (by omega), XY.1, XY.2]
          simp only [Option.bind_some]
          rw [if_pos ((sgn_le _).mpr (by omega))]
      have hp4 : p < 40 := by omega
      have hq4 : q < 40 := by omega
      rw [f49_eq hp4 hq4 hn] at hf
      have hK2 := TP_add hM2 g2 g4 hp4 hq4 hn hT
      obtain ⟨t, K', f1, f2, f3, f4, f5, f6, f7, f8⟩ := ih (v + 1) (by omega) (uA 24 (th3 (s.1 24) p q n (nI n) (nI p) (nI q)) s) _ (g1.trans (gf_24 _ s)) hK2 (g3.same rfl rfl rfl) (fun x y z k => by
        rcases k with k | k
        · exact rt_Tr hT k
        · exact g4 x y z k) (fun x y z k => by
        rcases k with k | k
        · exact Or.inl (rt_rot k)
        · exact Or.inr (g5 x y z k))
      refine ⟨t, K', ev2 q1' f1 fun k hk1 hk2 => ?_, f2, f3, f4, f5, f6, fun x y z k => f7 x y z (Or.inr k), fun x y h1 h2 => ?_⟩
      · show r21 (k + 1) _ _ _ = _
        simp only [r21]
        rw [if_neg (fun q => by have := (nI_leI (by omega) (by omega)).mp q; omega), hk1]
        simp only [Option.bind_some]
        rw [e1, if_neg (nI_m1 (by omega)), hf, nI_inc]
        exact hk2
      · have ne := h1.ne
        have l := h1.lt hM2
        obtain ⟨j1, j2⟩ := (at' (Ne.symm ne.2.2) ne.2.1).mp h1
        have es := ar_s (Xc s0) (Yc s0) x y n
        have nxt : ∀ {x y : Nat}, E x y → x = v → Lx (Xc s0) (Yc s0) x < Lx (Xc s0) (Yc s0) y → y = b := by
          intro x y hxy ex hl
          have hy := (hM.1 x y hxy).2.1
          have m := (flat_E hD' hB hfl hM (hM.1 x y hxy).1 hy hl).mp hxy
          rw [ex] at m hl
          have m1 := m b hb e2
          have m2 := e3 y hy hl
          exact hk y b hy hb (by omega)
        have hit : (x = p ∧ y = q) → K' x y n := fun e => f7 x y n (Or.inl (Or.inl ⟨e.1, e.2, rfl⟩))
        have As := hT.2.2.2.1
        rcases h2 with ⟨k1, k2⟩ | ⟨k1, k2⟩
        · by_cases ev' : x = v
          · have eb := nxt j1 ev' k1
            refine hit ?_
            rcases hpq with ⟨p1, p2⟩ | ⟨p1, p2⟩
            · exact ⟨by omega, by omega⟩
            · exfalso
              rw [ev', eb] at j2
              rw [p1, p2] at As
              have := ar_s (Xc s0) (Yc s0) b v n
              omega
          · exact f8 x y h1 (Or.inl ⟨k1, by omega⟩)
        · by_cases ev' : y = v
          · have eb := nxt (hM.1 x y j1).2.2.2 ev' k1
            refine hit ?_
            rcases hpq with ⟨p1, p2⟩ | ⟨p1, p2⟩
            · exfalso
              rw [ev', eb] at j2
              rw [p1, p2] at As
              have := ar_s (Xc s0) (Yc s0) b v n
              omega
            · exact ⟨by omega, by omega⟩
          · exact f8 x y h1 (Or.inr ⟨k1, by omega⟩)
theorem f21_ev {s : mS} {n : Nat} {E : Nat → Nat → Prop} (hP : P42 s) (hn : n < 40) (hD : Dst (Xc s) (Yc s) (n + 1)) (hM : Mx (Xc s) (Yc s) n E) (hT : TH s n E) (hS : SU s []) (hfl : flat (Xc s) (Yc s) n) :
    ∃ t, ev (fun k => f21 k (nI n) s) t ∧ TP t (fun x y z => Tr (Xc s) (Yc s) (n + 1) (insE (Xc s) (Yc s) n E) x y z) ∧ SU t [] ∧ gf s t ∧ (∀ x y w, Tr (Xc s) (Yc s) (n + 1) (insE (Xc s) (Yc s) n E) x y n → ¬ Tr (Xc s) (Yc s) (n + 1) (insE (Xc s) (Yc s) n E) y x w) := by
  have hD' := hD.le (show n ≤ n + 1 by omega)
  have hB : Bd (Xc s) (Yc s) n := hP.Bd (by omega)
  have hM2 := ins_Mx hD hM
  have hk := Lx_inj hD' hB
  have only : ∀ x y w, Tr (Xc s) (Yc s) (n + 1) (insE (Xc s) (Yc s) n E) x y n → ¬ Tr (Xc s) (Yc s) (n + 1) (insE (Xc s) (Yc s) n E) y x w := by
    intro x y w h1 h2
    have ne := h1.ne
    by_cases ew : w = n
    · rw [ew] at h2
      have := h1.2.2.2.1
      have := h2.2.2.2.1
      have := ar_s (Xc s) (Yc s) x y n
      omega
    · exact flat_no hfl hM ((ins_old hD hM ne.2.1 (Ne.symm ne.2.2) ew).mp h2).1
  have none1 : (∀ x y, ¬ Tr (Xc s) (Yc s) (n + 1) (insE (Xc s) (Yc s) n E) x y n) → TP s (fun x y z => Tr (Xc s) (Yc s) (n + 1) (insE (Xc s) (Yc s) n E) x y z) := by
    intro hno
    refine hT.TP.congr fun x y z => ⟨fun h => absurd h (flat_no hfl hM), fun h => ?_⟩
    by_cases ez : z = n
    · rw [ez] at h; exact absurd h (hno x y)
    · by_cases ex : x = n
      · rw [ex] at h; exact absurd h.rot (hno y z)
      · by_cases ey : y = n
        · rw [ey] at h; exact absurd h.rot.rot (hno z x)
        · exact ((ins_old hD hM ex ey ez).mp h).1
  have flat2 : n < 2 ∨ ar (Xc s) (Yc s) 0 1 n = 0 → ∀ x y, ¬ Tr (Xc s) (Yc s) (n + 1) (insE (Xc s) (Yc s) n E) x y n := by
    intro h x y k
    have ne := k.ne
    have l := k.lt hM2
    obtain ⟨k1, k2, _⟩ := (at_out hD hM (Ne.symm ne.2.2) ne.2.1 (fun a b c h => absurd h (flat_no hfl hM))).mp k
    have hx := hM.1 x y k1
    rcases h with h | h
    · omega
    · by_cases h2 : n < 2
      · omega
      · have z := col (hD'.nq (show 0 < n by omega) (show 1 < n by omega) (by decide)) (hfl 0 1 x (by omega) (by omega) hx.1) (hfl 0 1 y (by omega) (by omega) hx.2.1) h
        omega
  by_cases h2 : n < 2
  · refine ⟨s, ev_0 fun k => ?_, none1 (flat2 (Or.inl h2)), hS, sm.refl s, only⟩
    show f21 k (nI n) s = some s
    unfold f21
    rw [show (2 : Int32) = nI 2 from rfl, if_pos ((nI_ltI (by omega) (by decide)).mpr h2)]
  · by_cases h01 : ar (Xc s) (Yc s) 0 1 n = 0
    · refine ⟨s, ev_0 fun k => ?_, none1 (flat2 (Or.inr h01)), hS, sm.refl s, only⟩
      show f21 k (nI n) s = some s
      unfold f21
      rw [show (2 : Int32) = nI 2 from rfl, if_neg (fun q => h2 ((nI_ltI (by omega) (by decide)).mp q)), show (0 : Int32) = nI 0 from rfl, show (1 : Int32) = nI 1 from rfl, f73_eq hP (by omega) (by omega) (by omega), h01]
      rfl
    · obtain ⟨t, K, f1, f2, f3, f4, f5, f6, f7, f8⟩ := r21_ev hP hn hD hM hfl (by omega) h01 n 0 (by omega) s (fun x y z => Tr (Xc s) (Yc s) n E x y z) (sm.refl s) hT.TP hS (fun x y z h => absurd h (flat_no hfl hM)) (fun x y z h => h.rot)
      have hall : ∀ x y, Tr (Xc s) (Yc s) (n + 1) (insE (Xc s) (Yc s) n E) x y n → K x y n := by
        intro x y h
        have ne := h.ne
        have l := h.lt hM2
        have nl : Lx (Xc s) (Yc s) x ≠ Lx (Xc s) (Yc s) y := fun e => ne.1 (hk x y (by omega) (by omega) e)
        rcases Int.lt_or_gt_of_ne nl with q | q
        · exact f8 x y h (Or.inl ⟨q, by omega⟩)
        · exact f8 x y h (Or.inr ⟨q, by omega⟩)
      refine ⟨t, evm f1 fun k hk => ?_, f3.congr fun x y z => ⟨f5 x y z, fun h => ?_⟩, f4, f2, only⟩
      · show f21 k (nI n) s = some t
        unfold f21
        rw [show (2 : Int32) = nI 2 from rfl, if_neg (fun q => h2 ((nI_ltI (by omega) (by decide)).mp q)), show (0 : Int32) = nI 0 from rfl, show (1 : Int32) = nI 1 from rfl, f73_eq hP (by omega) (by omega) (by omega)]
        simp only [Option.bind_some]
        have h01' : ¬ sgn (ar (Xc s) (Yc s) 0 1 n) = nI 0 := fun q => h01 (sgn_zero.mp q)
        rw [if_pos h01']
        exact hk
      · by_cases ez : z = n
        · rw [ez] at h ⊢; exact hall x y h
        · by_cases ex : x = n
          · rw [ex] at h ⊢; exact f6 z n y (f6 y z n (hall y z h.rot))
          · by_cases ey : y = n
            · rw [ey] at h ⊢; exact f6 z x n (hall z x h.rot.rot)
            · exact absurd ((ins_old hD hM ex ey ez).mp h).1 (flat_no hfl hM)
