/-! M2: a new point outside; the first triangles -/
theorem TP_add {s : mS} {n : Nat} {E : Nat → Nat → Prop} {X Y : Nat → Int} {K : Nat → Nat → Nat → Prop} (hM : Mx X Y n E) (hK : TP s K) (hsub : ∀ x y z, K x y z → Tr X Y n E x y z) {a b c : Nat} (ha : a < 40) (hb : b < 40) (hc : c < 40) (h : Tr X Y n E a b c) :
    TP (uA 24 (th3 (s.1 24) a b c (nI c) (nI a) (nI b)) s) (fun x y z => rt a b c x y z ∨ K x y z) := by
  have ne := h.ne
  refine (TP_put hK ha hb hc ne.1 ne.2.1 ne.2.2).congr fun x y z => ⟨fun k => ?_, fun k => ?_⟩
  · rcases k with k | k
    · exact Or.inl k
    · exact Or.inr k.1
  · rcases k with k | k
    · exact Or.inl k
    · by_cases q : cells a b c x y
      · exact Or.inl (Tr_rt hM h q (hsub x y z k))
      · exact Or.inr ⟨k, q⟩
theorem rt_rot {a b c x y z : Nat} (h : rt a b c x y z) : rt a b c y z x := by unfold rt at *; omega
theorem f53_eq {i k : Nat} (hk : k < 3) (h : 3 * i + 2 < 225) (s : mS) : f53 (nI i) (nI k) s = some (s.1 26 (3 * i + (k + 1) % 3)) := by
  unfold f53
  by_cases e : k = 2
  · subst e
    rw [if_neg (fun q => q rfl), nI_3, show (0 : Int32) = nI 0 from rfl, nI_add, rdI_nI (by omega) (by decide), nI_clamp (by omega)]
  · have e' : ¬ nI k = 2 := fun q => e ((nI_eq (by omega) (by decide)).mp (show nI k = nI 2 from q))
    rw [if_pos e', nI_3, nI_1, nI_add, rdI_nI (by omega) (by decide), nI_clamp (by omega)]
    have : (k + 1) % 3 = k + 1 := by omega
    rw [this]
/-- growing: the triangles K stand in the table, all of them are of the mesh to be -/
def GW (s0 s : mS) (n : Nat) (E : Nat → Nat → Prop) (K : Nat → Nat → Nat → Prop) (l : List Nat) : Prop := gf s0 s ∧ TP s K ∧ SU s l ∧ (∀ x y z, K x y z → Tr (Xc s0) (Yc s0) (n + 1) (insE (Xc s0) (Yc s0) n E) x y z) ∧ (∀ x y z, K x y z → K y z x) ∧ (∀ x y, K x y n → cd x y ∈ l)
theorem GW_put {s0 s : mS} {n : Nat} {E : Nat → Nat → Prop} {K : Nat → Nat → Nat → Prop} {l : List Nat} (hn : n < 40) (hD : Dst (Xc s0) (Yc s0) (n + 1)) (hM : Mx (Xc s0) (Yc s0) n E) (h : GW s0 s n E K l) {a b : Nat} (hT : Tr (Xc s0) (Yc s0) (n + 1) (insE (Xc s0) (Yc s0) n E) a b n) :
    ∃ t l', ((f49 (nI a) (nI b) (nI n) s).bind fun q => f55 (nI b) (nI a) q) = some t ∧ GW s0 t n E (fun x y z => rt a b n x y z ∨ K x y z) l' := by
  obtain ⟨g1, g2, g3, g4, g5, g6⟩ := h
  have hM2 := ins_Mx hD hM
  have l := hT.lt hM2
  have ne := hT.ne
  have ha : a < 40 := by omega
  have hb : b < 40 := by omega
  obtain ⟨t, l', e, S, z, m, _⟩ := f55_ev (s := uA 24 (th3 (s.1 24) a b n (nI n) (nI a) (nI b)) s) (g3.same rfl rfl rfl) hb ha (Ne.symm ne.1)
  refine ⟨t, l', ?_, (g1.trans (gf_24 _ s)).trans z.g, (TP_add hM2 g2 g4 ha hb hn hT).same (z.1 24 (by decide)), S, ?_, ?_, ?_⟩
  · rw [f49_eq ha hb hn]; exact e
  · intro x y w k
    rcases k with k | k
    · exact rt_Tr hT k
    · exact g4 x y w k
  · intro x y w k
    rcases k with k | k
    · exact Or.inl (rt_rot k)
    · exact Or.inr (g5 x y w k)
  · intro x y k
    rw [m]
    rcases k with k | k
    · right
      rcases k with ⟨e1, e2, e3⟩ | ⟨e1, e2, e3⟩ | ⟨e1, e2, e3⟩
      · rw [e1, e2, cd_comm]
      · exact absurd e3.symm ne.2.2.symm.symm.symm
      · exact absurd e3 (Ne.symm ne.2.1)
    · exact Or.inl (g6 x y k)
/-- where triangle i stands in the tables -/
theorem NM_at {s : mS} {n : Nat} {E : Nat → Nat → Prop} {L : List Nat} (hL : NL (Xc s) (Yc s) n E 1600 L) (hN : NMi s n E L) {i : Nat} (hi : i < L.length) : ∃ a b z, L[i]? = some (40 * a + b) ∧ b < 40 ∧ Tr (Xc s) (Yc s) n E a b z ∧ a < b ∧ a < z ∧ s.1 26 (3 * i) = nI a ∧ s.1 26 (3 * i + 1) = nI b ∧ s.1 26 (3 * i + 2) = nI z ∧ s.1 25 (40 * a + b) = nI i ∧ s.1 25 (40 * b + z) = nI i ∧ s.1 25 (40 * z + a) = nI i := by
  have e : L[i]? = some L[i] := List.getElem?_eq_getElem hi
  have hc := (hL.2 L[i]).mp (List.getElem_mem hi)
  obtain ⟨z, hz, q1, q2⟩ := hc.2
  obtain ⟨r1, r2, r3, r4, r5, r6⟩ := hN.2 i _ z e hz
  unfold ik at q1 q2
  refine ⟨L[i] / 40, L[i] % 40, z, ?_, by omega, hz, by omega, by omega, r1, r2, r3, r4, r5, r6⟩
  rw [e]; congr 1; omega
/-- every triangle has its number -/
theorem NM_ex {s : mS} {n : Nat} {E : Nat → Nat → Prop} {L : List Nat} (hn : n ≤ 40) (hM : Mx (Xc s) (Yc s) n E) (hL : NL (Xc s) (Yc s) n E 1600 L) {a b z : Nat} (h : Tr (Xc s) (Yc s) n E a b z) : ∃ i u v w, i < L.length ∧ L[i]? = some (40 * u + v) ∧ v < 40 ∧ Tr (Xc s) (Yc s) n E u v w ∧ cells u v w a b := by
  have l := h.lt hM
  have ne := h.ne
  have go : ∀ u v w, Tr (Xc s) (Yc s) n E u v w → u < v → u < w → cells u v w a b → ∃ i u v w, i < L.length ∧ L[i]? = some (40 * u + v) ∧ v < 40 ∧ Tr (Xc s) (Yc s) n E u v w ∧ cells u v w a b := by
    intro u v w hT k1 k2 kc
    have lt := hT.lt hM
    have hm : 40 * u + v ∈ L := (hL.2 _).mpr ⟨by omega, by
      rw [show (40 * u + v) / 40 = u by omega, show (40 * u + v) % 40 = v by omega]
      exact ⟨w, hT, by unfold ik; omega, by unfold ik; omega⟩⟩
    obtain ⟨i, hi, e⟩ := List.getElem_of_mem hm
    exact ⟨i, u, v, w, hi, by rw [List.getElem?_eq_getElem hi, e], by omega, hT, kc⟩
  by_cases c1 : a < b ∧ a < z
  · exact go a b z h c1.1 c1.2 (Or.inl ⟨rfl, rfl⟩)
  · by_cases c2 : b < z ∧ b < a
    · exact go b z a h.rot c2.1 c2.2 (Or.inr (Or.inr ⟨rfl, rfl⟩))
    · exact go z a b h.rot.rot (by omega) (by omega) (Or.inr (Or.inl ⟨rfl, rfl⟩))
theorem r24_ev {s0 : mS} {n : Nat} {E : Nat → Nat → Prop} {L : List Nat} (hP : P42 s0) (hn : n < 40) (hD : Dst (Xc s0) (Yc s0) (n + 1)) (hM : Mx (Xc s0) (Yc s0) n E) (hL : NL (Xc s0) (Yc s0) n E 1600 L) (hN : NMi s0 n E L) (h75 : L.length ≤ 75)
    (hout : ∀ a b c, Tr (Xc s0) (Yc s0) n E a b c → ¬ inT (Xc s0) (Yc s0) a b c n) :
    ∀ d i, i + d = L.length → ∀ s K l, GW s0 s n E K l → (∀ x y z, Tr (Xc s0) (Yc s0) n E x y z → K x y z) → ∃ t K' l', ev (fun k => r24 k 0 (nI n) (nI i) 0 s) t ∧ GW s0 t n E K' l' ∧ (∀ x y z, K x y z → K' x y z) ∧ (∀ j u v w a b, i ≤ j → L[j]? = some (40 * u + v) → v < 40 → Tr (Xc s0) (Yc s0) n E u v w → cells u v w a b → Tr (Xc s0) (Yc s0) (n + 1) (insE (Xc s0) (Yc s0) n E) b a n → K' b a n) := by
  intro d
  induction d with
  | zero =>
    intro i hi s K l hG hE
    refine ⟨s, K, l, ev_c fun k => ?_, hG, fun _ _ _ h => h, fun j u v w a b h1 h2 _ _ _ _ => ?_⟩
    · simp only [r24]
      rw [if_pos trivial]
      unfold f46
      rw [hG.1.2.2.1 2 (by decide), hN.1]
      show (if _ then _ else _) = _
      rw [if_pos ((nI_leI (by omega) (by omega)).mpr (by omega))]
    · have := (List.getElem?_eq_some_iff.mp h2).1
      omega
  | succ d ih =>
    intro i hi s K l hG hE
    obtain ⟨a, b, z, e, hb, hT, k1, k2, r1, r2, r3, _⟩ := NM_at hL hN (show i < L.length by omega)
    have lt := hT.lt hM
    have hC : ∀ k, k < 3 → ∃ u v, s0.1 26 (3 * i + k) = nI u ∧ s0.1 26 (3 * i + (k + 1) % 3) = nI v ∧ u < n ∧ v < n ∧ hasT (Xc s0) (Yc s0) n E u v ∧ ((k = 0 ∧ u = a ∧ v = b) ∨ (k = 1 ∧ u = b ∧ v = z) ∨ (k = 2 ∧ u = z ∧ v = a)) := by
      intro k hk
      by_cases e0 : k = 0
      · subst e0; exact ⟨a, b, r1, r2, by omega, by omega, ⟨z, hT⟩, Or.inl ⟨rfl, rfl, rfl⟩⟩
      · by_cases e1 : k = 1
        · subst e1; exact ⟨b, z, r2, r3, by omega, by omega, ⟨a, hT.rot⟩, Or.inr (Or.inl ⟨rfl, rfl, rfl⟩)⟩
        · have e2 : k = 2 := by omega
          subst e2; exact ⟨z, a, r3, r1, by omega, by omega, ⟨b, hT.rot.rot⟩, Or.inr (Or.inr ⟨rfl, rfl, rfl⟩)⟩
    have inner : ∀ e k, k + e = 3 → ∀ s K l, GW s0 s n E K l → (∀ x y z, Tr (Xc s0) (Yc s0) n E x y z → K x y z) → ∃ t K' l', ev (fun f => r24 f 1 (nI n) (nI i) (nI k) s) t ∧ GW s0 t n E K' l' ∧ (∀ x y z, K x y z → K' x y z) ∧
        (∀ k' u v, k ≤ k' → k' < 3 → s0.1 26 (3 * i + k') = nI u → s0.1 26 (3 * i + (k' + 1) % 3) = nI v → u < n → v < n → Tr (Xc s0) (Yc s0) (n + 1) (insE (Xc s0) (Yc s0) n E) v u n → K' v u n) ∧
        (∀ j u v w a b, i + 1 ≤ j → L[j]? = some (40 * u + v) → v < 40 → Tr (Xc s0) (Yc s0) n E u v w → cells u v w a b → Tr (Xc s0) (Yc s0) (n + 1) (insE (Xc s0) (Yc s0) n E) b a n → K' b a n) := by
      intro e
      induction e with
      | zero =>
        intro k hk s K l hG hE
        obtain ⟨t, K', l', g1, g2, g3, g4⟩ := ih (i + 1) (by omega) s K l hG hE
        refine ⟨t, K', l', ev1 g1 fun f hf => ?_, g2, g3, fun k' u v h1 h2 => by omega, g4⟩
        show r24 (f + 1) _ _ _ _ _ = _
        simp only [r24]
        rw [if_neg (by decide), show (3 : Int32) = nI 3 from rfl, if_pos ((nI_leI (by omega) (by omega)).mpr (by omega)), nI_inc]
        exact hf
      | succ e ihe =>
        intro k hk s K l hG hE
        obtain ⟨u, v, w1, w2, hu, hv, hTu, wk⟩ := hC k (by omega)
        have hG' := hG
        obtain ⟨g1, g2, g3, g4, g5, g6⟩ := hG
        have XY : Xc s = Xc s0 ∧ Yc s = Yc s0 := ⟨g1.z.X, g1.z.Y⟩
        have A26 : s.1 26 = s0.1 26 := g1.1 26 (by decide)
        have base : ∀ f, r24 (f + 1) 1 (nI n) (nI i) (nI k) s = if ¬ s.1 24 (40 * v + u) = -1 then r24 f 1 (nI n) (nI i) (nI (k + 1)) s else if 0 ≤ ar (Xc s0) (Yc s0) u v n then r24 f 1 (nI n) (nI i) (nI (k + 1)) s else (f49 (nI v) (nI u) (nI n) s).bind fun q12 => (f55 (nI u) (nI v) q12).bind fun q14 => r24 f 1 (nI n) (nI i) (nI (k + 1)) q14 := by
          intro f
          simp only [r24]
          rw [if_neg (by decide), show (3 : Int32) = nI 3 from rfl, if_neg (fun q => by have := (nI_leI (by omega) (by omega)).mp q; omega), f52_eq (by omega), f53_eq (by omega) (by omega), A26, w1, w2, nI_inc]
          simp only [Option.bind_some]
          rw [f54_eq (by omega) (by omega), f73_eq (g1.z.P hP) (by omega) (by omega) (by omega), XY.1, XY.2]
          simp only [Option.bind_some, sgn_ge]
        have tbl := g2 v u (by omega) (by omega)
        by_cases hV : Tr (Xc s0) (Yc s0) (n + 1) (insE (Xc s0) (Yc s0) n E) v u n
        · by_cases hK : K v u n
          · obtain ⟨t, K', l', q1, q2, q3, q4, q5⟩ := ihe (k + 1) (by omega) s K l hG' hE
            refine ⟨t, K', l', ev1 q1 fun f hf => ?_, q2, q3, fun k' x y h1 h2 c1 c2 hx hy h3 => ?_, q5⟩
            · show r24 (f + 1) _ _ _ _ _ = _
              rw [base, tbl.1 n hK, if_pos (nI_m1 (by omega))]
              exact hf
            · by_cases ek : k' = k
              · rw [ek] at c1 c2
                rw [w1] at c1; rw [w2] at c2
                have ex := (nI_eq (by omega) (by omega)).mp c1
                have ey := (nI_eq (by omega) (by omega)).mp c2
                rw [← ex, ← ey]
                exact q3 _ _ _ hK
              · exact q4 k' x y (by omega) h2 c1 c2 hx hy h3
          · have hnone : ∀ w, ¬ K v u w := fun w hw => hK (by
              have := Tr.uniq (ins_Mx hD hM) (g4 v u w hw) hV
              rw [this] at hw; exact hw)
            obtain ⟨t1, l1, e1, G1⟩ := GW_put hn hD hM hG' hV
            obtain ⟨t, K', l', q1, q2, q3, q4, q5⟩ := ihe (k + 1) (by omega) t1 _ l1 G1 (fun x y z h => Or.inr (hE x y z h))
            refine ⟨t, K', l', ev1 q1 fun f hf => ?_, q2, fun x y z h => q3 x y z (Or.inr h), fun k' x y h1 h2 c1 c2 hx hy h3 => ?_, q5⟩
            · show r24 (f + 1) _ _ _ _ _ = _
              have A := hV.2.2.2.1
              have es := ar_s (Xc s0) (Yc s0) u v n
              rw [base, tbl.2 hnone, if_neg (fun q => q rfl), if_neg (by omega)]
              obtain ⟨q12, f1, f2⟩ := bd_some e1
              rw [f1]
              show (f55 (nI u) (nI v) q12).bind _ = _
              rw [f2]
              exact hf
            · by_cases ek : k' = k
              · rw [ek] at c1 c2
                rw [w1] at c1; rw [w2] at c2
                have ex := (nI_eq (by omega) (by omega)).mp c1
                have ey := (nI_eq (by omega) (by omega)).mp c2
                rw [← ex, ← ey]
                exact q3 _ _ _ (Or.inl (Or.inl ⟨rfl, rfl, rfl⟩))
              · exact q4 k' x y (by omega) h2 c1 c2 hx hy h3
        · obtain ⟨t, K', l', q1, q2, q3, q4, q5⟩ := ihe (k + 1) (by omega) s K l hG' hE
          refine ⟨t, K', l', ev1 q1 fun f hf => ?_, q2, q3, fun k' x y h1 h2 c1 c2 hx hy h3 => ?_, q5⟩
          · show r24 (f + 1) _ _ _ _ _ = _
            rw [base]
            by_cases hn1 : s.1 24 (40 * v + u) = -1
            · rw [if_neg (fun q => q hn1), if_pos]
              · exact hf
              · refine Decidable.byContradiction fun q => hV ?_
                have hnoT : ¬ hasT (Xc s0) (Yc s0) n E v u := fun ⟨w, hw⟩ => by
                  have := tbl.1 w (hE v u w hw)
                  rw [hn1] at this
                  have lw := hw.lt hM
                  exact nI_m1 (show w < 2 ^ 31 by omega) this.symm
                obtain ⟨w, hw⟩ := hTu
                have es := ar_s (Xc s0) (Yc s0) u v n
                exact (at_out hD hM (by omega) (by omega) hout).mpr ⟨(hM.1 u v hw.1).2.2.2, by omega, hnoT⟩
            · rw [if_pos hn1]; exact hf
          · by_cases ek : k' = k
            · rw [ek] at c1 c2
              rw [w1] at c1; rw [w2] at c2
              have ex := (nI_eq (by omega) (by omega)).mp c1
              have ey := (nI_eq (by omega) (by omega)).mp c2
              rw [← ex, ← ey] at h3
              exact absurd h3 hV
            · exact q4 k' x y (by omega) h2 c1 c2 hx hy h3
    obtain ⟨t, K', l', q1, q2, q3, q4, q5⟩ := inner 3 0 (by omega) s K l hG hE
    refine ⟨t, K', l', ev1 q1 fun f hf => ?_, q2, q3, fun j u v w x y h1 h2 h3 h4 h5 h6 => ?_⟩
    · show r24 (f + 1) _ _ _ _ _ = _
      simp only [r24]
      rw [if_pos trivial]
      unfold f46
      rw [hG.1.2.2.1 2 (by decide), hN.1]
      show (if _ then _ else _) = _
      rw [if_neg (fun q => by have := (nI_leI (by omega) (by omega)).mp q; omega)]
      exact hf
    · by_cases ej : j = i
      · rw [ej, e] at h2
        have h2 : 40 * a + b = 40 * u + v := by simpa using h2
        have eu : u = a := by omega
        have ev' : v = b := by omega
        rw [eu, ev'] at h4 h5
        have ew := Tr.uniq hM h4 hT
        rw [ew] at h5
        rcases h5 with ⟨e1, e2⟩ | ⟨e1, e2⟩ | ⟨e1, e2⟩
        · exact q4 0 x y (by omega) (by omega) (by rw [e1]; exact r1) (by rw [e2]; exact r2) (by omega) (by omega) h6
        · exact q4 1 x y (by omega) (by omega) (by rw [e1]; exact r2) (by rw [e2]; exact r3) (by omega) (by omega) h6
        · exact q4 2 x y (by omega) (by omega) (by rw [e1]; exact r3) (by rw [e2]; exact r1) (by omega) (by omega) h6
      · exact q5 j u v w x y (by omega) h2 h3 h4 h5 h6
theorem f24_ev {s : mS} {n : Nat} {E : Nat → Nat → Prop} {L : List Nat} (hP : P42 s) (hn : n < 40) (hD : Dst (Xc s) (Yc s) (n + 1)) (hM : Mx (Xc s) (Yc s) n E) (hT : TH s n E) (hS : SU s []) (hL : NL (Xc s) (Yc s) n E 1600 L) (hN : NMi s n E L) (h75 : L.length ≤ 75) (hnf : nfl (Xc s) (Yc s) n)
    (hout : ∀ a b c, Tr (Xc s) (Yc s) n E a b c → ¬ inT (Xc s) (Yc s) a b c n) :
    ∃ t l', ev (fun k => f24 k (nI n) s) t ∧ TP t (fun x y z => Tr (Xc s) (Yc s) (n + 1) (insE (Xc s) (Yc s) n E) x y z) ∧ SU t l' ∧ gf s t ∧ (∀ x y, Tr (Xc s) (Yc s) (n + 1) (insE (Xc s) (Yc s) n E) x y n → cd x y ∈ l') := by
  have old : ∀ x y z, Tr (Xc s) (Yc s) n E x y z → Tr (Xc s) (Yc s) (n + 1) (insE (Xc s) (Yc s) n E) x y z := fun x y z h => by
    have l := h.lt hM
    exact (ins_old hD hM (by omega) (by omega) (by omega)).mpr ⟨h, hout x y z h⟩
  obtain ⟨t, K, l, g1, ⟨G1, G2, G3, G4, G5, G6⟩, g3, g4⟩ := r24_ev hP hn hD hM hL hN h75 hout L.length 0 (by omega) s (fun x y z => Tr (Xc s) (Yc s) n E x y z) [] ⟨sm.refl s, hT.TP, hS, old, fun x y z h => h.rot, fun x y h => by have := (h.lt hM).2.2; omega⟩ (fun _ _ _ h => h)
  have hall : ∀ x y, Tr (Xc s) (Yc s) (n + 1) (insE (Xc s) (Yc s) n E) x y n → K x y n := by
    intro x y h
    have ne := h.ne
    obtain ⟨k1, k2, k3⟩ := (at_out hD hM (Ne.symm ne.2.2) ne.2.1 hout).mp h
    rcases one_T (hD.le (by omega)) hM hnf k1 with k | ⟨w, hw⟩
    · exact absurd k k3
    · obtain ⟨i, u, v, w', hi, e, hv, hT', hc⟩ := NM_ex (by omega) hM hL hw
      exact g4 i u v w' y x (by omega) e hv hT' hc h
  refine ⟨t, l, g1, G2.congr fun x y z => ⟨G4 x y z, fun h => ?_⟩, G3, G1, fun x y h => G6 x y (hall x y h)⟩
  by_cases ez : z = n
  · rw [ez] at h ⊢; exact hall x y h
  · by_cases ex : x = n
    · rw [ex] at h ⊢; exact G5 z n y (G5 y z n (hall y z h.rot))
    · by_cases ey : y = n
      · rw [ey] at h ⊢; exact G5 z x n (hall z x h.rot.rot)
      · exact g3 x y z ((ins_old hD hM ex ey ez).mp h).1
