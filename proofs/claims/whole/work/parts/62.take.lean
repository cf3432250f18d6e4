/-! M2: where a place lies; a point is taken in -/
theorem f71_ge {s : mS} (hP : P42 s) {a b c : Nat} (ha : a < 42) (hb : b < 42) (hc : c < 42) : ∃ v, f71 (nI a) (nI b) (nI c) s = some v ∧ ((0 : Int64) ≤ v ↔ 0 ≤ ar (Xc s) (Yc s) a b c) := by
  obtain ⟨v, h1, h2⟩ := f71_eq hP ha hb hc
  refine ⟨v, h1, ?_⟩
  rw [Int64.le_iff_toInt_le, h2.1]
  have : (0 : Int64).toInt = 0 := by decide
  omega
theorem f51_ev {s : mS} {a b z i p : Nat} (hP : P42 s) (hi : i < 75) (ha : a < 42) (hb : b < 42) (hz : z < 42) (hp : p < 42) (r1 : s.1 26 (3 * i) = nI a) (r2 : s.1 26 (3 * i + 1) = nI b) (r3 : s.1 26 (3 * i + 2) = nI z) :
    ∃ g, ev (fun k => f51 k (nI i) (nI p) s) (bI g) ∧ (g = true ↔ inT (Xc s) (Yc s) a b z p) := by
  have step : ∀ (j u v : Nat), j < 3 → u < 42 → v < 42 → s.1 26 (3 * i + j) = nI u → s.1 26 (3 * i + (j + 1) % 3) = nI v → ∀ k, r51 (k + 1) (nI i) (nI p) (nI j) s = if 0 ≤ ar (Xc s) (Yc s) u v p then r51 k (nI i) (nI p) (nI (j + 1)) s else some 0 := by
    intro j u v hj hu hv e1 e2 k
    obtain ⟨w, h1, h2⟩ := f71_ge hP hu hv hp
    simp only [r51]
    rw [show (3 : Int32) = nI 3 from rfl, if_neg (fun q => by have := (nI_leI (by omega) (by omega)).mp q; omega), f52_eq (by omega), f53_eq hj (by omega), e1, e2, nI_inc]
    simp only [Option.bind_some]
    rw [h1]
    simp only [Option.bind_some]
    by_cases q : 0 ≤ ar (Xc s) (Yc s) u v p
    · rw [if_pos q, if_pos (h2.mpr q)]
    · rw [if_neg q, if_neg (fun w => q (h2.mp w))]
  have last : ∀ k, r51 (k + 1) (nI i) (nI p) (nI 3) s = some 1 := by
    intro k
    simp only [r51]
    rw [show (3 : Int32) = nI 3 from rfl, if_pos ((nI_leI (by omega) (by omega)).mpr (by omega))]
  have e0 : ∀ (g : Bool), (∃ K, ∀ k, K ≤ k → r51 k (nI i) (nI p) (nI 0) s = some (bI g)) → ev (fun k => f51 k (nI i) (nI p) s) (bI g) := fun g h => h
  have s0 := step 0 a b (by omega) ha hb r1 r2
  have s1 := step 1 b z (by omega) hb hz r2 r3
  have s2 := step 2 z a (by omega) hz ha r3 r1
  by_cases c1 : 0 ≤ ar (Xc s) (Yc s) a b p
  · by_cases c2 : 0 ≤ ar (Xc s) (Yc s) b z p
    · by_cases c3 : 0 ≤ ar (Xc s) (Yc s) z a p
      · refine ⟨true, e0 true ⟨4, fun k hk => ?_⟩, fun _ => ⟨c1, c2, c3⟩, fun _ => rfl⟩
        obtain ⟨j, rfl⟩ : ∃ j, k = j + 1 + 1 + 1 + 1 := ⟨k - 4, by omega⟩
        rw [s0, if_pos c1, s1, if_pos c2, s2, if_pos c3, last]; rfl
      · refine ⟨false, e0 false ⟨4, fun k hk => ?_⟩, (fun h => by cases h), fun h => absurd h.2.2 c3⟩
        obtain ⟨j, rfl⟩ : ∃ j, k = j + 1 + 1 + 1 + 1 := ⟨k - 4, by omega⟩
        rw [s0, if_pos c1, s1, if_pos c2, s2, if_neg c3]; rfl
    · refine ⟨false, e0 false ⟨4, fun k hk => ?_⟩, (fun h => by cases h), fun h => absurd h.2.1 c2⟩
      obtain ⟨j, rfl⟩ : ∃ j, k = j + 1 + 1 + 1 + 1 := ⟨k - 4, by omega⟩
      rw [s0, if_pos c1, s1, if_neg c2]; rfl
  · refine ⟨false, e0 false ⟨4, fun k hk => ?_⟩, (fun h => by cases h), fun h => absurd h.1 c1⟩
    obtain ⟨j, rfl⟩ : ∃ j, k = j + 1 + 1 + 1 + 1 := ⟨k - 4, by omega⟩
    rw [s0, if_neg c1]; rfl
/-- place p lies in triangle i -/
def hld (X Y : Nat → Int) (n : Nat) (E : Nat → Nat → Prop) (L : List Nat) (i p : Nat) : Prop := ∃ a b z, L[i]? = some (40 * a + b) ∧ b < 40 ∧ Tr X Y n E a b z ∧ inT X Y a b z p
theorem hld_iff {X Y : Nat → Int} {n a b z i p : Nat} {E : Nat → Nat → Prop} {L : List Nat} (hM : Mx X Y n E) (e : L[i]? = some (40 * a + b)) (hb : b < 40) (hT : Tr X Y n E a b z) : hld X Y n E L i p ↔ inT X Y a b z p := by
  constructor
  · intro ⟨a', b', z', e', hb', hT', hi⟩
    rw [e] at e'
    have e' : 40 * a + b = 40 * a' + b' := by simpa using e'
    have ea : a' = a := by omega
    have eb : b' = b := by omega
    rw [ea, eb] at hT' hi
    rw [Tr.uniq hM hT' hT] at hi
    exact hi
  · intro h
    exact ⟨a, b, z, e, hb, hT, h⟩
/-- r is the least triangle in which p lies -/
def lyg (X Y : Nat → Int) (n : Nat) (E : Nat → Nat → Prop) (L : List Nat) (p v : Nat) (r : Int32) : Prop := (∃ i, v ≤ i ∧ i < L.length ∧ r = nI i ∧ hld X Y n E L i p ∧ ∀ j, v ≤ j → j < i → ¬ hld X Y n E L j p) ∨ (r = -1 ∧ ∀ j, v ≤ j → j < L.length → ¬ hld X Y n E L j p)
theorem r50_ev {s : mS} {n p : Nat} {E : Nat → Nat → Prop} {L : List Nat} (hP : P42 s) (hn : n ≤ 40) (hM : Mx (Xc s) (Yc s) n E) (hL : NL (Xc s) (Yc s) n E 1600 L) (hN : NMi s n E L) (h75 : L.length ≤ 75) (hp : p < 42) : ∀ d v, v + d = L.length → ∃ r, ev (fun k => r50 k (nI p) (nI v) s) r ∧ lyg (Xc s) (Yc s) n E L p v r := by
  intro d
  induction d with
  | zero =>
    intro v hv
    refine ⟨-1, ev_c fun k => ?_, Or.inr ⟨rfl, fun j h1 h2 => by omega⟩⟩
    simp only [r50]
    rw [hN.1, if_pos ((nI_leI (by omega) (by omega)).mpr (by omega))]
  | succ d ih =>
    intro v hv
    obtain ⟨a, b, z, e, hb, hT, k1, k2, r1, r2, r3, _⟩ := NM_at hL hN (show v < L.length by omega)
    have lt := hT.lt hM
    obtain ⟨g, g1, g2⟩ := f51_ev hP (show v < 75 by omega) (show a < 42 by omega) (show b < 42 by omega) (show z < 42 by omega) hp r1 r2 r3
    have hh := hld_iff (p := p) hM e hb hT
    have base : ∀ k, f51 k (nI v) (nI p) s = some (bI g) → r50 (k + 1) (nI p) (nI v) s = if g = false then r50 k (nI p) (nI (v + 1)) s else some (nI v) := by
      intro k hk
      simp only [r50]
      rw [hN.1, if_neg (fun q => by have := (nI_leI (by omega) (by omega)).mp q; omega), hk, nI_inc]
      simp only [Option.bind_some, bI_0]
    cases g with
    | true =>
      refine ⟨nI v, ev1 g1 fun k hk => ?_, Or.inl ⟨v, by omega, by omega, rfl, hh.mpr (g2.mp rfl), fun j h1 h2 => by omega⟩⟩
      show r50 (k + 1) _ _ _ = _
      rw [base k hk, if_neg (by decide)]
    | false =>
      obtain ⟨r, q1, q2⟩ := ih (v + 1) (by omega)
      have nh : ¬ hld (Xc s) (Yc s) n E L v p := fun h => by
        have := g2.mpr (hh.mp h)
        cases this
      refine ⟨r, ev2 g1 q1 fun k hk hk2 => ?_, ?_⟩
      · show r50 (k + 1) _ _ _ = _
        rw [base k hk, if_pos rfl]
        exact hk2
      · rcases q2 with ⟨i, h1, h2, h3, h4, h5⟩ | ⟨h1, h2⟩
        · refine Or.inl ⟨i, by omega, h2, h3, h4, fun j j1 j2 => ?_⟩
          by_cases ej : j = v
          · rw [ej]; exact nh
          · exact h5 j (by omega) j2
        · refine Or.inr ⟨h1, fun j j1 j2 => ?_⟩
          by_cases ej : j = v
          · rw [ej]; exact nh
          · exact h2 j (by omega) j2
theorem nfl_T {X Y : Nat → Int} {n : Nat} {E : Nat → Nat → Prop} (hD : Dst X Y n) (hM : Mx X Y n E) (h : nfl X Y n) : ∃ a b c, Tr X Y n E a b c := by
  have h' := h
  obtain ⟨x, y, z, hx, hy, hz, hne⟩ := h
  have nxy : x ≠ y := fun e => hne (by rw [e]; exact ar_xx X Y y z)
  obtain ⟨v, hv, _⟩ := vis hD hM (aff_wb X Y x y) hx (by show wb X Y x y x = 0; unfold wb; grind) ⟨y, hy, by
    show 0 < wb X Y x y y
    have : wb X Y x y y = sq X Y x y := by unfold wb sq; grind
    rw [this]; exact sq_pos (hD.nq hx hy nxy)⟩
  rcases one_T hD hM h' hv with ⟨c, hc⟩ | ⟨c, hc⟩
  · exact ⟨x, v, c, hc⟩
  · exact ⟨v, x, c, hc⟩
theorem NL_flat {X Y : Nat → Int} {n : Nat} {E : Nat → Nat → Prop} {L : List Nat} (hn : n ≤ 40) (hD : Dst X Y n) (hM : Mx X Y n E) (hL : NL X Y n E 1600 L) : (L = [] → flat X Y n) ∧ (L ≠ [] → nfl X Y n) := by
  constructor
  · intro e x y z hx hy hz
    refine Decidable.byContradiction fun k => ?_
    obtain ⟨a, b, c, hT⟩ := nfl_T hD hM ⟨x, y, z, hx, hy, hz, k⟩
    have go : ∀ u v w, Tr X Y n E u v w → u < v → u < w → False := by
      intro u v w hT k1 k2
      have lt := hT.lt hM
      have hm : 40 * u + v ∈ L := (hL.2 _).mpr ⟨by omega, by
        rw [show (40 * u + v) / 40 = u by omega, show (40 * u + v) % 40 = v by omega]
        exact ⟨w, hT, by unfold ik; omega, by unfold ik; omega⟩⟩
      rw [e] at hm; cases hm
    have ne := hT.ne
    by_cases c1 : a < b ∧ a < c
    · exact go a b c hT c1.1 c1.2
    · by_cases c2 : b < c ∧ b < a
      · exact go b c a hT.rot c2.1 c2.2
      · exact go c a b hT.rot.rot (by omega) (by omega)
  · intro e
    cases L with
    | nil => exact absurd rfl e
    | cons c L => exact lst_nfl hM ((hL.2 c).mp List.mem_cons_self).2
/-- the mesh stands as it should -/
def MH (s : mS) (n : Nat) (E lk : Nat → Nat → Prop) : Prop := CX s n E ∧ SU s [] ∧ NM s n E ∧ LKc s lk ∧ (∀ x y, lk x y → E x y) ∧ (∀ x y, ¬ lk x y → bnd (Xc s) (Yc s) n E x y)
theorem f57_ev {s : mS} {n : Nat} {E lk : Nat → Nat → Prop} {l : List Nat} (hC : CX s n E) (hS : SU s l) (hlk : LKc s lk) (hl : ∀ x y, lk x y → E x y) (hB : BS (Xc s) (Yc s) n E lk l) : ∃ t E', ev (fun k => f57 k s) t ∧ MH t n E' lk ∧ mz s t := by
  have hlen := hS.len
  have hlw := lwn_le (Xc s) (Yc s) (Ht (Xc s) (Yc s)) n E
  have h3 := hC.2.2.1
  have : n * n ≤ 40 * 40 := Nat.mul_le_mul h3 h3
  obtain ⟨t, E', g1, g2, g3, g4, g5, g6, g7⟩ := settle (l.length + 5 * lwn (Xc s) (Yc s) (Ht (Xc s) (Yc s)) n E) 0 s E l hC hS hlk hB (Nat.le_refl _) (by omega)
  exact ⟨t, E', g1, ⟨g2, g3, g4, ⟨hlk.1, fun x y hx hy => by rw [g5.l]; exact hlk.2 x y hx hy⟩, fun x y h => g7 x y h (hl x y h), by rw [g5.X, g5.Y]; exact g6⟩, g5⟩
theorem f20_ev {s : mS} {n : Nat} {E lk : Nat → Nat → Prop} (hP : P42 s) (hn : n < 40) (hF : s.2.2.1 0 = nI (n + 1)) (hD : Dst (Xc s) (Yc s) (n + 1)) (hM : Mx (Xc s) (Yc s) n E) (hT : TH s n E) (hS : SU s []) (hNM : NM s n E) (hlk : LKc s lk) (hl : ∀ x y, lk x y → E x y) (hb : ∀ x y, ¬ lk x y → bnd (Xc s) (Yc s) n E x y) (hon : ∀ x y, lk x y → ¬ oS (Xc s) (Yc s) x y n) :
    ∃ t E', ev (fun k => f20 k (nI n) s) t ∧ MH t (n + 1) E' lk ∧ mz s t := by
  have hD' := hD.le (show n ≤ n + 1 by omega)
  have hB : Bd (Xc s) (Yc s) (n + 1) := hP.Bd (by omega)
  have hM2 := ins_Mx hD hM
  obtain ⟨L, hL, hN⟩ := hNM
  have h75 := NL_75 hD' (hP.Bd (by omega)) (by omega) hM hL
  obtain ⟨fl1, fl2⟩ := NL_flat (by omega) hD' hM hL
  -- once the new point's triangles stand
  have fin : ∀ {t : mS} {l : List Nat}, TP t (fun x y z => Tr (Xc s) (Yc s) (n + 1) (insE (Xc s) (Yc s) n E) x y z) → SU t l → gf s t → (∀ x y w, Tr (Xc s) (Yc s) (n + 1) (insE (Xc s) (Yc s) n E) x y n → Tr (Xc s) (Yc s) (n + 1) (insE (Xc s) (Yc s) n E) y x w → cd x y ∈ l) → ∃ t2 E', ev (fun k => f57 k t) t2 ∧ MH t2 (n + 1) E' lk ∧ mz s t2 := by
    intro t l k1 k2 k3 k4
    have hC : CX t (n + 1) (insE (Xc s) (Yc s) n E) := by
      refine ⟨k3.z.P hP, by rw [k3.z.n]; exact hF, by omega, by rw [k3.z.X, k3.z.Y]; exact hD, by rw [k3.z.X, k3.z.Y]; exact hM2, k1.TH fun x y z => by rw [k3.z.X, k3.z.Y]⟩
    obtain ⟨t2, E', g1, g2, g3⟩ := f57_ev (lk := lk) hC k2 ⟨hlk.1, fun x y hx hy => by rw [k3.z.l]; exact hlk.2 x y hx hy⟩ (fun x y h => Or.inl ⟨hl x y h, hon x y h⟩) (by
      rw [k3.z.X, k3.z.Y]
      exact ins_BS (by omega) hD hB hM hb hon k4)
    exact ⟨t2, E', g1, g2, k3.z.trans g3⟩
  by_cases e : L = []
  · have hz : s.2.2.1 2 = 0 := by rw [hN.1, e]; rfl
    obtain ⟨t, q1, q2, q3, q4, q5⟩ := f21_ev hP hn hD hM hT hS (fl1 e)
    obtain ⟨t2, E', g1, g2, g3⟩ := fin q2 q3 q4 (fun x y w h1 h2 => absurd h2 (q5 x y w h1))
    refine ⟨t2, E', evm2 q1 g1 fun k hk1 hk2 => ?_, g2, g3⟩
    show f20 k (nI n) s = some t2
    unfold f20 f46
    simp only [Option.bind_some]
    rw [hz, if_neg (fun q => q rfl), hk1]
    simp only [Option.bind_some]
    rw [hk2]; rfl
  · have hlen : 0 < L.length := by
      cases L with
      | nil => exact absurd rfl e
      | cons c L => simp
    have hz : ¬ s.2.2.1 2 = 0 := by rw [hN.1]; exact nI_ne0 hlen (by omega)
    obtain ⟨r, q1, q2⟩ := r50_ev hP (show n ≤ 40 by omega) hM hL hN h75 (show n < 42 by omega) L.length 0 (by omega)
    have q1' : ev (fun k => f50 k (nI n) s) r := q1
    rcases q2 with ⟨i, _, hi, er, hh, _⟩ | ⟨er, hno⟩
    · obtain ⟨a, b, z, e1, hb4, hT1, k1, k2, r1, r2, r3, _⟩ := NM_at hL hN hi
      have hin := (hld_iff hM e1 hb4 hT1).mp hh
      obtain ⟨t, l, p1, p2, p3, p4, p5⟩ := f25_ev hP hn hD hM hT hS (show i < 75 by omega) hT1 hin r1 r2 r3
      obtain ⟨t2, E', g1, g2, g3⟩ := fin p2 p3 p4 (fun x y w h1 _ => p5 x y h1)
      refine ⟨t2, E', evm2 q1' g1 fun k hk1 hk2 => ?_, g2, g3⟩
      show f20 k (nI n) s = some t2
      unfold f20 f46
      simp only [Option.bind_some]
      rw [if_pos hz, hk1]
      simp only [Option.bind_some]
      rw [er, if_pos (nI_m1 (by omega)), p1]
      simp only [Option.bind_some]
      rw [hk2]; rfl
    · have hout : ∀ a b c, Tr (Xc s) (Yc s) n E a b c → ¬ inT (Xc s) (Yc s) a b c n := by
        intro a b c hT1 hin
        obtain ⟨i, u, v, w, hi, e1, hv, hT2, hc⟩ := NM_ex (by omega) hM hL hT1
        refine hno i (by omega) hi ((hld_iff hM e1 hv hT2).mpr ?_)
        rcases Tr_rt hM hT2 hc hT1 with ⟨w1, w2, w3⟩ | ⟨w1, w2, w3⟩ | ⟨w1, w2, w3⟩
        · rw [w1, w2, w3] at hin; exact hin
        · rw [w1, w2, w3] at hin; exact inT_rot (inT_rot hin)
        · rw [w1, w2, w3] at hin; exact inT_rot hin
      obtain ⟨t, l, p1, p2, p3, p4, p5⟩ := f24_ev hP hn hD hM hT hS hL hN h75 (fl2 e) hout
      obtain ⟨t2, E', g1, g2, g3⟩ := fin p2 p3 p4 (fun x y w h1 _ => p5 x y h1)
      refine ⟨t2, E', evm3 q1' p1 g1 fun k hk1 hk2 hk3 => ?_, g2, g3⟩
      show f20 k (nI n) s = some t2
      unfold f20 f46
      simp only [Option.bind_some]
      rw [if_pos hz, hk1]
      simp only [Option.bind_some]
      rw [er, if_neg (fun q => q rfl), hk2]
      simp only [Option.bind_some]
      rw [hk3]; rfl
