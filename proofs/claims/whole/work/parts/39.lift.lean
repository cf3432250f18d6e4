/-! M3: points lifted to heights; flips come to an end; there is just one mesh -/
def GH (X Y H : Nat → Int) (a b c d : Nat) : Int := (H a - H d) * (ar X Y d b c) + (H b - H d) * (ar X Y d c a) + (H c - H d) * (ar X Y d a b)
def AffH (X Y H k : Nat → Int) (m : Int) : Prop := ∃ u v w : Int, ∀ x, k x = m * H x + u * X x + v * Y x + w
theorem GH_lin {X Y H k : Nat → Int} {m : Int} (hk : AffH X Y H k m) (a b c d : Nat) : GH X Y k a b c d = m * GH X Y H a b c d := by
  obtain ⟨u, v, w, h⟩ := hk
  unfold GH
  rw [h a, h b, h c, h d]
  unfold ar
  grind
theorem GH_aff (X Y H : Nat → Int) (a b c : Nat) : AffH X Y H (fun x => GH X Y H a b c x) (-(ar X Y a b c)) :=
  ⟨-(H a * (Y c - Y b) + H b * (Y a - Y c) + H c * (Y b - Y a)), H a * (X c - X b) + H b * (X a - X c) + H c * (X b - X a),
   H a * (-(X c - X b) * Y b + (Y c - Y b) * X b) + H b * (-(X a - X c) * Y c + (Y a - Y c) * X c) + H c * (-(X b - X a) * Y a + (Y b - Y a) * X a), fun x => by
    show GH X Y H a b c x = _
    unfold GH ar
    grind⟩
theorem GH_s (X Y H : Nat → Int) (a b c d : Nat) : GH X Y H b a c d = -GH X Y H a b c d := by unfold GH ar; grind
theorem GH_t (X Y H : Nat → Int) (a b c d : Nat) : GH X Y H a b d c = -GH X Y H a b c d := by unfold GH ar; grind
theorem GH_p (X Y H : Nat → Int) (a b c d : Nat) : GH X Y H c d a b = GH X Y H a b c d := by unfold GH ar; grind
theorem GH_1 (X Y H : Nat → Int) (a b c : Nat) : GH X Y H a b c a = 0 := by unfold GH ar; grind
theorem GH_2 (X Y H : Nat → Int) (a b c : Nat) : GH X Y H a b c b = 0 := by unfold GH ar; grind
theorem GH_3 (X Y H : Nat → Int) (a b c : Nat) : GH X Y H a b c c = 0 := by unfold GH ar; grind
def kk (X Y H : Nat → Int) (a b p q x : Nat) : Int := GH X Y H p q a x - GH X Y H p q b x
theorem kk_aff (X Y H : Nat → Int) (a b p q : Nat) : AffH X Y H (kk X Y H a b p q) ((ar X Y p q b) - (ar X Y p q a)) := by
  obtain ⟨u1, v1, w1, h1⟩ := GH_aff X Y H p q a
  obtain ⟨u2, v2, w2, h2⟩ := GH_aff X Y H p q b
  refine ⟨u1 - u2, v1 - v2, w1 - w2, fun x => ?_⟩
  have e1 : GH X Y H p q a x = _ := h1 x
  have e2 : GH X Y H p q b x = _ := h2 x
  unfold kk
  rw [e1, e2]
  grind
theorem kk_p (X Y H : Nat → Int) (a b p q : Nat) : kk X Y H a b p q p = 0 := by unfold kk; rw [GH_1, GH_1]; rfl
theorem kk_q (X Y H : Nat → Int) (a b p q : Nat) : kk X Y H a b p q q = 0 := by unfold kk; rw [GH_2, GH_2]; rfl
theorem kk_a (X Y H : Nat → Int) (a b p q : Nat) : kk X Y H a b p q a = GH X Y H a b p q := by unfold kk; rw [GH_3, GH_t, GH_p]; omega
theorem kk_b (X Y H : Nat → Int) (a b p q : Nat) : kk X Y H a b p q b = GH X Y H a b p q := by unfold kk; rw [GH_3, GH_p]; omega
theorem kk_rev (X Y H : Nat → Int) (a b p q x : Nat) : kk X Y H b a q p x = kk X Y H a b p q x := by unfold kk; rw [GH_s X Y H p q b, GH_s X Y H p q a]; omega
theorem R1 (X Y H : Nat → Int) (a b p q r t : Nat) : ((ar X Y p q b) - (ar X Y p q a)) * GH X Y H p q r t = -(kk X Y H a b p q t * (ar X Y p q r) + kk X Y H a b p q r * (ar X Y q p t)) := by
  rw [← GH_lin (kk_aff X Y H a b p q)]
  unfold GH
  rw [kk_p, kk_q]
  have e1 := ar4 X Y p q r t
  have e2 := ar_c X Y t p q
  have e3 := ar_c X Y t q r
  have e4 := ar_c X Y t r p
  have e5 := ar_s X Y q p t
  rw [e1, e2, e3, e4, e5]
  grind
theorem R2 (X Y H : Nat → Int) (a b p q x y : Nat) : (ar X Y a b y) * kk X Y H a b p q x - (ar X Y a b x) * kk X Y H a b p q y = ((ar X Y p q b) - (ar X Y p q a)) * GH X Y H a b x y - GH X Y H a b p q * ((ar X Y a b x) - (ar X Y a b y)) := by
  rw [← GH_lin (kk_aff X Y H a b p q) a b x y]
  rw [show GH X Y (kk X Y H a b p q) a b x y = (kk X Y H a b p q a - kk X Y H a b p q y) * (ar X Y y b x) + (kk X Y H a b p q b - kk X Y H a b p q y) * (ar X Y y x a) + (kk X Y H a b p q x - kk X Y H a b p q y) * (ar X Y y a b) from rfl]
  rw [kk_a, kk_b]
  have e1 := ar4 X Y a b x y
  have e2 := ar_c X Y y a b
  have e3 := ar_c X Y y b x
  have e4 := ar_c X Y y x a
  rw [e1, e2, e3, e4]
  grind
theorem stepG {X Y H : Nat → Int} {n p q r a b : Nat} (hA : 0 < (ar X Y p q r)) (hb : b < n) (hr : r < n) (hE : emp X Y n p q r) (hc : clr X Y n a b) (hx : cx X Y a b q p) :
    r = b ∨ ∃ x y, ((x = r ∧ y = q) ∨ (x = p ∧ y = r)) ∧ cx X Y a b y x ∧ ∃ c, c < 0 ∧ ((ar X Y p q b) - (ar X Y p q a)) * GH X Y H a b x y - GH X Y H a b p q * ((ar X Y a b x) - (ar X Y a b y)) = c * kk X Y H a b p q r := by
  rcases NB hA hb hr hE hc hx with h | ⟨h1, h2⟩ | ⟨h1, h2⟩
  · exact Or.inl h
  · refine Or.inr ⟨r, q, Or.inl ⟨rfl, rfl⟩, h2, (ar X Y a b q), hx.1, ?_⟩
    rw [← R2, kk_q]
    omega
  · refine Or.inr ⟨p, r, Or.inr ⟨rfl, rfl⟩, h2, -(ar X Y a b p), by have := hx.2.1; omega, ?_⟩
    rw [← R2, kk_p, Int.neg_mul]
    omega
/-- an edge lies under a, b where it crosses -/
def Dd (X Y H : Nat → Int) (E : Nat → Nat → Prop) (a b : Nat) : Prop := ∃ p q, E p q ∧ cx X Y a b q p ∧ 0 < GH X Y H a b p q
theorem cx_m {X Y : Nat → Int} {a b p q : Nat} (h : cx X Y a b q p) : 0 < (ar X Y p q b) - (ar X Y p q a) := by
  have := ar_s X Y p q a
  have := ar_s X Y p q b
  have := h.2.2.1
  have := h.2.2.2
  omega
theorem Dd_core {X Y H : Nat → Int} {n p q r t a b : Nat} {E : Nat → Nat → Prop} (hM : Mx X Y n E) (hF : FL X Y n E p q r t) (hG : 0 < GH X Y H p q r t) (ha : a < n) (hb : b < n) (hc : clr X Y n a b) (hc' : clr X Y n b a)
    (hx : cx X Y a b q p) (h0 : 0 < GH X Y H a b p q) : Dd X Y H (fl E p q r t) a b := by
  obtain ⟨m1, m2, m3, m4⟩ := hM
  obtain ⟨pq, qr, rp, A, e1⟩ := hF.1
  obtain ⟨qp, pt, tq, B, e2⟩ := hF.2.1
  obtain ⟨npq, npr, npt, nqr, nqt, nrt⟩ := hF.ne
  have hm := cx_m hx
  have r1 := R1 X Y H a b p q r t
  have k1 := mpp hm hG
  by_cases kr : kk X Y H a b p q r < 0
  · rcases stepG (H := H) A hb (m1 r p rp).1 e1 hc hx with h | ⟨x, y, hxy, hx2, c, hc0, he⟩
    · rw [h, kk_b] at kr; omega
    · have g1 := mNN hc0 kr
      have g2 : 0 < GH X Y H a b p q * ((ar X Y a b x) - (ar X Y a b y)) := mpp h0 (by have := hx2.1; have := hx2.2.1; omega)
      have g3 : 0 < GH X Y H a b x y := cpos hm (by omega)
      refine ⟨x, y, ?_, hx2, g3⟩
      rcases hxy with ⟨rfl, rfl⟩ | ⟨rfl, rfl⟩
      · exact fl_in (m1 y x qr).2.2.2 (by omega) (by omega)
      · exact fl_in (m1 y x rp).2.2.2 (by omega) (by omega)
  · have kt : kk X Y H a b p q t < 0 := Decidable.byContradiction fun k => by
      have g1 := zpp (show 0 ≤ kk X Y H a b p q t by omega) (Int.le_of_lt A)
      have g2 := zpp (show 0 ≤ kk X Y H a b p q r by omega) (Int.le_of_lt B)
      omega
    have hx' := cx_rev hx
    rcases stepG (H := H) B ha (m1 t q tq).1 e2 hc' hx' with h | ⟨x, y, hxy, hx2, c, hc0, he⟩
    · rw [h, kk_a] at kt; omega
    · rw [kk_rev] at he
      have g1 := mNN hc0 kt
      have e3 : GH X Y H b a q p = GH X Y H a b p q := by rw [GH_s, GH_t]; omega
      rw [e3] at he
      have g2 : 0 < GH X Y H a b p q * ((ar X Y b a x) - (ar X Y b a y)) := mpp h0 (by have := hx2.1; have := hx2.2.1; omega)
      have hm' := cx_m hx'
      have g3 : 0 < GH X Y H b a x y := cpos hm' (by omega)
      have e4 : GH X Y H a b y x = GH X Y H b a x y := by rw [GH_s, GH_t]; omega
      refine ⟨y, x, ?_, cx_rev hx2, by omega⟩
      rcases hxy with ⟨rfl, rfl⟩ | ⟨rfl, rfl⟩
      · exact fl_in pt (by omega) (by omega)
      · exact fl_in tq (by omega) (by omega)
theorem clr_sym {X Y : Nat → Int} {n a b : Nat} (h : clr X Y n a b) : clr X Y n b a := by
  intro p hp h1 h2 hon
  refine h p hp h2 h1 ⟨by have := ar_s X Y a b p; have := hon.1; omega, ?_⟩
  have := hon.2
  unfold dt at this ⊢
  rw [Int.mul_comm (X a - X p), Int.mul_comm (Y a - Y p)]
  exact this
theorem Dd_flip {X Y H : Nat → Int} {n p q r t a b : Nat} {E : Nat → Nat → Prop} (hM : Mx X Y n E) (hF : FL X Y n E p q r t) (hG : 0 < GH X Y H p q r t) (ha : a < n) (hb : b < n) (hc : clr X Y n a b) (h : Dd X Y H E a b) : Dd X Y H (fl E p q r t) a b := by
  obtain ⟨x, y, hE, hx, h0⟩ := h
  by_cases h1 : x = p ∧ y = q
  · rw [h1.1, h1.2] at hx h0
    exact Dd_core hM hF hG ha hb hc (clr_sym hc) hx h0
  · by_cases h2 : x = q ∧ y = p
    · rw [h2.1, h2.2] at hx h0
      obtain ⟨u, v, k1, k2, k3⟩ := Dd_core hM hF.sym (by rw [GH_s, GH_t]; omega) ha hb hc (clr_sym hc) hx h0
      exact ⟨u, v, fl_swap k1, k2, k3⟩
    · exact ⟨x, y, Or.inl ⟨hE, h1, h2⟩, hx, h0⟩
theorem Dd_new {X Y H : Nat → Int} {n p q r t : Nat} {E : Nat → Nat → Prop} (hF : FL X Y n E p q r t) (hG : 0 < GH X Y H p q r t) : Dd X Y H (fl E p q r t) p q := by
  refine ⟨r, t, Or.inr (Or.inl ⟨rfl, rfl⟩), ?_, hG⟩
  have h1 := hF.1.2.2.2.1
  have h2 := hF.2.1.2.2.2.1
  have e1 := ar_s X Y q p t
  rcases cx_of hF.crs with h | h
  · have := h.1; omega
  · exact h
theorem Dd_not {X Y H : Nat → Int} {n a b : Nat} {E : Nat → Nat → Prop} (hM : Mx X Y n E) (h : E a b) : ¬ Dd X Y H E a b := fun ⟨x, y, k1, k2, _⟩ => hM.2.2.1 a b x y h k1 (crs_t (cx_crs k2))
/-- in a mesh whose edges bend down, what crosses a, b lies under it -/
theorem under {X Y H : Nat → Int} {n a b : Nat} {E lk : Nat → Nat → Prop} (hD : Dst X Y n) (hM : Mx X Y n E) (hg : ∀ p q r t, Tr X Y n E p q r → Tr X Y n E q p t → ¬ lk p q → GH X Y H p q r t < 0) (ha : a < n) (hb : b < n) (hc : clr X Y n a b)
    (hl : ∀ p q, lk p q → ¬ crs X Y a b p q) {p0 q0 : Nat} (h0 : E p0 q0) (hx0 : cx X Y a b q0 p0) : 0 < GH X Y H a b p0 q0 := by
  have hM' := hM
  obtain ⟨m1, m2, m3, m4⟩ := hM
  refine Decidable.byContradiction fun hneg => ?_
  obtain ⟨p, q, hp, hq, ⟨hpq, hx⟩, hmin⟩ := fmin2 (n := n) (fun z => E z.1 z.2 ∧ cx X Y a b z.2 z.1) (fun z w => GH X Y H a b z.1 z.2 * ((ar X Y a b w.1) - (ar X Y a b w.2)) ≤ GH X Y H a b w.1 w.2 * ((ar X Y a b z.1) - (ar X Y a b z.2)))
    (fun z w _ _ => Int.le_total _ _)
    (fun x y z h1 h2 h3 k1 k2 => by
      have g1 : 0 < (ar X Y a b x.1) - (ar X Y a b x.2) := by have := h1.2.1; have := h1.2.2.1; omega
      have g2 : 0 < (ar X Y a b y.1) - (ar X Y a b y.2) := by have := h2.2.1; have := h2.2.2.1; omega
      have g3 : 0 < (ar X Y a b z.1) - (ar X Y a b z.2) := by have := h3.2.1; have := h3.2.2.1; omega
      revert k1 k2 g1 g2 g3
      generalize (ar X Y a b x.1) - (ar X Y a b x.2) = dx
      generalize (ar X Y a b y.1) - (ar X Y a b y.2) = dy
      generalize (ar X Y a b z.1) - (ar X Y a b z.2) = dz
      generalize GH X Y H a b x.1 x.2 = ax
      generalize GH X Y H a b y.1 y.2 = ay
      generalize GH X Y H a b z.1 z.2 = az
      intro k1 k2 g1 g2 g3
      have a1 := Int.mul_le_mul_of_nonneg_right k1 (Int.le_of_lt g3)
      have b1 := Int.mul_le_mul_of_nonneg_right k2 (Int.le_of_lt g1)
      have e1 : ax * dy * dz = dy * (ax * dz) := by grind
      have e2 : ay * dx * dz = ay * dz * dx := by grind
      have e3 : az * dy * dx = dy * (az * dx) := by grind
      exact Int.le_of_mul_le_mul_left (show dy * (ax * dz) ≤ dy * (az * dx) by omega) g2) ⟨p0, q0, (m1 p0 q0 h0).1, (m1 p0 q0 h0).2.1, h0, hx0⟩
  have hx : cx X Y a b q p := hx
  have hpq : E p q := hpq
  have hm := cx_m hx
  have hs : 0 < (ar X Y a b p) - (ar X Y a b q) := by have := hx.1; have := hx.2.1; omega
  have hem : (ar X Y p q b) - (ar X Y p q a) = (ar X Y a b p) - (ar X Y a b q) := by unfold ar; grind
  have hk0 : GH X Y H a b p q ≤ 0 := by
    have h := hmin p0 q0 (m1 p0 q0 h0).1 (m1 p0 q0 h0).2.1 ⟨h0, hx0⟩
    have h : GH X Y H a b p q * ((ar X Y a b p0) - (ar X Y a b q0)) ≤ GH X Y H a b p0 q0 * ((ar X Y a b p) - (ar X Y a b q)) := h
    have g := znp (show GH X Y H a b p0 q0 ≤ 0 by omega) (Int.le_of_lt hs)
    exact cnp (show 0 < (ar X Y a b p0) - (ar X Y a b q0) by have := hx0.1; have := hx0.2.1; omega) (by rw [Int.mul_comm]; omega)
  have hpb : 0 < (ar X Y p q b) := by have := hx.2.2.2; have := ar_s X Y p q b; omega
  have hqa : 0 < (ar X Y q p a) := hx.2.2.1
  obtain ⟨r, hr⟩ := apex hD hM' hpq hb hpb
  obtain ⟨t, ht⟩ := apex hD hM' (m1 p q hpq).2.2.2 ha hqa
  have hG := hg p q r t hr ht (fun k => hl p q k (crs_t (cx_crs hx)))
  have r1 := R1 X Y H a b p q r t
  have k1 := mpn hm hG
  have no : ∀ x y, E x y → cx X Y a b y x → 0 ≤ ((ar X Y p q b) - (ar X Y p q a)) * GH X Y H a b x y - GH X Y H a b p q * ((ar X Y a b x) - (ar X Y a b y)) := by
    intro x y hE hx2
    have h := hmin x y (m1 x y hE).1 (m1 x y hE).2.1 ⟨hE, hx2⟩
    have h : GH X Y H a b p q * ((ar X Y a b x) - (ar X Y a b y)) ≤ GH X Y H a b x y * ((ar X Y a b p) - (ar X Y a b q)) := h
    rw [hem, Int.mul_comm ((ar X Y a b p) - (ar X Y a b q))]
    omega
  by_cases kr : 0 < kk X Y H a b p q r
  · rcases stepG (H := H) hr.2.2.2.1 hb (m1 q r hr.2.1).2.1 hr.2.2.2.2 hc hx with h | ⟨x, y, hxy, hx2, c, hc0, he⟩
    · rw [h, kk_b] at kr; omega
    · have g1 := mnp hc0 kr
      have hE : E x y := by
        rcases hxy with ⟨rfl, rfl⟩ | ⟨rfl, rfl⟩
        · exact (m1 _ _ hr.2.1).2.2.2
        · exact (m1 _ _ hr.2.2.1).2.2.2
      have := no x y hE hx2
      omega
  · have kt : 0 < kk X Y H a b p q t := Decidable.byContradiction fun k => by
      have g1 := znp (show kk X Y H a b p q t ≤ 0 by omega) (Int.le_of_lt hr.2.2.2.1)
      have g2 := znp (show kk X Y H a b p q r ≤ 0 by omega) (Int.le_of_lt ht.2.2.2.1)
      omega
    have hx' := cx_rev hx
    rcases stepG (H := H) ht.2.2.2.1 ha (m1 p t ht.2.1).2.1 ht.2.2.2.2 (clr_sym hc) hx' with h | ⟨x, y, hxy, hx2, c, hc0, he⟩
    · rw [h, kk_a] at kt; omega
    · rw [kk_rev] at he
      have g1 := mnp hc0 kt
      have hE : E y x := by
        rcases hxy with ⟨rfl, rfl⟩ | ⟨rfl, rfl⟩
        · exact ht.2.1
        · exact ht.2.2.1
      have n1 := no y x hE (cx_rev hx2)
      have e3 : GH X Y H b a q p = GH X Y H a b p q := by rw [GH_s, GH_t]; omega
      have e4 : GH X Y H a b y x = GH X Y H b a x y := by rw [GH_s, GH_t]; omega
      have e5 : (ar X Y b a x) - (ar X Y b a y) = (ar X Y a b y) - (ar X Y a b x) := by have := ar_s X Y b a x; have := ar_s X Y b a y; omega
      have e6 : (ar X Y q p a) - (ar X Y q p b) = (ar X Y p q b) - (ar X Y p q a) := by have := ar_s X Y q p a; have := ar_s X Y q p b; omega
      rw [e3, e5, e6, ← e4] at he
      omega
/-- there is just one mesh -/
theorem one_mesh {X Y H : Nat → Int} {n : Nat} {E F lk : Nat → Nat → Prop} (hD : Dst X Y n) (hE : Mx X Y n E) (hF : Mx X Y n F) (lE : ∀ p q, lk p q → E p q) (lF : ∀ p q, lk p q → F p q)
    (gE : ∀ p q r t, Tr X Y n E p q r → Tr X Y n E q p t → ¬ lk p q → GH X Y H p q r t < 0) (gF : ∀ p q r t, Tr X Y n F p q r → Tr X Y n F q p t → ¬ lk p q → GH X Y H p q r t < 0) {a b : Nat} (h : E a b) : F a b := by
  obtain ⟨ha, hb, nab, _⟩ := hE.1 a b h
  refine hF.2.2.2 a b ha hb nab (hE.2.1 a b h) fun c d hcd hx => ?_
  have main : ∀ p q, F p q → ¬ cx X Y a b q p := by
    intro p q hpq hx
    obtain ⟨hp, hq, npq, hqp⟩ := hF.1 p q hpq
    have u1 := under hD hF gF ha hb (hE.2.1 a b h) (fun x y k => hE.2.2.1 a b x y h (lE x y k)) hpq hx
    have u2 := under hD hE gE hp hq (hF.2.1 p q hpq) (fun x y k => hF.2.2.1 p q x y hpq (lF x y k)) (hE.1 a b h).2.2.2 (cx_rev (cx_sym hx))
    rw [GH_t, GH_p] at u2
    omega
  rcases cx_of hx with k | k
  · exact main d c (hF.1 c d hcd).2.2.2 k
  · exact main c d hcd k
