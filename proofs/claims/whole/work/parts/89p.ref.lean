/-! the reference's run: every step of r151 is a step of Zc -/
def gdp (n a : Nat) : Prop := a < n ∨ a = 40 ∨ a = 41
/-- the reference's doors 0 .. d -/
def RX (s0 : mS) (X Y : Nat → Int) (n d : Nat) (L R : Nat → Nat) : Prop := PM s0 ∧ n ≤ 40 ∧ d ≤ 74 ∧ (∀ a, gdp n a → Xm s0 a = X a ∧ Ym s0 a = Y a) ∧ (∀ q, q ≤ d → s0.1 51 q = nI (L q) ∧ s0.1 52 q = nI (R q) ∧ gdp n (L q) ∧ gdp n (R q))
/-- the turns so far -/
def RSt (s0 s : mS) (ts : List Nat) : Prop := sm [49] [] [19] [] s0 s ∧ s.2.2.1 19 = nI ts.length ∧ ∀ i x, ts[i]? = some x → s.1 49 i = nI x
theorem gdp.lt {n a : Nat} (h : gdp n a) (hn : n ≤ 40) : a < 42 := by unfold gdp at h; omega
theorem RX.c {s0 s : mS} {X Y : Nat → Int} {n d : Nat} {L R : Nat → Nat} {ts : List Nat} (h : RX s0 X Y n d L R) (z : RSt s0 s ts) : PM s ∧ ∀ a, gdp n a → Xm s a = X a ∧ Ym s a = Y a := by
  have e1 := z.1.2.1 43 (by decide)
  have e2 := z.1.2.1 44 (by decide)
  constructor
  · intro j hj
    have := h.1 j hj
    unfold Xm Ym at this ⊢
    rw [e1, e2]
    exact this
  · intro a ha
    have := h.2.2.2.1 a ha
    unfold Xm Ym at this ⊢
    rw [e1, e2]
    exact this
theorem RX.f119 {s0 s : mS} {X Y : Nat → Int} {n d : Nat} {L R : Nat → Nat} {ts : List Nat} (h : RX s0 X Y n d L R) (z : RSt s0 s ts) {a b c : Nat} (ha : gdp n a) (hb : gdp n b) (hc : gdp n c) : f119 (nI a) (nI b) (nI c) s = some (sgn (ar X Y a b c)) := by
  obtain ⟨h1, h2⟩ := h.c z
  have hn := h.2.1
  rw [f119_eq h1 (ha.lt hn) (hb.lt hn) (hc.lt hn)]
  unfold ar
  rw [(h2 a ha).1, (h2 a ha).2, (h2 b hb).1, (h2 b hb).2, (h2 c hc).1, (h2 c hc).2]
theorem RX.f118 {s0 s : mS} {X Y : Nat → Int} {n d : Nat} {L R : Nat → Nat} {ts : List Nat} (h : RX s0 X Y n d L R) (z : RSt s0 s ts) {a b c : Nat} (ha : gdp n a) (hb : gdp n b) (hc : gdp n c) : f118 (nI a) (nI b) (nI c) s = some (bI (onB X Y a b c)) := by
  obtain ⟨h1, h2⟩ := h.c z
  have hn := h.2.1
  rw [f118_eq h1 (ha.lt hn) (hb.lt hn) (hc.lt hn)]
  unfold onB ar
  rw [(h2 a ha).1, (h2 a ha).2, (h2 b hb).1, (h2 b hb).2, (h2 c hc).1, (h2 c hc).2]
theorem pe_oS {X Y : Nat → Int} {a b t t' : Nat} (h : pe X Y t' t) : oS X Y a b t' ↔ oS X Y a b t := by
  unfold oS dt ar
  rw [h.1, h.2]
theorem onB_t {X Y : Nat → Int} {a b t : Nat} (h : oS X Y a b t) : bI (onB X Y a b t) = 1 := by rw [(onB_iff X Y a b t).mpr h]; rfl
theorem onB_f {X Y : Nat → Int} {a b t : Nat} (h : ¬ oS X Y a b t) : bI (onB X Y a b t) = 0 := by
  cases q : onB X Y a b t with
  | false => rfl
  | true => exact absurd ((onB_iff X Y a b t).mp q) h
/-- the run ends with turns that are as G says -/
def fin (s0 : mS) (G : List Nat → Prop) (f : Nat → Option mS) : Prop := ∃ r tsF, ev f r ∧ RSt s0 r tsF ∧ G tsF
theorem fin.one {s0 : mS} {G : List Nat → Prop} {f g : Nat → Option mS} (h : fin s0 G g) (e : ∀ k, f (k + 1) = g k) : fin s0 G f := by
  obtain ⟨r, tsF, h1, h2, h3⟩ := h
  exact ⟨r, tsF, ev1 h1 fun k hk => by rw [e k]; exact hk, h2, h3⟩
def ZNr (s0 : mS) (X Y : Nat → Int) (n d : Nat) (G : List Nat → Prop) (t p : Nat) (ts : List Nat) : Prop := gdp n t → ts.length ≤ 77 ∧ ∀ t' s v3, gdp n t' → pe X Y t' t → RSt s0 s ts → fin s0 G (fun k => r151 k 1 (nI d) (nI t') v3 1 (nI (p + 1)) 0 0 0 0 0 s)
def ZSr (s0 : mS) (X Y : Nat → Int) (n d : Nat) (G : List Nat → Prop) (t p lam jl rho jr : Nat) (ts : List Nat) : Prop := gdp n t → gdp n lam → gdp n rho → jl ≤ p → jr ≤ p → p ≤ d → ts.length ≤ 77 ∧ ∀ t' s v3, gdp n t' → pe X Y t' t → RSt s0 s ts → fin s0 G (fun k => r151 k 2 (nI d) (nI t') v3 1 (nI (p + 1)) (nI lam) (nI rho) (nI jl) (nI jr) (-1) s)
/-- a door that may touch the tip -/
theorem hd1 {s0 s : mS} {X Y : Nat → Int} {n d : Nat} {L R : Nat → Nat} {ts : List Nat} (h : RX s0 X Y n d L R) (z : RSt s0 s ts) {t p : Nat} (v3 : Int32) (ht : gdp n t) (hp : p ≤ d) (k : Nat) : (d ≤ p ∨ ¬ oS X Y (L p) (R p) t → r151 (k + 1) 1 (nI d) (nI t) v3 1 (nI p) 0 0 0 0 0 s = r151 k 2 (nI d) (nI t) v3 1 (nI (p + 1)) (nI (L p)) (nI (R p)) (nI p) (nI p) (-1) s) ∧ (p < d → oS X Y (L p) (R p) t → r151 (k + 1) 1 (nI d) (nI t) v3 1 (nI p) 0 0 0 0 0 s = r151 k 1 (nI d) (nI t) v3 1 (nI (p + 1)) 0 0 0 0 0 s) := by
  obtain ⟨w1, w2, w3, w4⟩ := h.2.2.2.2 p hp
  have hd := h.2.2.1
  rw [← z.1.1 51 (by decide)] at w1
  rw [← z.1.1 52 (by decide)] at w2
  have e8 := h.f118 z w3 w4 ht
  have far : r151 (k + 1) 1 (nI d) (nI t) v3 1 (nI p) 0 0 0 0 0 s = if d ≤ p then r151 k 2 (nI d) (nI t) v3 1 (nI (p + 1)) (nI (L p)) (nI (R p)) (nI p) (nI p) (-1) s else if bI (onB X Y (L p) (R p) t) = 0 then r151 k 2 (nI d) (nI t) v3 1 (nI (p + 1)) (nI (L p)) (nI (R p)) (nI p) (nI p) (-1) s else r151 k 1 (nI d) (nI t) v3 1 (nI (p + 1)) 0 0 0 0 0 s := by
    rw [r151]
    rw [if_neg (show ¬ (1 : Nat) = 0 by decide), if_pos (show (1 : Nat) = 1 from rfl)]
    simp only [rdI_nI (show p < 100 by omega) (show 100 < 2 ^ 31 by decide)]
    rw [nI_clamp (by omega), w1, w2, e8, nI_inc]
    by_cases q : d ≤ p
    · rw [if_pos q, if_pos ((nI_leI (by omega) (by omega)).mpr q)]
    · rw [if_neg q, if_neg (fun w => q ((nI_leI (by omega) (by omega)).mp w))]
      rfl
  rw [far]
  constructor
  · intro q
    by_cases c : d ≤ p
    · rw [if_pos c]
    · rw [if_neg c]
      rcases q with q | q
      · exact absurd q c
      · rw [onB_f q, if_pos rfl]
  · intro q1 q2
    rw [if_neg (by omega), onB_t q2, if_neg (by decide)]
/-- a door of the scan -/
theorem hd2 {s0 s : mS} {X Y : Nat → Int} {n d : Nat} {L R : Nat → Nat} {ts : List Nat} (h : RX s0 X Y n d L R) (z : RSt s0 s ts) {t p lam rho jl jr : Nat} (v3 : Int32) (ht : gdp n t) (hl : gdp n lam) (hr : gdp n rho) (hp : p ≤ d) (k : Nat) : r151 (k + 1) 2 (nI d) (nI t) v3 1 (nI p) (nI lam) (nI rho) (nI jl) (nI jr) (-1) s =
    if 0 ≤ (ar X Y t rho (L p)) then (if (ar X Y t lam (R p)) ≤ 0 then (if 0 < (ar X Y t lam (L p)) then (if (ar X Y t rho (R p)) < 0 then r151 k 2 (nI d) (nI t) v3 1 (nI (p + 1)) (nI lam) (nI rho) (nI jl) (nI jr) (-1) s else r151 k 2 (nI d) (nI t) v3 1 (nI (p + 1)) (nI lam) (nI (R p)) (nI jl) (nI p) (-1) s) else (if (ar X Y t rho (R p)) < 0 then r151 k 2 (nI d) (nI t) v3 1 (nI (p + 1)) (nI (L p)) (nI rho) (nI p) (nI jr) (-1) s else r151 k 2 (nI d) (nI t) v3 1 (nI (p + 1)) (nI (L p)) (nI (R p)) (nI p) (nI p) (-1) s)) else r151 k 2 (nI d) (nI t) (nI jl) 1 (nI (p + 1)) (nI lam) (nI rho) (nI jl) (nI jr) (nI lam) s) else r151 k 2 (nI d) (nI t) (nI jr) 1 (nI (p + 1)) (nI lam) (nI rho) (nI jl) (nI jr) (nI rho) s := by
  obtain ⟨w1, w2, w3, w4⟩ := h.2.2.2.2 p hp
  have hd := h.2.2.1
  rw [← z.1.1 51 (by decide)] at w1
  rw [← z.1.1 52 (by decide)] at w2
  rw [r151]
  rw [if_neg (show ¬ (2 : Nat) = 0 by decide), if_neg (show ¬ (2 : Nat) = 1 by decide), if_neg (show ¬ nI d < nI p from fun q => by have := (nI_ltI (by omega) (by omega)).mp q; omega), if_neg (show ¬ (0 : Int32) ≤ -1 by decide), rdI_nI (show p < 100 by omega) (by decide), rdI_nI (show p < 100 by omega) (by decide), nI_clamp (by omega), w1, w2, h.f119 z ht hr w3, h.f119 z ht hl w4, h.f119 z ht hl w3, h.f119 z ht hr w4, nI_inc]
  simp only [Option.bind_some]
  by_cases c1 : 0 ≤ (ar X Y t rho (L p))
  · rw [if_pos c1, if_pos ((sgn_ge _).mpr c1)]
    by_cases c2 : (ar X Y t lam (R p)) ≤ 0
    · rw [if_pos c2, if_pos ((sgn_le _).mpr c2)]
      by_cases c3 : 0 < (ar X Y t lam (L p))
      · rw [if_pos c3, if_pos (by rw [sgn_1 c3]; decide)]
        by_cases c4 : (ar X Y t rho (R p)) < 0
        · rw [if_pos c4, if_pos ((sgn_lt _).mpr c4)]
        · rw [if_neg c4, if_neg (fun q => c4 ((sgn_lt _).mp q))]
      · rw [if_neg c3, if_neg (fun q => by have := (sgn_le (ar X Y t lam (L p))).mpr (by omega); exact absurd q (by rw [Int32.not_lt]; exact this))]
        by_cases c4 : (ar X Y t rho (R p)) < 0
        · rw [if_pos c4, if_pos ((sgn_lt _).mpr c4)]
        · rw [if_neg c4, if_neg (fun q => c4 ((sgn_lt _).mp q))]
    · rw [if_neg c2, if_neg (fun q => c2 ((sgn_le _).mp q))]
  · rw [if_neg c1, if_neg (fun q => c1 ((sgn_ge _).mp q))]
