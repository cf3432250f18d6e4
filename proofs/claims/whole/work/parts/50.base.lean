/-! M2: enough fuel; bits; places in the tables of pairs -/
def ev {α : Type} (f : Nat → Option α) (r : α) : Prop := ∃ K, ∀ k, K ≤ k → f k = some r
theorem ev_c {α : Type} {f : Nat → Option α} {r : α} (h : ∀ k, f (k + 1) = some r) : ev f r := ⟨1, fun k hk => by
  obtain ⟨j, rfl⟩ : ∃ j, k = j + 1 := ⟨k - 1, by omega⟩
  exact h j⟩
theorem ev_0 {α : Type} {f : Nat → Option α} {r : α} (h : ∀ k, f k = some r) : ev f r := ⟨0, fun k _ => h k⟩
theorem ev1 {α β : Type} {f : Nat → Option α} {g : Nat → Option β} {r : α} {a : β} (hg : ev g a) (h : ∀ k, g k = some a → f (k + 1) = some r) : ev f r := by
  obtain ⟨K, hK⟩ := hg
  refine ⟨K + 1, fun k hk => ?_⟩
  obtain ⟨j, rfl⟩ : ∃ j, k = j + 1 := ⟨k - 1, by omega⟩
  exact h j (hK j (by omega))
theorem ev2 {α β γ : Type} {f : Nat → Option α} {g : Nat → Option β} {g' : Nat → Option γ} {r : α} {a : β} {b : γ} (hg : ev g a) (hg' : ev g' b) (h : ∀ k, g k = some a → g' k = some b → f (k + 1) = some r) : ev f r := by
  obtain ⟨K, hK⟩ := hg
  obtain ⟨L, hL⟩ := hg'
  refine ⟨K + L + 1, fun k hk => ?_⟩
  obtain ⟨j, rfl⟩ : ∃ j, k = j + 1 := ⟨k - 1, by omega⟩
  exact h j (hK j (by omega)) (hL j (by omega))
theorem ev3 {α β γ δ : Type} {f : Nat → Option α} {g : Nat → Option β} {g' : Nat → Option γ} {g2 : Nat → Option δ} {r : α} {a : β} {b : γ} {c : δ} (hg : ev g a) (hg' : ev g' b) (hg2 : ev g2 c) (h : ∀ k, g k = some a → g' k = some b → g2 k = some c → f (k + 1) = some r) : ev f r := by
  obtain ⟨K, hK⟩ := hg
  obtain ⟨L, hL⟩ := hg'
  obtain ⟨M, hM⟩ := hg2
  refine ⟨K + L + M + 1, fun k hk => ?_⟩
  obtain ⟨j, rfl⟩ : ∃ j, k = j + 1 := ⟨k - 1, by omega⟩
  exact h j (hK j (by omega)) (hL j (by omega)) (hM j (by omega))
theorem evm {α β : Type} {f : Nat → Option α} {g : Nat → Option β} {r : α} {a : β} (hg : ev g a) (h : ∀ k, g k = some a → f k = some r) : ev f r := by
  obtain ⟨K, hK⟩ := hg
  exact ⟨K, fun k hk => h k (hK k hk)⟩
theorem evm2 {α β γ : Type} {f : Nat → Option α} {g : Nat → Option β} {g' : Nat → Option γ} {r : α} {a : β} {b : γ} (hg : ev g a) (hg' : ev g' b) (h : ∀ k, g k = some a → g' k = some b → f k = some r) : ev f r := by
  obtain ⟨K, hK⟩ := hg
  obtain ⟨L, hL⟩ := hg'
  exact ⟨K + L, fun k hk => h k (hK k (by omega)) (hL k (by omega))⟩
theorem evm3 {α β γ δ : Type} {f : Nat → Option α} {g : Nat → Option β} {g' : Nat → Option γ} {g2 : Nat → Option δ} {r : α} {a : β} {b : γ} {c : δ} (hg : ev g a) (hg' : ev g' b) (hg2 : ev g2 c) (h : ∀ k, g k = some a → g' k = some b → g2 k = some c → f k = some r) : ev f r := by
  obtain ⟨K, hK⟩ := hg
  obtain ⟨L, hL⟩ := hg'
  obtain ⟨M, hM⟩ := hg2
  exact ⟨K + L + M, fun k hk => h k (hK k (by omega)) (hL k (by omega)) (hM k (by omega))⟩
theorem bnd_s {α β : Type} {x : Option α} {a : α} (h : x = some a) (f : α → Option β) : x.bind f = f a := by rw [h]; rfl
theorem nI_mul (a b : Nat) : nI a * nI b = nI (a * b) := (Int32.ofNat_mul a b).symm
theorem nI_m1 {a : Nat} (h : a < 2 ^ 31) : ¬ nI a = -1 := fun e => by
  have := congrArg Int32.toInt e
  rw [nI_toInt h] at this
  have e1 : (-1 : Int32).toInt = -1 := by decide
  omega
theorem idx1 (a b : Nat) : nI a * (40 : Int32) + nI b = nI (40 * a + b) := by
  rw [show (40 : Int32) = nI 40 from rfl, nI_mul, nI_add, Nat.mul_comm]
theorem idx2 (a b : Nat) : (40 : Int32) * nI a + nI b = nI (40 * a + b) := by
  rw [show (40 : Int32) = nI 40 from rfl, nI_mul, nI_add]
theorem f99_eq (a b : Nat) (s : mS) : f99 (nI a) (nI b) s = some (nI (40 * a + b)) := by unfold f99; rw [idx1]
theorem idx_lt {a b : Nat} (ha : a < 40) (hb : b < 40) : 40 * a + b < 1600 := by omega
theorem idx_eq {a b c d : Nat} (hb : b < 40) (hd : d < 40) : 40 * a + b = 40 * c + d ↔ a = c ∧ b = d := by omega
theorem f54_eq {a b : Nat} (ha : a < 40) (hb : b < 40) (s : mS) : f54 (nI a) (nI b) s = some (s.1 24 (40 * a + b)) := by
  unfold f54
  rw [f99_eq]
  show rdI 1600 _ _ = _
  rw [rdI_nI (idx_lt ha hb) (by decide), nI_clamp (by omega)]
def bL (w : Int64) (j : Nat) : Bool := w.toBitVec.getLsbD j
theorem sh1 : ∀ k, k < 64 → ((1 : Int64) <<< ((nI k).toInt64 &&& 63)).toBitVec = BitVec.twoPow 64 k := by decide +kernel
theorem sh6 : ∀ k, k < 64 → (((nI k).toInt64 &&& 63).toBitVec.smod 64).toNat = k := by decide +kernel
theorem bL_or (w : Int64) {k : Nat} (hk : k < 64) (j : Nat) : bL (w ||| ((1 : Int64) <<< ((nI k).toInt64 &&& 63))) j = (bL w j || decide (k = j)) := by
  unfold bL
  rw [Int64.toBitVec_or, BitVec.getLsbD_or, sh1 k hk, BitVec.getLsbD_twoPow]
  simp [hk]
theorem bL_clr (w : Int64) {k : Nat} (hk : k < 64) {j : Nat} (hj : j < 64) : bL (w &&& (((1 : Int64) <<< ((nI k).toInt64 &&& 63)) ^^^ (-1 : Int64))) j = (bL w j && !decide (k = j)) := by
  have ha : (-1 : Int64).toBitVec = BitVec.allOnes 64 := by decide
  unfold bL
  rw [Int64.toBitVec_and, Int64.toBitVec_xor, sh1 k hk, ha, BitVec.getLsbD_and, BitVec.getLsbD_xor, BitVec.getLsbD_twoPow, BitVec.getLsbD_allOnes]
  simp [hk, hj]
theorem bL_has (w : Int64) {k : Nat} (hk : k < 64) : ((w >>> ((nI k).toInt64 &&& 63)) &&& 1) = 0 ↔ bL w k = false := by
  have e : (w >>> ((nI k).toInt64 &&& 63)).toBitVec = w.toBitVec.sshiftRight k := by
    rw [Int64.toBitVec_shiftRight]
    show w.toBitVec.sshiftRight (((nI k).toInt64 &&& 63).toBitVec.smod 64).toNat = _
    rw [sh6 k hk]
  have e0 : (w.toBitVec.sshiftRight k).getLsbD 0 = w.toBitVec.getLsbD k := by
    rw [BitVec.getLsbD_sshiftRight]
    simp [hk]
  unfold bL
  rw [← Int64.toBitVec_inj, Int64.toBitVec_and, e]
  show w.toBitVec.sshiftRight k &&& 1#64 = 0#64 ↔ _
  constructor
  · intro h
    have t : (w.toBitVec.sshiftRight k &&& 1#64).getLsbD 0 = (0#64).getLsbD 0 := by rw [h]
    rw [BitVec.getLsbD_and, e0] at t
    simpa [hk] using t
  · intro h
    apply BitVec.eq_of_getLsbD_eq
    intro i hi
    cases i with
    | zero => rw [BitVec.getLsbD_and, e0, h]; rfl
    | succ i => simp
theorem f39_eq {a b : Nat} (ha : a < 40) (hb : b < 40) (s : mS) : f39 (nI a) (nI b) s = some (bI (bL (s.2.1 22 a) b)) := by
  unfold f39
  rw [rdI_nI ha (by decide), nI_clamp (by omega)]
  by_cases h : ((s.2.1 22 a >>> ((nI b).toInt64 &&& 63)) &&& 1) = 0
  · rw [if_pos h, (bL_has _ (by omega)).mp h]; rfl
  · rw [if_neg h]
    have : bL (s.2.1 22 a) b = true := by
      cases hb : bL (s.2.1 22 a) b with
      | true => rfl
      | false => exact absurd ((bL_has _ (by omega)).mpr hb) h
    rw [this]; rfl
theorem bI_0 {b : Bool} : bI b = 0 ↔ b = false := by cases b <;> decide
theorem bI_1 {b : Bool} : bI b = 1 ↔ b = true := by cases b <;> decide
theorem onB_iff (X Y : Nat → Int) (a b p : Nat) : onB X Y a b p = true ↔ oS X Y a b p := by
  have bt : ∀ u v w : Int, betw u v w = true ↔ (u - w) * (v - w) ≤ 0 := by
    intro u v w
    unfold betw
    rw [Bool.and_eq_true, decide_eq_true_iff, decide_eq_true_iff]
    constructor
    · intro h
      rcases Int.le_total u v with k | k
      · exact znp (by omega) (by omega)
      · exact zpn (by omega) (by omega)
    · intro h
      refine Decidable.byContradiction fun k => ?_
      by_cases q : 0 < u - w
      · have := mpp q (show 0 < v - w by omega); omega
      · have := mNN (show u - w < 0 by omega) (show v - w < 0 by omega); omega
  unfold onB
  rw [Bool.and_eq_true, Bool.and_eq_true, decide_eq_true_iff, bt, bt]
  unfold oS dt
  constructor
  · intro ⟨h1, h2, h3⟩
    exact ⟨h1, by omega⟩
  · intro ⟨h1, h2⟩
    refine ⟨h1, ?_⟩
    have e : (X a - X p) * (Y b - Y p) = (Y a - Y p) * (X b - X p) := by
      have : (ar X Y a b p) = (X a - X p) * (Y b - Y p) - (Y a - Y p) * (X b - X p) := by unfold ar; grind
      omega
    have e2 : ((X a - X p) * (X b - X p)) * ((Y a - Y p) * (Y b - Y p)) = ((X a - X p) * (Y b - Y p)) * ((X a - X p) * (Y b - Y p)) := by
      have : ((X a - X p) * (X b - X p)) * ((Y a - Y p) * (Y b - Y p)) = ((X a - X p) * (Y b - Y p)) * ((Y a - Y p) * (X b - X p)) := by grind
      rw [this, ← e]
    have e3 := sqn ((X a - X p) * (Y b - Y p))
    generalize (X a - X p) * (X b - X p) = u at *
    generalize (Y a - Y p) * (Y b - Y p) = v at *
    constructor
    · refine Decidable.byContradiction fun k => ?_
      have := mpn (show 0 < u by omega) (show v < 0 by omega)
      omega
    · refine Decidable.byContradiction fun k => ?_
      have := mnp (show u < 0 by omega) (show 0 < v by omega)
      omega
