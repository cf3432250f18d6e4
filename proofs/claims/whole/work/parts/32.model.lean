/-! M1: the reference: areas and its 128 bits (the rows on uN are pasted from kit/laws/BITS.to-paste) -/
def uN (x : Int64) : Nat := x.toUInt64.toNat
theorem uN_lt (x : Int64) : uN x < 18446744073709551616 := x.toUInt64.toNat_lt
theorem uN_add (x y : Int64) : uN (x + y) = (uN x + uN y) % 18446744073709551616 := by
  show (x.toUInt64 + y.toUInt64).toNat = _
  exact UInt64.toNat_add _ _
theorem uN_mul (x y : Int64) : uN (x * y) = (uN x * uN y) % 18446744073709551616 := by
  show (x.toUInt64 * y.toUInt64).toNat = _
  exact UInt64.toNat_mul _ _
theorem uN_shr (x : Int64) (s : UInt64) : uN (x.toUInt64 >>> s).toInt64 = uN x / 2 ^ (s.toNat % 64) := by
  show (x.toUInt64 >>> s).toNat = _
  rw [UInt64.toNat_shiftRight, Nat.shiftRight_eq_div_pow]
  rfl
theorem uN_s32 (x : Int64) : uN (x.toUInt64 >>> ((32 : Int32).toInt64.toUInt64 &&& Int64.toUInt64 63)).toInt64 = uN x / 4294967296 := by
  have h : ((32 : Int32).toInt64.toUInt64 &&& Int64.toUInt64 63).toNat % 64 = 32 := by decide
  rw [uN_shr, h]
theorem nat_xor {a : Nat} (h : a < 18446744073709551616) : a ^^^ 2 ^ 63 = (a + 9223372036854775808) % 18446744073709551616 := by
  have h1 : (a ^^^ 2 ^ 63) % 2 ^ 63 = a % 2 ^ 63 := by rw [Nat.xor_mod_two_pow, Nat.mod_self, Nat.xor_zero]
  have h2 : (a ^^^ 2 ^ 63) / 2 ^ 63 = (a / 2 ^ 63) ^^^ 1 := by rw [Nat.xor_div_two_pow, Nat.div_self (Nat.two_pow_pos 63)]
  have h3 : a / 2 ^ 63 = 0 ∨ a / 2 ^ 63 = 1 := by omega
  generalize a ^^^ 2 ^ 63 = t at h1 h2
  rcases h3 with h3 | h3
  · rw [h3] at h2
    have h2 : t / 2 ^ 63 = 1 := h2
    omega
  · rw [h3] at h2
    have h2 : t / 2 ^ 63 = 0 := h2
    omega
theorem uN_xor (x : Int64) : uN (x ^^^ (-9223372036854775808)) = (uN x + 9223372036854775808) % 18446744073709551616 := by
  rw [← nat_xor (uN_lt x)]
  exact UInt64.toNat_xor _ _
theorem uN_int (x : Int64) : x.toInt = if 2 * uN x < 18446744073709551616 then (uN x : Int) else (uN x : Int) - 18446744073709551616 := BitVec.toInt_eq_toNat_cond _
theorem uN_le (x y : Int64) : (x ^^^ (-9223372036854775808)) ≤ (y ^^^ (-9223372036854775808)) ↔ uN x ≤ uN y := by
  have hx := uN_lt x
  have hy := uN_lt y
  rw [Int64.le_iff_toInt_le, uN_int, uN_int, uN_xor, uN_xor]
  omega
def Xm (s : mS) (j : Nat) : Int := (s.2.1 43 j).toInt
def Ym (s : mS) (j : Nat) : Int := (s.2.1 44 j).toInt
def PM (s : mS) : Prop := ∀ j : Nat, j < 42 → (Xm s j).natAbs ≤ 536870911 ∧ (Ym s j).natAbs ≤ 536870911
theorem dXm {s : mS} (hP : PM s) {a b : Nat} (ha : a < 42) (hb : b < 42) : Ex (s.2.1 43 b - s.2.1 43 a) (Xm s b - Xm s a) 1073741822 :=
  Ex.sub (A := 536870911) (B := 536870911) ⟨rfl, (hP b hb).1⟩ ⟨rfl, (hP a ha).1⟩ rfl (by decide)
theorem dYm {s : mS} (hP : PM s) {a b : Nat} (ha : a < 42) (hb : b < 42) : Ex (s.2.1 44 b - s.2.1 44 a) (Ym s b - Ym s a) 1073741822 :=
  Ex.sub (A := 536870911) (B := 536870911) ⟨rfl, (hP b hb).2⟩ ⟨rfl, (hP a ha).2⟩ rfl (by decide)
theorem sg_ite {v : Int64} {z : Int} (h : v.toInt = z) : (if v ≤ 0 then (if (0 : Int64) ≤ v then some (0 : Int32) else some (-1)) else some 1) = some (sgn z) := by
  have := f98_eq v s0
  unfold f98 at this
  rw [this, h]
theorem f119_eq {s : mS} (hP : PM s) {a b c : Nat} (ha : a < 42) (hb : b < 42) (hc : c < 42) : f119 (nI a) (nI b) (nI c) s = some (sgn (ar (Xm s) (Ym s) a b c)) := by
  unfold f119
  simp only [rdI_nI ha (by decide), rdI_nI hb (by decide), rdI_nI hc (by decide), nI_clamp (show a < 2 ^ 31 by omega), nI_clamp (show b < 2 ^ 31 by omega), nI_clamp (show c < 2 ^ 31 by omega)]
  exact sg_ite (((dXm hP ha hb).mul (dYm hP ha hc) rfl (by decide)).sub ((dYm hP ha hb).mul (dXm hP ha hc) rfl (by decide)) rfl (by decide)).1
/-- the number that the two longs stand for -/
def Vv (s : mS) : Int := (s.2.2.2 3).toInt * 18446744073709551616 + (uN (s.2.2.2 4) : Int)
def sameV (s t : mS) : Prop := t.1 = s.1 ∧ t.2.1 = s.2.1 ∧ t.2.2.1 = s.2.2.1 ∧ ∀ j, j < 3 → t.2.2.2 j = s.2.2.2 j
theorem sameV.refl (s : mS) : sameV s s := ⟨rfl, rfl, rfl, fun _ _ => rfl⟩
theorem sameV.trans {s t u : mS} (h1 : sameV s t) (h2 : sameV t u) : sameV s u := ⟨h2.1.trans h1.1, h2.2.1.trans h1.2.1, h2.2.2.1.trans h1.2.2.1, fun j hj => (h2.2.2.2 j hj).trans (h1.2.2.2 j hj)⟩
theorem uN_mod (x : Int64) : (uN x : Int) = x.toInt % 18446744073709551616 := by
  have h1 := uN_int x
  have h2 := uN_lt x
  by_cases h : 2 * uN x < 18446744073709551616
  · rw [if_pos h] at h1; omega
  · rw [if_neg h] at h1; omega
theorem ush32 (x : Int64) : (Int64.toUInt64 x >>> (Int64.toUInt64 (Int32.toInt64 32) &&& Int64.toUInt64 63)).toInt64.toInt = (x.toInt % 18446744073709551616) / 4294967296 := by
  have h := uN_s32 x
  have h1 := uN_mod x
  have h2 := uN_int (Int64.toUInt64 x >>> (Int64.toUInt64 (Int32.toInt64 32) &&& Int64.toUInt64 63)).toInt64
  have h3 := uN_lt x
  rw [h, if_pos (by omega)] at h2
  rw [h2]
  omega
theorem hp_part {p q r t ab : Int} (nt : 0 ≤ t) (e : ab = p * (4294967296 * 4294967296) + (q + r) * 4294967296 + t) : ab % 18446744073709551616 = ab - (p + (q + t / 4294967296) / 4294967296 + ((q + t / 4294967296) % 4294967296 + r) / 4294967296) * 18446744073709551616 := by omega
theorem hp_bd {H p q r t : Int} {B : Nat} (hB : B ≤ 2) (h0 : H.natAbs ≤ B * 576460752303423488) (h1 : p.natAbs ≤ 288230376151711744) (h2 : q.natAbs ≤ 2305843008676823040) (h3 : r.natAbs ≤ 2305843008676823040) (h4 : 0 ≤ t) (h5 : t.natAbs ≤ 18446744065119617025) : (H + p + (q + t / 4294967296) / 4294967296 + ((q + t / 4294967296) % 4294967296 + r) / 4294967296).natAbs ≤ (B + 1) * 576460752303423488 - 1 := by omega
theorem fin1 {H P ab : Int} {low lp low' : Nat} (h1 : (lp : Int) = ab % 18446744073709551616) (h2 : ab % 18446744073709551616 = ab - P * 18446744073709551616) (h3 : low' = (low + lp) % 18446744073709551616) (l1 : low < 18446744073709551616) (l2 : lp < 18446744073709551616) (hc : lp ≤ low') : (H + P) * 18446744073709551616 + (low' : Int) = H * 18446744073709551616 + (low : Int) + ab := by omega
theorem fin2 {H P ab : Int} {low lp low' : Nat} (h1 : (lp : Int) = ab % 18446744073709551616) (h2 : ab % 18446744073709551616 = ab - P * 18446744073709551616) (h3 : low' = (low + lp) % 18446744073709551616) (l1 : low < 18446744073709551616) (l2 : lp < 18446744073709551616) (hc : ¬ lp ≤ low') : (H + P + 1) * 18446744073709551616 + (low' : Int) = H * 18446744073709551616 + (low : Int) + ab := by omega
theorem f136_eq {s : mS} {x y : Int64} {a b : Int} {B : Nat} (hx : Ex x a 2305843000623759368) (hy : Ex y b 2305843000623759368) (hB : B ≤ 2) (hV : (s.2.2.2 3).toInt.natAbs ≤ B * 576460752303423488) : ∃ t, f136 x y s = some t ∧ (t.2.2.2 3).toInt.natAbs ≤ (B + 1) * 576460752303423488 ∧ Vv t = Vv s + a * b ∧ sameV s t := by
  have xh := shr32 x
  have xl := and32 x
  have yh := shr32 y
  have yl := and32 y
  rw [hx.1] at xh xl
  rw [hy.1] at yh yl
  have ba := hx.2
  have bb := hy.2
  have lp : (uN (x * y) : Int) = (a * b) % 18446744073709551616 := by
    rw [uN_mod, Int64.toInt_mul, hx.1, hy.1]
    exact Int.bmod_emod ..
  generalize hAH : x >>> (Int32.toInt64 32 &&& 63) = AH at xh
  generalize hAL : x &&& 4294967295 = AL at xl
  generalize hBH : y >>> (Int32.toInt64 32 &&& 63) = BH at yh
  generalize hBL : y &&& 4294967295 = BL at yl
  generalize hLP : x * y = LP at lp
  have eAH : Ex AH (a / 4294967296) 536870912 := ⟨xh, by omega⟩
  have eAL : Ex AL (a % 4294967296) 4294967295 := ⟨xl, by omega⟩
  have eBH : Ex BH (b / 4294967296) 536870912 := ⟨yh, by omega⟩
  have eBL : Ex BL (b % 4294967296) 4294967295 := ⟨yl, by omega⟩
  have eP := eAH.mul eBH rfl (by decide)
  have eQ := eAH.mul eBL rfl (by decide)
  have eR := eAL.mul eBH rfl (by decide)
  have eab : a * b = a / 4294967296 * (b / 4294967296) * (4294967296 * 4294967296) + (a / 4294967296 * (b % 4294967296) + a % 4294967296 * (b / 4294967296)) * 4294967296 + a % 4294967296 * (b % 4294967296) := by
    have h := exp2 (a / 4294967296) (a % 4294967296) (b / 4294967296) (b % 4294967296) 4294967296
    have h1 : a / 4294967296 * 4294967296 + a % 4294967296 = a := by omega
    have h2 : b / 4294967296 * 4294967296 + b % 4294967296 = b := by omega
    rw [h1, h2] at h
    exact h
  have nLo : 0 ≤ a % 4294967296 * (b % 4294967296) := Int.mul_nonneg (by omega) (by omega)
  have bLo := mul_bd eAL.2 eBL.2
  have sT := ush32 (AL * BL)
  rw [Int64.toInt_mul, eAL.1, eBL.1, show ((a % 4294967296 * (b % 4294967296)).bmod (2 ^ 64)) % 18446744073709551616 = (a % 4294967296 * (b % 4294967296)) % 18446744073709551616 from Int.bmod_emod ..] at sT
  generalize hp : a / 4294967296 * (b / 4294967296) = p at eP eab
  generalize hq : a / 4294967296 * (b % 4294967296) = q at eQ eab
  generalize hr : a % 4294967296 * (b / 4294967296) = r at eR eab
  generalize ht : a % 4294967296 * (b % 4294967296) = t at eab nLo bLo sT
  generalize hST : (Int64.toUInt64 (AL * BL) >>> (Int64.toUInt64 (Int32.toInt64 32) &&& Int64.toUInt64 63)).toInt64 = ST at sT
  have b1 := eP.2
  have b2 := eQ.2
  have b3 := eR.2
  have eST : Ex ST (t / 4294967296) 4294967295 := ⟨by rw [sT]; omega, by omega⟩
  have eMx := eQ.add eST rfl (by decide)
  have sMx := shr32 (AH * BL + ST)
  have mMx := and32 (AH * BL + ST)
  rw [eMx.1] at sMx mMx
  generalize hSM : (AH * BL + ST) >>> (Int32.toInt64 32 &&& 63) = SM at sMx
  generalize hMM : (AH * BL + ST) &&& 4294967295 = MM at mMx
  have eMM : Ex MM ((q + t / 4294967296) % 4294967296) 4294967295 := ⟨mMx, by omega⟩
  have eOt := eMM.add eR rfl (by decide)
  have sOt := shr32 (MM + AL * BH)
  rw [eOt.1] at sOt
  generalize hSO : (MM + AL * BH) >>> (Int32.toInt64 32 &&& 63) = SO at sOt
  have i1 : (s.2.2.2 3 + AH * BH).toInt = (s.2.2.2 3).toInt + p := by rw [← eP.1]; rw [← eP.1] at b1; exact i64a (by omega) (by omega)
  have i2 : (s.2.2.2 3 + AH * BH + SM).toInt = (s.2.2.2 3).toInt + p + (q + t / 4294967296) / 4294967296 := by rw [← i1, ← sMx]; exact i64a (by omega) (by omega)
  have i3 : (s.2.2.2 3 + AH * BH + SM + SO).toInt = (s.2.2.2 3).toInt + p + (q + t / 4294967296) / 4294967296 + ((q + t / 4294967296) % 4294967296 + r) / 4294967296 := by rw [← i2, ← sOt]; exact i64a (by omega) (by omega)
  have lo := uN_add (s.2.2.2 4) LP
  have l1 := uN_lt (s.2.2.2 4)
  have l2 := uN_lt LP
  have cmp := uN_le LP (s.2.2.2 4 + LP)
  generalize hHI : s.2.2.2 3 + AH * BH + SM + SO = HI at i3
  have hpp := hp_part nLo eab
  have hbb := hp_bd hB hV b1 b2 b3 nLo bLo
  rw [← i3] at hbb
  have i4 : (HI + 1).toInt = HI.toInt + 1 := by
    have e1 : (1 : Int64).toInt = 1 := by decide
    clear i1 i2 i3 sMx mMx sOt eMx eMM eOt eST sT eab lp hpp xh xl yh yl
    rw [← e1]; exact i64a (by rw [e1]; omega) (by rw [e1]; omega)
  by_cases hc : (LP ^^^ (-9223372036854775808)) ≤ ((s.2.2.2 4 + LP) ^^^ (-9223372036854775808))
  · refine ⟨uG 3 HI (uG 4 (s.2.2.2 4 + LP) (uG 3 HI s)), ?_, ?_, ?_, rfl, rfl, rfl, ?_⟩
    · unfold f136
      rw [hAH, hAL, hBH, hBL, hLP, hST, hSM, hMM, hSO, hHI]
      show (if (LP ^^^ (-9223372036854775808)) ≤ ((s.2.2.2 4 + LP) ^^^ (-9223372036854775808)) then _ else _) = _
      rw [if_pos hc]
      rfl
    · show HI.toInt.natAbs ≤ _
      clear i1 i2 i3 i4 sMx mMx sOt eMx eMM eOt eST sT eab lp hpp xh xl yh yl
      omega
    · have hc' := cmp.mp hc
      show HI.toInt * 18446744073709551616 + (uN (s.2.2.2 4 + LP) : Int) = _
      unfold Vv
      rw [i3, Int.add_assoc, Int.add_assoc, ← Int.add_assoc p]
      exact fin1 lp hpp lo l1 l2 hc'
    · intro j hj
      show (if j = 3 then _ else if j = 4 then _ else if j = 3 then _ else s.2.2.2 j) = _
      rw [if_neg (by omega), if_neg (by omega), if_neg (by omega)]
  · refine ⟨uG 3 (HI + 1) (uG 4 (s.2.2.2 4 + LP) (uG 3 HI s)), ?_, ?_, ?_, rfl, rfl, rfl, ?_⟩
    · unfold f136
      rw [hAH, hAL, hBH, hBL, hLP, hST, hSM, hMM, hSO, hHI]
      show (if (LP ^^^ (-9223372036854775808)) ≤ ((s.2.2.2 4 + LP) ^^^ (-9223372036854775808)) then _ else _) = _
      rw [if_neg hc]
      rfl
    · show (HI + 1).toInt.natAbs ≤ _
      rw [i4]
      clear i1 i2 i3 i4 sMx mMx sOt eMx eMM eOt eST sT eab lp hpp xh xl yh yl
      omega
    · have hc' : ¬ uN LP ≤ uN (s.2.2.2 4 + LP) := fun h => hc (cmp.mpr h)
      show (HI + 1).toInt * 18446744073709551616 + (uN (s.2.2.2 4 + LP) : Int) = _
      unfold Vv
      rw [i4, i3, Int.add_assoc (_ + p), Int.add_assoc _ p, ← Int.add_assoc p]
      exact fin2 lp hpp lo l1 l2 hc'
    · intro j hj
      show (if j = 3 then _ else if j = 4 then _ else if j = 3 then _ else s.2.2.2 j) = _
      rw [if_neg (by omega), if_neg (by omega), if_neg (by omega)]
