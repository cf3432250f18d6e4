/-! M1: sums of products that outgrow a long: the class's WideSum -/
theorem shr31 (x : Int64) : (x >>> (Int32.toInt64 31 &&& 63)).toInt = x.toInt / 2147483648 := by
  have h : (((Int32.toInt64 31 &&& 63)).toBitVec.smod 64).toNat = 31 := by decide
  show (x.toBitVec.sshiftRight (((Int32.toInt64 31 &&& 63)).toBitVec.smod 64).toNat).toInt = _
  rw [h, BitVec.toInt_sshiftRight, Int.shiftRight_eq_div_pow]
  rfl
theorem shr32 (x : Int64) : (x >>> (Int32.toInt64 32 &&& 63)).toInt = x.toInt / 4294967296 := by
  have h : (((Int32.toInt64 32 &&& 63)).toBitVec.smod 64).toNat = 32 := by decide
  show (x.toBitVec.sshiftRight (((Int32.toInt64 32 &&& 63)).toBitVec.smod 64).toNat).toInt = _
  rw [h, BitVec.toInt_sshiftRight, Int.shiftRight_eq_div_pow]
  rfl
theorem toI_cond (x : Int64) : x.toInt = if 2 * x.toBitVec.toNat < 2 ^ 64 then (x.toBitVec.toNat : Int) else (x.toBitVec.toNat : Int) - (2 ^ 64 : Nat) := BitVec.toInt_eq_toNat_cond x.toBitVec
theorem and31 (x : Int64) : (x &&& 2147483647).toInt = x.toInt % 2147483648 := by
  have h1 : (x &&& 2147483647).toBitVec.toNat = x.toBitVec.toNat % 2 ^ 31 := by
    show (x.toBitVec &&& 2147483647#64).toNat = _
    rw [BitVec.toNat_and, show (2147483647#64).toNat = 2 ^ 31 - 1 from by decide, Nat.and_two_pow_sub_one_eq_mod]
  have h2 := toI_cond x
  have h3 := toI_cond (x &&& 2147483647)
  have h4 : x.toBitVec.toNat < 2 ^ 64 := x.toBitVec.isLt
  rw [h1] at h3
  rw [h3, h2]
  split <;> split <;> omega
theorem and32 (x : Int64) : (x &&& 4294967295).toInt = x.toInt % 4294967296 := by
  have h1 : (x &&& 4294967295).toBitVec.toNat = x.toBitVec.toNat % 2 ^ 32 := by
    show (x.toBitVec &&& 4294967295#64).toNat = _
    rw [BitVec.toNat_and, show (4294967295#64).toNat = 2 ^ 32 - 1 from by decide, Nat.and_two_pow_sub_one_eq_mod]
  have h2 := toI_cond x
  have h3 := toI_cond (x &&& 4294967295)
  have h4 : x.toBitVec.toNat < 2 ^ 64 := x.toBitVec.isLt
  rw [h1] at h3
  rw [h3, h2]
  split <;> split <;> omega
theorem exp2 (a b c d M : Int) : (a * M + b) * (c * M + d) = a * c * (M * M) + (a * d + b * c) * M + b * d := by grind
/-- the sum that the three longs stand for -/
def Wv (s : mS) : Int := (s.2.2.2 0).toInt * 4611686018427387904 + (s.2.2.2 1).toInt * 2147483648 + (s.2.2.2 2).toInt
def Wb (s : mS) (B : Nat) : Prop := (s.2.2.2 0).toInt.natAbs ≤ B * 2305843009213693952 ∧ 0 ≤ (s.2.2.2 1).toInt ∧ (s.2.2.2 1).toInt ≤ B * 2147483647 ∧ 0 ≤ (s.2.2.2 2).toInt ∧ (s.2.2.2 2).toInt ≤ B * 2147483647
/-- two states that differ in the scratch longs of the sum alone -/
def sameW (s t : mS) : Prop := t.1 = s.1 ∧ t.2.1 = s.2.1 ∧ t.2.2.1 = s.2.2.1 ∧ ∀ j, 3 ≤ j → t.2.2.2 j = s.2.2.2 j
theorem sameW.refl (s : mS) : sameW s s := ⟨rfl, rfl, rfl, fun _ _ => rfl⟩
theorem sameW.trans {s t u : mS} (h1 : sameW s t) (h2 : sameW t u) : sameW s u := ⟨h2.1.trans h1.1, h2.2.1.trans h1.2.1, h2.2.2.1.trans h1.2.2.1, fun j hj => (h2.2.2.2 j hj).trans (h1.2.2.2 j hj)⟩
theorem f88_eq (s : mS) : ∃ t, f88 s = some t ∧ Wb t 0 ∧ Wv t = 0 ∧ sameW s t := by
  refine ⟨_, rfl, ?_, ?_, rfl, rfl, rfl, ?_⟩
  · show (0 : Int64).toInt.natAbs ≤ 0 * 2305843009213693952 ∧ 0 ≤ (0 : Int64).toInt ∧ (0 : Int64).toInt ≤ ((0 : Nat) : Int) * 2147483647 ∧ 0 ≤ (0 : Int64).toInt ∧ (0 : Int64).toInt ≤ ((0 : Nat) : Int) * 2147483647
    decide
  · show (0 : Int64).toInt * 4611686018427387904 + (0 : Int64).toInt * 2147483648 + (0 : Int64).toInt = 0
    decide
  · intro j hj
    show (if j = 2 then (0 : Int64) else if j = 1 then 0 else if j = 0 then 0 else s.2.2.2 j) = _
    rw [if_neg (by omega), if_neg (by omega), if_neg (by omega)]
theorem f89_eq {s : mS} {x y : Int64} {a b : Int} {B : Nat} (hx : Ex x a 2305843000623759368) (hy : Ex y b 2305843000623759368) (hB : B ≤ 2) (hW : Wb s B) : ∃ t, f89 x y s = some t ∧ Wb t (B + 1) ∧ Wv t = Wv s + a * b ∧ sameW s t := by
  have xh := shr31 x
  have xl := and31 x
  have yh := shr31 y
  have yl := and31 y
  rw [hx.1] at xh xl
  rw [hy.1] at yh yl
  have ba := hx.2
  have bb := hy.2
  generalize hAH : x >>> (Int32.toInt64 31 &&& 63) = AH at xh
  generalize hAL : x &&& 2147483647 = AL at xl
  generalize hBH : y >>> (Int32.toInt64 31 &&& 63) = BH at yh
  generalize hBL : y &&& 2147483647 = BL at yl
  have eAH : Ex AH (a / 2147483648) 1073741824 := ⟨xh, by omega⟩
  have eAL : Ex AL (a % 2147483648) 2147483647 := ⟨xl, by omega⟩
  have eBH : Ex BH (b / 2147483648) 1073741824 := ⟨yh, by omega⟩
  have eBL : Ex BL (b % 2147483648) 2147483647 := ⟨yl, by omega⟩
  have eLo := eAL.mul eBL rfl (by decide)
  have eP := eAH.mul eBH rfl (by decide)
  have eQ := eAH.mul eBL rfl (by decide)
  have eR := eAL.mul eBH rfl (by decide)
  have eab : a * b = a / 2147483648 * (b / 2147483648) * (2147483648 * 2147483648) + (a / 2147483648 * (b % 2147483648) + a % 2147483648 * (b / 2147483648)) * 2147483648 + a % 2147483648 * (b % 2147483648) := by
    have h := exp2 (a / 2147483648) (a % 2147483648) (b / 2147483648) (b % 2147483648) 2147483648
    have h1 : a / 2147483648 * 2147483648 + a % 2147483648 = a := by omega
    have h2 : b / 2147483648 * 2147483648 + b % 2147483648 = b := by omega
    rw [h1, h2] at h
    exact h
  have nLo : 0 ≤ a % 2147483648 * (b % 2147483648) := Int.mul_nonneg (by omega) (by omega)
  generalize hp : a / 2147483648 * (b / 2147483648) = p at eP eab
  generalize hq : a / 2147483648 * (b % 2147483648) = q at eQ eab
  generalize hr : a % 2147483648 * (b / 2147483648) = r at eR eab
  generalize ht : a % 2147483648 * (b % 2147483648) = t at eLo eab nLo
  have b1 := eP.2
  have b2 := eQ.2
  have b3 := eR.2
  have b4 := eLo.2
  have sLo := shr31 (AL * BL)
  have mLo := and31 (AL * BL)
  rw [eLo.1] at sLo mLo
  generalize hSL : (AL * BL) >>> (Int32.toInt64 31 &&& 63) = SL at sLo
  generalize hML : (AL * BL) &&& 2147483647 = ML at mLo
  have eSL : Ex SL (t / 2147483648) 2147483647 := ⟨sLo, by omega⟩
  have eMx := (eQ.add eR rfl (by decide)).add eSL rfl (by decide)
  have sMx := shr31 (AH * BL + AL * BH + SL)
  have mMx := and31 (AH * BL + AL * BH + SL)
  rw [eMx.1] at sMx mMx
  generalize hSM : (AH * BL + AL * BH + SL) >>> (Int32.toInt64 31 &&& 63) = SM at sMx
  generalize hMM : (AH * BL + AL * BH + SL) &&& 2147483647 = MM at mMx
  have eSM : Ex SM ((q + r + t / 2147483648) / 2147483648) 2147483649 := ⟨sMx, by omega⟩
  have eHi := eP.add eSM rfl (by decide)
  obtain ⟨w1, w2, w3, w4, w5⟩ := hW
  have g0 : (s.2.2.2 0 + (AH * BH + SM)).toInt = (s.2.2.2 0).toInt + (p + (q + r + t / 2147483648) / 2147483648) := by
    have h1 := eHi.1
    have h2 := eHi.2
    rw [← h1] at h2 ⊢
    exact i64a (by omega) (by omega)
  have g1 : (s.2.2.2 1 + MM).toInt = (s.2.2.2 1).toInt + (q + r + t / 2147483648) % 2147483648 := by
    rw [← mMx]
    exact i64a (by omega) (by omega)
  have g2 : (s.2.2.2 2 + ML).toInt = (s.2.2.2 2).toInt + t % 2147483648 := by
    rw [← mLo]
    exact i64a (by omega) (by omega)
  have e2 := eHi.2
  refine ⟨uG 2 (s.2.2.2 2 + ML) (uG 1 (s.2.2.2 1 + MM) (uG 0 (s.2.2.2 0 + (AH * BH + SM)) s)), ?_, ?_, ?_, rfl, rfl, rfl, ?_⟩
  · unfold f89
    rw [hAH, hAL, hBH, hBL, hSL, hSM, hMM, hML]
    rfl
  · show (s.2.2.2 0 + (AH * BH + SM)).toInt.natAbs ≤ _ ∧ 0 ≤ (s.2.2.2 1 + MM).toInt ∧ (s.2.2.2 1 + MM).toInt ≤ _ ∧ 0 ≤ (s.2.2.2 2 + ML).toInt ∧ (s.2.2.2 2 + ML).toInt ≤ _
    rw [g0, g1, g2]
    refine ⟨?_, ?_, ?_, ?_, ?_⟩ <;> omega
  · show (s.2.2.2 0 + (AH * BH + SM)).toInt * 4611686018427387904 + (s.2.2.2 1 + MM).toInt * 2147483648 + (s.2.2.2 2 + ML).toInt = _
    rw [g0, g1, g2, eab]
    unfold Wv
    omega
  · intro j hj
    show (if j = 2 then _ else if j = 1 then _ else if j = 0 then _ else s.2.2.2 j) = _
    rw [if_neg (by omega), if_neg (by omega), if_neg (by omega)]
theorem or_zero {u v : Int64} (h1 : 0 ≤ u.toInt) (h2 : u.toInt < 2147483648) (h3 : 0 ≤ v.toInt) (h4 : v.toInt < 2147483648) : 0 ≤ (u ||| v).toInt ∧ ((u ||| v).toInt = 0 ↔ u.toInt = 0 ∧ v.toInt = 0) := by
  have e : (u ||| v).toBitVec.toNat = u.toBitVec.toNat ||| v.toBitVec.toNat := by
    show (u.toBitVec ||| v.toBitVec).toNat = _
    exact BitVec.toNat_or ..
  have cu := toI_cond u
  have cv := toI_cond v
  have cw := toI_cond (u ||| v)
  have lu : u.toBitVec.toNat < 2 ^ 64 := u.toBitVec.isLt
  have lv : v.toBitVec.toNat < 2 ^ 64 := v.toBitVec.isLt
  have nu : u.toBitVec.toNat < 2 ^ 31 := by
    by_cases h : 2 * u.toBitVec.toNat < 2 ^ 64
    · rw [if_pos h] at cu; omega
    · rw [if_neg h] at cu; omega
  have nv : v.toBitVec.toNat < 2 ^ 31 := by
    by_cases h : 2 * v.toBitVec.toNat < 2 ^ 64
    · rw [if_pos h] at cv; omega
    · rw [if_neg h] at cv; omega
  have no := Nat.or_lt_two_pow nu nv
  rw [if_pos (by omega)] at cu cv
  rw [e, if_pos (by omega)] at cw
  refine ⟨by omega, ?_⟩
  rw [cw, cu, cv]
  constructor
  · intro h
    have hz : u.toBitVec.toNat ||| v.toBitVec.toNat = 0 := by omega
    have := Nat.or_eq_zero_iff.mp hz
    omega
  · intro h
    have hu : u.toBitVec.toNat = 0 := by omega
    have hv : v.toBitVec.toNat = 0 := by omega
    rw [hu, hv]
    rfl
theorem f90_eq {s : mS} {B : Nat} (hB : B ≤ 3) (hW : Wb s B) : f90 s = some (sgn (Wv s)) := by
  obtain ⟨w1, w2, w3, w4, w5⟩ := hW
  have sl := shr31 (s.2.2.2 2)
  have ml := and31 (s.2.2.2 2)
  generalize hSL : (s.2.2.2 2) >>> (Int32.toInt64 31 &&& 63) = SL at sl
  generalize hML : (s.2.2.2 2) &&& 2147483647 = ML at ml
  have ec : (s.2.2.2 1 + SL).toInt = (s.2.2.2 1).toInt + (s.2.2.2 2).toInt / 2147483648 := by
    rw [← sl]; exact i64a (by omega) (by omega)
  have sc := shr31 (s.2.2.2 1 + SL)
  have mc := and31 (s.2.2.2 1 + SL)
  rw [ec] at sc mc
  generalize hSC : (s.2.2.2 1 + SL) >>> (Int32.toInt64 31 &&& 63) = SC at sc
  generalize hMC : (s.2.2.2 1 + SL) &&& 2147483647 = MC at mc
  have et : (s.2.2.2 0 + SC).toInt = (s.2.2.2 0).toInt + ((s.2.2.2 1).toInt + (s.2.2.2 2).toInt / 2147483648) / 2147483648 := by
    rw [← sc]; exact i64a (by omega) (by omega)
  have hv : Wv s = (s.2.2.2 0 + SC).toInt * 4611686018427387904 + MC.toInt * 2147483648 + ML.toInt := by
    rw [et, mc, ml]
    unfold Wv
    omega
  have e0 : (0 : Int64).toInt = 0 := by decide
  have r1 : 0 ≤ MC.toInt ∧ MC.toInt < 2147483648 := by omega
  have r2 : 0 ≤ ML.toInt ∧ ML.toInt < 2147483648 := by omega
  unfold f90
  rw [hSL, hML, hSC, hMC]
  by_cases hz : s.2.2.2 0 + SC = 0
  · rw [if_pos hz, f98_eq]
    show some (sgn (MC ||| ML).toInt) = _
    have o := or_zero r1.1 r1.2 r2.1 r2.2
    rw [hz, e0] at hv
    rw [hv]
    unfold sgn
    by_cases ho : (MC ||| ML).toInt = 0
    · have := o.2.mp ho
      rw [if_neg (by omega), if_neg (by omega), if_neg (by omega), if_neg (by omega)]
    · have h1 : ¬ (MC.toInt = 0 ∧ ML.toInt = 0) := fun h => ho (o.2.mpr h)
      have h2 := o.1
      rw [if_pos (by omega), if_pos (by omega)]
  · rw [if_neg hz, f98_eq]
    show some (sgn (s.2.2.2 0 + SC).toInt) = _
    have hz' : (s.2.2.2 0 + SC).toInt ≠ 0 := fun h => hz (Int64.toInt_inj.mp (h.trans e0.symm))
    rw [hv]
    generalize (s.2.2.2 0 + SC).toInt = T at hz'
    unfold sgn
    by_cases ht : 0 < T
    · rw [if_pos ht, if_pos (by omega)]
    · rw [if_neg ht, if_pos (by omega), if_neg (by omega), if_pos (by omega)]
theorem sameW.P {s t : mS} (h : sameW s t) : Xc t = Xc s ∧ Yc t = Yc s := by
  unfold Xc Yc
  rw [h.1]
  exact ⟨rfl, rfl⟩
theorem sameW.keeps {s t : mS} (h : sameW s t) (hP : P42 s) : P42 t := by
  unfold P42 at hP ⊢
  rw [h.P.1, h.P.2]
  exact hP
theorem f75_eq {s : mS} (hP : P42 s) {a b c d : Nat} (ha : a < 42) (hb : b < 42) (hc : c < 42) (hd : d < 42) : ∃ t, f75 (nI a) (nI b) (nI c) (nI d) s = some (sgn (inc (Xc s) (Yc s) a b c d), t) ∧ sameW s t := by
  obtain ⟨t0, e0, w0, v0, m0⟩ := f88_eq s
  have P0 := m0.keeps hP
  obtain ⟨x1, d1, E1⟩ := f76_eq P0 hd ha
  obtain ⟨y1, d2, E2⟩ := f71_eq P0 hd hb hc
  obtain ⟨t1, e1, w1, v1, m1⟩ := f89_eq E1 E2 (by decide) w0
  have P1 := m1.keeps P0
  obtain ⟨x2, d3, E3⟩ := f76_eq P1 hd hb
  obtain ⟨y2, d4, E4⟩ := f71_eq P1 hd hc ha
  obtain ⟨t2, e2, w2, v2, m2⟩ := f89_eq E3 E4 (by decide) w1
  have P2 := m2.keeps P1
  obtain ⟨x3, d5, E5⟩ := f76_eq P2 hd hc
  obtain ⟨y3, d6, E6⟩ := f71_eq P2 hd ha hb
  obtain ⟨t3, e3, w3, v3, m3⟩ := f89_eq E5 E6 (by decide) w2
  refine ⟨t3, ?_, ((m0.trans m1).trans m2).trans m3⟩
  unfold f75
  simp only [e0, d1, d2, e1, d3, d4, e2, d5, d6, e3, Option.bind_some, f90_eq (show 0 + 1 + 1 + 1 ≤ 3 by decide) w3, v3, v2, v1, v0]
  rw [m2.P.1, m2.P.2, m1.P.1, m1.P.2, m0.P.1, m0.P.2]
  unfold inc
  rw [Int.zero_add]
