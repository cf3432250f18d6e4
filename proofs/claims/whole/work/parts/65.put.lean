/-! M2: what stands behind the points does not touch the mesh -/
def agr (X Y X' Y' : Nat → Int) (n : Nat) : Prop := ∀ i, i < n → X i = X' i ∧ Y i = Y' i
theorem agr.xar {X Y X' Y' : Nat → Int} {n a b c : Nat} (h : agr X Y X' Y' n) (ha : a < n) (hb : b < n) (hc : c < n) : ar X Y a b c = ar X' Y' a b c := by
  unfold ar
  rw [(h a ha).1, (h a ha).2, (h b hb).1, (h b hb).2, (h c hc).1, (h c hc).2]
theorem agr.xoS {X Y X' Y' : Nat → Int} {n a b c : Nat} (h : agr X Y X' Y' n) (ha : a < n) (hb : b < n) (hc : c < n) : oS X Y a b c ↔ oS X' Y' a b c := by
  unfold oS dt
  rw [h.xar ha hb hc, (h a ha).1, (h a ha).2, (h b hb).1, (h b hb).2, (h c hc).1, (h c hc).2]
theorem agr.xclr {X Y X' Y' : Nat → Int} {n a b : Nat} (h : agr X Y X' Y' n) (ha : a < n) (hb : b < n) : clr X Y n a b ↔ clr X' Y' n a b := by
  unfold clr
  exact ⟨fun k p hp h1 h2 h3 => k p hp h1 h2 ((h.xoS ha hb hp).mpr h3), fun k p hp h1 h2 h3 => k p hp h1 h2 ((h.xoS ha hb hp).mp h3)⟩
theorem agr.xcrs {X Y X' Y' : Nat → Int} {n a b c d : Nat} (h : agr X Y X' Y' n) (ha : a < n) (hb : b < n) (hc : c < n) (hd : d < n) : crs X Y a b c d ↔ crs X' Y' a b c d := by
  unfold crs
  rw [h.xar ha hb hc, h.xar ha hb hd, h.xar hc hd ha, h.xar hc hd hb]
theorem agr.sym {X Y X' Y' : Nat → Int} {n : Nat} (h : agr X Y X' Y' n) : agr X' Y' X Y n := fun i hi => ⟨(h i hi).1.symm, (h i hi).2.symm⟩
theorem agr.xDst {X Y X' Y' : Nat → Int} {n : Nat} (h : agr X Y X' Y' n) (k : Dst X Y n) : Dst X' Y' n := fun i j hi hj h1 h2 => k i j hi hj (by rw [(h i hi).1, (h j hj).1]; exact h1) (by rw [(h i hi).2, (h j hj).2]; exact h2)
theorem agr.xMx {X Y X' Y' : Nat → Int} {n : Nat} {E : Nat → Nat → Prop} (h : agr X Y X' Y' n) (k : Mx X Y n E) : Mx X' Y' n E := by
  obtain ⟨m1, m2, m3, m4⟩ := k
  refine ⟨m1, fun a b hab => (h.xclr (m1 a b hab).1 (m1 a b hab).2.1).mp (m2 a b hab), fun a b c d h1 h2 hx => m3 a b c d h1 h2 ((h.xcrs (m1 a b h1).1 (m1 a b h1).2.1 (m1 c d h2).1 (m1 c d h2).2.1).mpr hx), fun a b ha hb hab hc hno => m4 a b ha hb hab ((h.xclr ha hb).mpr hc) fun c d hcd hx => hno c d hcd ((h.xcrs ha hb (m1 c d hcd).1 (m1 c d hcd).2.1).mp hx)⟩
theorem agr.xTr {X Y X' Y' : Nat → Int} {n a b c : Nat} {E : Nat → Nat → Prop} (h : agr X Y X' Y' n) (hM : Mx X Y n E) (k : Tr X Y n E a b c) : Tr X' Y' n E a b c := by
  have l := k.lt hM
  obtain ⟨h1, h2, h3, h4, h5⟩ := k
  refine ⟨h1, h2, h3, by rw [← h.xar l.1 l.2.1 l.2.2]; exact h4, fun p hp n1 n2 n3 q => h5 p hp n1 n2 n3 ?_⟩
  rw [h.xar l.1 l.2.1 hp, h.xar l.2.1 l.2.2 hp, h.xar l.2.2 l.1 hp]
  exact q
theorem agr.xTr_iff {X Y X' Y' : Nat → Int} {n a b c : Nat} {E : Nat → Nat → Prop} (h : agr X Y X' Y' n) (hM : Mx X Y n E) : Tr X Y n E a b c ↔ Tr X' Y' n E a b c := ⟨h.xTr hM, h.sym.xTr (h.xMx hM)⟩
theorem agr.xhasT {X Y X' Y' : Nat → Int} {n a b : Nat} {E : Nat → Nat → Prop} (h : agr X Y X' Y' n) (hM : Mx X Y n E) : hasT X Y n E a b ↔ hasT X' Y' n E a b := ⟨fun ⟨c, hc⟩ => ⟨c, h.xTr hM hc⟩, fun ⟨c, hc⟩ => ⟨c, h.sym.xTr (h.xMx hM) hc⟩⟩
theorem agr.xlst {X Y X' Y' : Nat → Int} {n a b : Nat} {E : Nat → Nat → Prop} {k : Nat → Int} (h : agr X Y X' Y' n) (hM : Mx X Y n E) : lst X Y n E k a b ↔ lst X' Y' n E k a b := ⟨fun ⟨c, hc, k1, k2⟩ => ⟨c, h.xTr hM hc, k1, k2⟩, fun ⟨c, hc, k1, k2⟩ => ⟨c, h.sym.xTr (h.xMx hM) hc, k1, k2⟩⟩
theorem agr.xNL {X Y X' Y' : Nat → Int} {n u : Nat} {E : Nat → Nat → Prop} {L : List Nat} (h : agr X Y X' Y' n) (hM : Mx X Y n E) (k : NL X Y n E u L) : NL X' Y' n E u L := ⟨k.1, fun c => by rw [k.2 c, h.xlst hM]⟩
theorem agr.xGH {X Y X' Y' : Nat → Int} {n a b c d : Nat} (h : agr X Y X' Y' n) (ha : a < n) (hb : b < n) (hc : c < n) (hd : d < n) : GH X Y (Ht X Y) a b c d = GH X' Y' (Ht X' Y') a b c d := by
  unfold GH Ht
  rw [h.xar hd hb hc, h.xar hd hc ha, h.xar hd ha hb, (h a ha).1, (h a ha).2, (h b hb).1, (h b hb).2, (h c hc).1, (h c hc).2, (h d hd).1, (h d hd).2]
theorem agr.xbnd {X Y X' Y' : Nat → Int} {n x y : Nat} {E : Nat → Nat → Prop} (h : agr X Y X' Y' n) (hM : Mx X Y n E) (k : bnd X Y n E x y) : bnd X' Y' n E x y := fun z w h1 h2 => by
  have l1 := h1.lt (h.xMx hM)
  have l2 := h2.lt (h.xMx hM)
  rw [← h.xGH l1.1 l1.2.1 l1.2.2 l2.2.2]
  exact k z w (h.sym.xTr (h.xMx hM) h1) (h.sym.xTr (h.xMx hM) h2)
/-- the mesh over another state that has the same points, tables and links -/
theorem MH.over {s t : mS} {n : Nat} {E lk lk' : Nat → Nat → Prop} (h : MH s n E lk) (ha : agr (Xc s) (Yc s) (Xc t) (Yc t) n) (hP : P42 t) (h0 : t.2.2.1 0 = s.2.2.1 0) (h24 : t.1 24 = s.1 24) (h25 : t.1 25 = s.1 25) (h26 : t.1 26 = s.1 26) (h27 : t.1 27 = s.1 27) (h28 : t.2.1 28 = s.2.1 28) (h2 : t.2.2.1 2 = s.2.2.1 2) (h3 : t.2.2.1 3 = s.2.2.1 3)
    (hl : LKc t lk') (hlE : ∀ x y, lk' x y → E x y) (hb : ∀ x y, ¬ lk' x y → ¬ lk x y ∨ bnd (Xc s) (Yc s) n E x y) : MH t n E lk' := by
  obtain ⟨⟨c1, c2, c3, c4, c5, c6⟩, m2, ⟨L, m3, m3'⟩, m4, m5, m6⟩ := h
  refine ⟨⟨hP, by rw [h0]; exact c2, c3, ha.xDst c4, ha.xMx c5, fun x y hx hy => ?_⟩, m2.same h27 h28 h3, ⟨L, ha.xNL c5 m3, by rw [h2]; exact m3'.1, fun i c z hi hT => ?_⟩, hl, hlE, fun x y k => ?_⟩
  · obtain ⟨g1, g2⟩ := c6 x y hx hy
    rw [h24]
    exact ⟨fun z hz => g1 z ((ha.xTr_iff c5).mpr hz), fun hn => g2 fun q => hn ((ha.xhasT c5).mp q)⟩
  · rw [h25, h26]
    exact m3'.2 i c z hi ((ha.xTr_iff c5).mpr hT)
  · rcases hb x y k with q | q
    · exact ha.xbnd c5 (m6 x y q)
    · exact ha.xbnd c5 q
theorem f68_eq {i : Nat} (hi : i < 42) (x y : Int32) (s : mS) : f68 (nI i) x y s = some (uA 19 (upd (s.1 19) i y) (uA 18 (upd (s.1 18) i x) s)) := by
  unfold f68
  simp only [pt, rdI_nI hi (show 42 < 2 ^ 31 by decide), nI_clamp (show i < 2 ^ 31 by omega)]
  rfl
/-- a place is put at i -/
def pu (i : Nat) (x y : Int32) (s : mS) : mS := uA 19 (upd (s.1 19) i y) (uA 18 (upd (s.1 18) i x) s)
theorem pu_X (i : Nat) (x y : Int32) (s : mS) (j : Nat) : Xc (pu i x y s) j = if j = i then x.toInt else Xc s j := by
  show ((if j = i then x else s.1 18 j) : Int32).toInt = _
  split <;> rfl
theorem pu_Y (i : Nat) (x y : Int32) (s : mS) (j : Nat) : Yc (pu i x y s) j = if j = i then y.toInt else Yc s j := by
  show ((if j = i then y else s.1 19 j) : Int32).toInt = _
  split <;> rfl
theorem pu_P {i : Nat} {x y : Int32} {s : mS} (h : P42 s) (hx : x.toInt.natAbs ≤ 536870911) (hy : y.toInt.natAbs ≤ 536870911) : P42 (pu i x y s) := fun j hj => by
  rw [pu_X, pu_Y]
  split
  · exact ⟨hx, hy⟩
  · exact h j hj
theorem pu_agr {i n : Nat} (h : n ≤ i) (x y : Int32) (s : mS) : agr (Xc s) (Yc s) (Xc (pu i x y s)) (Yc (pu i x y s)) n := fun j hj => by
  rw [pu_X, pu_Y, if_neg (by omega), if_neg (by omega)]
  exact ⟨rfl, rfl⟩
theorem MH.xpu {s : mS} {n i : Nat} {E lk : Nat → Nat → Prop} (h : MH s n E lk) (hi : n ≤ i) {x y : Int32} (hx : x.toInt.natAbs ≤ 536870911) (hy : y.toInt.natAbs ≤ 536870911) : MH (pu i x y s) n E lk :=
  h.over (pu_agr hi x y s) (pu_P h.1.1 hx hy) rfl rfl rfl rfl rfl rfl rfl rfl ⟨h.2.2.2.1.1, h.2.2.2.1.2⟩ h.2.2.2.2.1 fun _ _ k => Or.inl k
/-- all that the class's points, links and mesh write -/
def kc (s t : mS) : Prop := sm [18, 19, 24, 25, 26, 27, 30, 31] [22, 28] [0, 1, 2, 3, 4] [0, 1, 2] s t
theorem mz.k {s t : mS} (h : mz s t) : kc s t := h.mono (by decide) (by decide) (by decide) (by decide)
theorem pu_k (i : Nat) (x y : Int32) (s : mS) : kc s (pu i x y s) := (sm_A (by decide) _ s).trans (sm_A (by decide) _ _)
