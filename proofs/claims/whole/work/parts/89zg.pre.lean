/-! the call way: what stands before and behind it -/
theorem way_end {s R : mS} {n : Nat} {E lk : Nat → Nat → Prop} {x1 x2 x3 x4 : Int32} (h : I0 s n E lk) (in1 : inb x1 ∧ inb x2) (in2 : inb x3 ∧ inb x4) (z : sn [18, 19, 33, 34, 35, 38, 40, 41, 46, 47, 48, 49, 50, 51, 52] [43, 44, 53] [5, 6, 7, 8, 9, 10, 11, 12, 13, 14, 16, 17, 18, 19] s R)
    (a1 : R.1 18 = upd (upd (s.1 18) 40 x1) 41 x3) (a2 : R.1 19 = upd (upd (s.1 19) 40 x2) 41 x4) (a3 : R.2.1 43 = vp_updL (vp_updL (s.2.1 43) 40 x1.toInt64) 41 x3.toInt64) (a4 : R.2.1 44 = vp_updL (vp_updL (s.2.1 44) 40 x2.toInt64) 41 x4.toInt64) (hMM : MM R n E) (hW : WY R) : Inv R := by
  have hC := h.1
  have hn4 : n ≤ 40 := hC.1.1.2.2.1
  let u := pu 41 x3 x4 (pu 40 x1 x2 s)
  have hCu : CL u n E lk := ⟨(hC.1.xpu hn4 (inb_abs in1.1) (inb_abs in1.2)).xpu (by omega) (inb_abs in2.1) (inb_abs in2.2), hC.2⟩
  have zu : sn [33, 34, 35, 38, 40, 41, 46, 47, 48, 49, 50, 51, 52] [43, 44, 53] [5, 6, 7, 8, 9, 10, 11, 12, 13, 14, 16, 17, 18, 19] u R := by
    refine ⟨fun j hj => ?_, fun j hj => z.2.1 j hj, fun j hj => z.2.2 j hj⟩
    by_cases c1 : j = 18
    · rw [c1, a1]; rfl
    · by_cases c2 : j = 19
      · rw [c2, a2]; rfl
      · rw [z.1 j (by simp at hj ⊢; omega)]
        show s.1 j = (uA 19 _ (uA 18 _ (uA 19 _ (uA 18 _ s)))).1 j
        unfold uA
        simp only
        rw [if_neg c2, if_neg c1, if_neg c2, if_neg c1]
  refine ⟨⟨n, E, lk, hCu.far zu (by decide) (by decide) (by decide), fun j hj => ?_, ?_, ?_, Or.inr hMM⟩, hW⟩
  · rw [a1, a2, a3, a4]
    unfold upd vp_updL
    have := h.2.1 j hj
    by_cases c1 : j = 41
    · simp only [c1, if_pos]
      exact ⟨trivial, trivial⟩
    · by_cases c2 : j = 40
      · simp only [c2, if_pos]
        exact ⟨rfl, rfl⟩
      · simp only [if_neg c1, if_neg c2]
        exact this
  · rw [z.2.2 15 (by decide)]
    exact h.2.2.1
  · exact h.2.2.2.1.same (z.1 45 (by decide))
/-- the reference's first steps -/
theorem ref_pre {s z1 : mS} {n m : Nat} {E lk : Nat → Nat → Prop} {T : Nat → Nat → Nat} {x1 x2 x3 x4 : Int32} (h : I0 s n E lk) (in1 : inb x1 ∧ inb x2) (in2 : inb x3 ∧ inb x4) (rt : ∀ t, agr (Xc s) (Yc s) (Xm t) (Ym t) n → MM t n E → RT t m T) (z : sn [18, 19, 33, 34, 35, 38, 40, 41] [53] [5, 6, 7, 8, 9, 10, 11, 12, 13] s z1) :
    ∃ t, ev (fun k => f128 k (uF 14 0 z1)) t ∧ MM (pm 41 x3 x4 (pm 40 x1 x2 t)) n E ∧ sn [46, 47] [] [16, 17] (uF 14 0 z1) t ∧ PM (pm 41 x3 x4 (pm 40 x1 x2 t)) ∧ RT (pm 41 x3 x4 (pm 40 x1 x2 t)) m T ∧ agr (Xc (pu 41 x3 x4 (pu 40 x1 x2 s))) (Yc (pu 41 x3 x4 (pu 40 x1 x2 s))) (Xm (pm 41 x3 x4 (pm 40 x1 x2 t))) (Ym (pm 41 x3 x4 (pm 40 x1 x2 t))) 42 := by
  have hC := h.1
  have hq := h.2.1
  have hn4 : n ≤ 40 := hC.1.1.2.2.1
  have hPm := hq.P hC.1.1.1
  have zu : sn [18, 19, 33, 34, 35, 38, 40, 41] [53] [5, 6, 7, 8, 9, 10, 11, 12, 13, 14] s (uF 14 0 z1) := (z.mono (by decide) (by decide) (by decide)).trans ((sm_F (LA := [18, 19, 33, 34, 35, 38, 40, 41]) (LJ := [53]) (LF := [5, 6, 7, 8, 9, 10, 11, 12, 13, 14]) (LG := []) (by decide) 0 z1).n)
  obtain ⟨t, e1, e3, e4⟩ := h.f128u zu (by decide) (by decide) (by decide)
  have XY1 := snX zu (by decide) (by decide)
  have XY2 := snX e4 (by decide) (by decide)
  have eX : Xm t = Xm s := XY2.1.trans XY1.1
  have eY : Ym t = Ym s := XY2.2.trans XY1.2
  have agn := hq.X.le (show n ≤ 42 by omega)
  have r1 := rt t (by rw [eX, eY]; exact agn) e3
  have hPt : PM t := fun j hj => by rw [eX, eY]; exact hPm j hj
  refine ⟨t, e1, ?_, e4, pm_P (pm_P hPt in1.1 in1.2) in2.1 in2.2, r1.same rfl rfl, fun j hj => ?_⟩
  · refine e3.over (by rw [eX, eY]; exact h.Mm) (fun i hi => ?_) rfl rfl rfl rfl
    rw [pm_X, pm_Y, if_neg (by omega), if_neg (by omega), pm_X, pm_Y, if_neg (by omega), if_neg (by omega)]
    exact ⟨rfl, rfl⟩
  · rw [pu_X, pu_Y, pm_X, pm_Y, pu_X, pu_Y, pm_X, pm_Y, eX, eY]
    have := hq.X j hj
    split
    · exact ⟨rfl, rfl⟩
    · split
      · exact ⟨rfl, rfl⟩
      · exact this
def kont (k : Nat) (x1 x2 x3 x4 v1 v2 : Int32) (w : mS) : Option (Int32 × mS) := if v1 < 0 then some (-1, w) else (if 0 ≤ v2 then (f148 k v2 w).bind fun q21 => rdI 100 v1 ((if (¬ (q21.1 50 (Int32.toNatClampNeg v1)) = (1000 : Int32)) then pt (uF 18 (1 : Int32) q21) fun s25 => rdI 100 (0 : Int32) (pt (uA 48 (upd (s25.1 48) (Int32.toNatClampNeg 0) v1) s25) fun s28 => r147 k x1 x2 x3 x4 v1 v2 s28) else some ((-1 : Int32), q21))) else some (-1, w))
theorem j147_eq (k : Nat) (x1 x2 x3 x4 : Int32) (s t : mS) (ht : f128 k s = some t) : j147_31 k x1 x2 x3 x4 s = (f146 k 40 (pm 41 x3 x4 (pm 40 x1 x2 t))).bind fun q15 => (f146 k 41 (pm 41 x3 x4 (pm 40 x1 x2 t))).bind fun q17 => kont k x1 x2 x3 x4 q15 q17 (pm 41 x3 x4 (pm 40 x1 x2 t)) := by
  have r0 : ∀ {α : Type} (K : Option α), rdI 42 40 K = K := fun K => by rw [show (40 : Int32) = nI 40 from rfl]; exact rdI_nI (by decide) (by decide)
  have r1 : ∀ {α : Type} (K : Option α), rdI 42 41 K = K := fun K => by rw [show (41 : Int32) = nI 41 from rfl]; exact rdI_nI (by decide) (by decide)
  have c0 : Int32.toNatClampNeg 40 = 40 := by rw [show (40 : Int32) = nI 40 from rfl]; exact nI_clamp (by decide)
  have c1 : Int32.toNatClampNeg 41 = 41 := by rw [show (41 : Int32) = nI 41 from rfl]; exact nI_clamp (by decide)
  unfold j147_31 kont pm
  rw [ht]
  simp only [Option.bind_some, r0, r1, c0, c1, pt]
  have w1 : ∀ (v : Nat → Int64) (s : mS), (uJ 43 v s).2.1 44 = s.2.1 44 := fun v s => rfl
  simp only [w1]
theorem f147_eq {z1 t : mS} {k : Nat} {x1 x2 x3 x4 : Int32} (in1 : inb x1 ∧ inb x2) (in2 : inb x3 ∧ inb x4) (ht : f128 k (uF 14 0 z1) = some t) {v1 v2 : Int32} (h1 : f146 k 40 (pm 41 x3 x4 (pm 40 x1 x2 t)) = some v1) (h2 : f146 k 41 (pm 41 x3 x4 (pm 40 x1 x2 t)) = some v2) : f147 k x1 x2 x3 x4 z1 = kont k x1 x2 x3 x4 v1 v2 (pm 41 x3 x4 (pm 40 x1 x2 t)) := by
  unfold f147
  rw [(f115_eq x1 x2 z1).1 in1, (f115_eq x3 x4 z1).1 in2]
  simp only [Option.bind_some]
  rw [if_neg (show ¬ (1 : Int32) = 0 by decide), if_neg (show ¬ (1 : Int32) = 0 by decide), f117_eq]
  simp only [Option.bind_some]
  rw [if_pos (show (if (0 : Int32) ≤ 0 then (0 : Int32) else 1) = 0 by decide), j147_eq k x1 x2 x3 x4 _ t ht, h1]
  simp only [Option.bind_some]
  rw [h2]
  simp only [Option.bind_some]
