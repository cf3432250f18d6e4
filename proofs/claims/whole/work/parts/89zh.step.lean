/-! THE CALL WAY -/
theorem f111_eq {s : mS} {k : Nat} {x1 x2 x3 x4 v1 v2 : Int32} (in1 : inb x1 ∧ inb x2) (in2 : inb x3 ∧ inb x4) (h1 : f50 k 40 (pu 41 x3 x4 (pu 40 x1 x2 s)) = some v1) (h2 : f50 k 41 (pu 41 x3 x4 (pu 40 x1 x2 s)) = some v2) : f111 k x1 x2 x3 x4 s = if v1 = -1 then some (.inl (-1, pu 41 x3 x4 (pu 40 x1 x2 s))) else if v2 = -1 then some (.inl (-1, pu 41 x3 x4 (pu 40 x1 x2 s))) else (f81 k v1 v2 (pu 41 x3 x4 (pu 40 x1 x2 s))).bind fun q17 => if ¬ q17.1 = 0 then (f84 k q17.2).bind fun q20 => some (.inl (q20.1, q20.2)) else some (.inl (-1, q17.2)) := by
  unfold f111
  rw [(f97_eq x1 x2 s).1 in1, bx_l, (f97_eq x3 x4 s).1 in2, bx_l, show f68 40 x1 x2 s = some (pu 40 x1 x2 s) from f68_eq (by decide) x1 x2 s]
  simp only [Option.bind_some]
  rw [show f68 41 x3 x4 (pu 40 x1 x2 s) = some (pu 41 x3 x4 (pu 40 x1 x2 s)) from f68_eq (by decide) x3 x4 _]
  simp only [Option.bind_some]
  rw [h1, h2]
  simp only [Option.bind_some]
theorem g11_of {s s' R : mS} {k : Nat} {x1 x2 x3 x4 c : Int32} (h1 : f111 k x1 x2 x3 x4 s = some (.inl (c, s'))) (h2 : f147 k x1 x2 x3 x4 (ou c.toInt64 s') = some (c, R)) (h3 : R.2.2.1 14 = 0) (h4 : R.2.1 53 0 = c.toInt64) : g11 k x1 x2 x3 x4 s = some (R, []) := by
  unfold g11 o166
  rw [h1]
  show (f147 k x1 x2 x3 x4 (ou c.toInt64 s')).bind _ = _
  rw [h2]
  simp only [Option.bind_some]
  unfold f113
  simp only [Option.bind_some]
  rw [h3, if_pos rfl, if_neg (fun q => q trivial), show Int32.toNatClampNeg 0 = 0 from rfl, h4, if_pos rfl]
/-- what the reference starts from -/
theorem pre_frame {s z1 t : mS} {x1 x2 x3 x4 : Int32} (zz : sn [33, 34, 35, 38, 40, 41] [53] [5, 6, 7, 8, 9, 10, 11, 12, 13] (pu 41 x3 x4 (pu 40 x1 x2 s)) z1) (e4 : sn [46, 47] [] [16, 17] (uF 14 0 z1) t) : sn [46, 47] [43, 44] [14, 16, 17] z1 (pm 41 x3 x4 (pm 40 x1 x2 t)) ∧ (pm 41 x3 x4 (pm 40 x1 x2 t)).1 18 = upd (upd (s.1 18) 40 x1) 41 x3 ∧ (pm 41 x3 x4 (pm 40 x1 x2 t)).1 19 = upd (upd (s.1 19) 40 x2) 41 x4 ∧ (pm 41 x3 x4 (pm 40 x1 x2 t)).2.1 43 = vp_updL (vp_updL (s.2.1 43) 40 x1.toInt64) 41 x3.toInt64 ∧ (pm 41 x3 x4 (pm 40 x1 x2 t)).2.1 44 = vp_updL (vp_updL (s.2.1 44) 40 x2.toInt64) 41 x4.toInt64 ∧ (pm 41 x3 x4 (pm 40 x1 x2 t)).2.2.1 14 = 0 ∧ (pm 41 x3 x4 (pm 40 x1 x2 t)).2.1 53 = z1.2.1 53 := by
  refine ⟨((((sm_F (LA := [46, 47]) (LJ := [43, 44]) (LF := [14, 16, 17]) (LG := []) (by decide) 0 z1).n).trans (e4.mono (by decide) (by decide) (by decide))).trans ((pm_z 40 x1 x2 t).mono (by decide) (by decide) (by decide))).trans ((pm_z 41 x3 x4 _).mono (by decide) (by decide) (by decide)), ?_, ?_, ?_, ?_, ?_, ?_⟩
  · show t.1 18 = _
    rw [e4.1 18 (by decide)]
    show z1.1 18 = _
    rw [zz.1 18 (by decide)]
    rfl
  · show t.1 19 = _
    rw [e4.1 19 (by decide)]
    show z1.1 19 = _
    rw [zz.1 19 (by decide)]
    rfl
  · show vp_updL (vp_updL (t.2.1 43) 40 x1.toInt64) 41 x3.toInt64 = _
    rw [e4.2.1 43 (by decide)]
    show vp_updL (vp_updL (z1.2.1 43) 40 x1.toInt64) 41 x3.toInt64 = _
    rw [zz.2.1 43 (by decide)]
    rfl
  · show vp_updL (vp_updL (t.2.1 44) 40 x2.toInt64) 41 x4.toInt64 = _
    rw [e4.2.1 44 (by decide)]
    show vp_updL (vp_updL (z1.2.1 44) 40 x2.toInt64) 41 x4.toInt64 = _
    rw [zz.2.1 44 (by decide)]
    rfl
  · show t.2.2.1 14 = 0
    rw [e4.2.2 14 (by decide)]
    exact uF_at 14 0 _
  · show t.2.1 53 = _
    rw [e4.2.1 53 (by decide)]
    rfl
theorem CW.cls {s1 : mS} {n m d g a : Nat} {E lk : Nat → Nat → Prop} {T : Nat → Nat → Nat} {P S : Nat → Nat} (h : CW s1 n m d E lk T g a P S) : ∃ c s', ev (fun k => f84 k s1) (c, s') ∧ sm [38, 40, 41] [] [6, 7, 8, 9, 10, 11, 12, 13] [] s1 s' := by
  obtain ⟨s', TS, l', b', c1, c2, _⟩ := h.way (ZN := fun _ _ _ _ => True) (ZS := fun _ _ _ _ _ _ _ _ => True) (Z0 := fun _ => True) (fun G => ⟨fun _ _ _ _ _ _ => trivial, fun _ _ _ _ _ _ => trivial, fun _ _ _ _ _ _ _ _ _ _ _ _ _ _ => trivial, fun _ _ _ _ _ _ _ _ _ _ _ _ _ => trivial, fun _ _ _ _ _ _ _ _ _ _ _ _ _ => trivial⟩) (fun G _ _ _ _ _ _ _ => trivial) (fun _ _ _ _ _ _ _ => trivial) (fun _ _ _ _ _ _ _ => trivial) (fun _ _ _ => trivial)
  exact ⟨_, s', c1, c2⟩
theorem pu2_z (x1 x2 x3 x4 : Int32) (s : mS) : sn [18, 19] [] [] s (pu 41 x3 x4 (pu 40 x1 x2 s)) := (pu_z 40 x1 x2 s).trans (pu_z 41 x3 x4 _)
/-- no triangle, or no row: nothing is written but the places -/
theorem step11_no {s s' R : mS} {n k : Nat} {E lk : Nat → Nat → Prop} {x1 x2 x3 x4 : Int32} (h : I0 s n E lk) (hw : WY s) (in1 : inb x1 ∧ inb x2) (in2 : inb x3 ∧ inb x4) (h1 : f111 k x1 x2 x3 x4 s = some (.inl (-1, s'))) (zs : sn [34, 35] [] [] (pu 41 x3 x4 (pu 40 x1 x2 s)) s') {t : mS} (e4 : sn [46, 47] [] [16, 17] (uF 14 0 (ou (-1 : Int32).toInt64 s')) t) (hMM : MM (pm 41 x3 x4 (pm 40 x1 x2 t)) n E) (zR : sm [50] [] [] [] (pm 41 x3 x4 (pm 40 x1 x2 t)) R) (h2 : f147 k x1 x2 x3 x4 (ou (-1 : Int32).toInt64 s') = some (-1, R)) : g11 k x1 x2 x3 x4 s = some (R, []) ∧ Inv R := by
  have zz : sn [33, 34, 35, 38, 40, 41] [53] [5, 6, 7, 8, 9, 10, 11, 12, 13] (pu 41 x3 x4 (pu 40 x1 x2 s)) (ou (-1 : Int32).toInt64 s') := (zs.mono (by decide) (by decide) (by decide)).trans ((ou_z _ s').mono (by decide) (by decide) (by decide))
  obtain ⟨p1, p2, p3, p4, p5, p6, p7⟩ := pre_frame zz e4
  have zr : sn [18, 19, 34, 35, 46, 47, 50] [43, 44, 53] [14, 16, 17] s R := ((((pu2_z x1 x2 x3 x4 s).mono (by decide) (by decide) (by decide)).trans ((zs.mono (by decide) (by decide) (by decide)).trans ((ou_z (-1 : Int32).toInt64 s').mono (by decide) (by decide) (by decide)))).trans (p1.mono (by decide) (by decide) (by decide))).trans (zR.n.mono (by decide) (by decide) (by decide))
  refine ⟨g11_of h1 h2 ?_ ?_, way_end h in1 in2 (zr.mono (by decide) (by decide) (by decide)) ?_ ?_ ?_ ?_ ?_ ?_⟩
  · rw [zR.2.2.1 14 (by decide)]; exact p6
  · rw [zR.2.1 53 (by decide), p7]; exact ou_at _ _
  · rw [zR.1 18 (by decide)]; exact p2
  · rw [zR.1 19 (by decide)]; exact p3
  · rw [zR.2.1 43 (by decide)]; exact p4
  · rw [zR.2.1 44 (by decide)]; exact p5
  · have XY := snX zR.n (by decide) (by decide)
    obtain ⟨q1, L, q2, q3, q4⟩ := hMM
    refine ⟨by rw [zR.2.2.1 16 (by decide)]; exact q1, L, by rw [XY.1, XY.2]; exact q2, ⟨by rw [zR.2.2.1 17 (by decide)]; exact q3.1, fun i c z hi hT => ?_⟩, fun k => (q4 k).same (zR.1 46 (by decide))⟩
    rw [zR.1 47 (by decide)]
    rw [XY.1, XY.2] at hT
    exact q3.2 i c z hi hT
  · unfold WY at hw ⊢
    rw [zr.1 48 (by decide), zr.1 33 (by decide), zr.1 49 (by decide), zr.1 41 (by decide), zr.2.2 5 (by decide), zr.2.2 18 (by decide), zr.2.2 9 (by decide), zr.2.2 19 (by decide)]
    exact hw
