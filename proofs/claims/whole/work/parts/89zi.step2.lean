/-! THE CALL WAY, whole -/
theorem nI_neg {a : Nat} (h : a < 2 ^ 31) : ¬ nI a < 0 := fun q => by
  have := (nI_ltI (b := 0) h (by omega)).mp q
  omega
theorem nI_nn {a : Nat} (h : a < 2 ^ 31) : (0 : Int32) ≤ nI a := (nI_leI (a := 0) (by omega) h).mpr (Nat.zero_le _)
theorem step11 {s : mS} (hI : Inv s) (x1 x2 x3 x4 : Int32) : ∃ k q, g11 k x1 x2 x3 x4 s = some q ∧ Inv q.1 := by
  obtain ⟨⟨n, E, lk, h⟩, hw⟩ := hI
  have hC := h.1
  have hq := h.2.1
  have hn4 : n ≤ 40 := hC.1.1.2.2.1
  by_cases in1 : inb x1 ∧ inb x2
  · by_cases in2 : inb x3 ∧ inb x4
    · obtain ⟨m, T, ct, rt⟩ := hC.ct
      have hM := hC.1.1.2.2.2.2.1
      have hm := ct.2.1
      let u := pu 41 x3 x4 (pu 40 x1 x2 s)
      have hCu : CL u n E lk := ⟨(hC.1.xpu hn4 (inb_abs in1.1) (inb_abs in1.2)).xpu (by omega) (inb_abs in2.1) (inb_abs in2.2), hC.2⟩
      have agu : agr (Xc s) (Yc s) (Xc u) (Yc u) n := fun i hi => by
        have a1 := pu_agr hn4 x1 x2 s i hi
        have a2 := pu_agr (show n ≤ 41 by omega) x3 x4 (pu 40 x1 x2 s) i hi
        exact ⟨a1.1.trans a2.1, a1.2.trans a2.2⟩
      have ctu : CT u n E m T := ct.over hM agu rfl rfl rfl
      have hMu := hCu.1.1.2.2.2.2.1
      have hDu := hCu.1.1.2.2.2.1
      have lt42 : ∀ i k, i < m → k < 3 → T i k < 42 := fun i k hi hk => by have := ct.1.lt hM hi hk; omega
      have lt40 : ∀ i k, i < m → k < 3 → T i k < 40 := fun i k hi hk => by have := ct.1.lt hM hi hk; omega
      obtain ⟨v1, ⟨K1, a1⟩, l1⟩ := f50T_ev hCu.1.1.1 hn4 hMu ctu (show 40 < 42 by decide)
      obtain ⟨v2, ⟨K2, a2⟩, l2⟩ := f50T_ev hCu.1.1.1 hn4 hMu ctu (show 41 < 42 by decide)
      -- the reference's first steps, whatever the class has written
      have pre : ∀ z1, sn [33, 34, 35, 38, 40, 41] [53] [5, 6, 7, 8, 9, 10, 11, 12, 13] u z1 → ∃ t, ev (fun k => f128 k (uF 14 0 z1)) t ∧ MM (pm 41 x3 x4 (pm 40 x1 x2 t)) n E ∧ sn [46, 47] [] [16, 17] (uF 14 0 z1) t ∧ PM (pm 41 x3 x4 (pm 40 x1 x2 t)) ∧ RT (pm 41 x3 x4 (pm 40 x1 x2 t)) m T ∧ agr (Xc u) (Yc u) (Xm (pm 41 x3 x4 (pm 40 x1 x2 t))) (Ym (pm 41 x3 x4 (pm 40 x1 x2 t))) 42 ∧ ev (fun k => f146 k (nI 40) (pm 41 x3 x4 (pm 40 x1 x2 t))) v1 ∧ ev (fun k => f146 k (nI 41) (pm 41 x3 x4 (pm 40 x1 x2 t))) v2 := by
        intro z1 zz
        obtain ⟨t, t1, t2, t3, t4, t5, t6⟩ := ref_pre (x1 := x1) (x2 := x2) (x3 := x3) (x4 := x4) h in1 in2 (fun t q1 q2 => (rt t q1 q2).1) (((pu2_z x1 x2 x3 x4 s).mono (by decide) (by decide) (by decide)).trans (zz.mono (by decide) (by decide) (by decide)))
        obtain ⟨w1, b1, c1⟩ := f146_ev t4 t5 hm lt42 (show 40 < 42 by decide)
        obtain ⟨w2, b2, c2⟩ := f146_ev t4 t5 hm lt42 (show 41 < 42 by decide)
        have e1 : w1 = v1 := lyT_uniq c1 (t6.xlyT (by decide) lt42 l1)
        have e2 : w2 = v2 := lyT_uniq c2 (t6.xlyT (by decide) lt42 l2)
        rw [e1] at b1
        rw [e2] at b2
        exact ⟨t, t1, t2, t3, t4, t5, t6, b1, b2⟩
      have z0 : sn [34, 35] [] [] u u := ⟨fun _ _ => rfl, fun _ _ => rfl, fun _ _ => rfl⟩
      -- one of the places lies in no triangle
      have none : (v1 = -1 ∨ (∃ a, v1 = nI a ∧ a < m) ∧ v2 = -1) → ∃ k q, g11 k x1 x2 x3 x4 s = some q ∧ Inv q.1 := by
        intro hv
        obtain ⟨t, ⟨K3, t1⟩, t2, t3, t4, t5, t6, ⟨K4, b1⟩, ⟨K5, b2⟩⟩ := pre (ou (-1 : Int32).toInt64 u) ((ou_z _ u).mono (by decide) (by decide) (by decide))
        have k1 : f50 (K1 + K2 + K3 + K4 + K5) 40 u = some v1 := a1 _ (by omega)
        have k2 : f50 (K1 + K2 + K3 + K4 + K5) 41 u = some v2 := a2 _ (by omega)
        have k3 : f128 (K1 + K2 + K3 + K4 + K5) (uF 14 0 (ou (-1 : Int32).toInt64 u)) = some t := t1 _ (by omega)
        have k4 : f146 (K1 + K2 + K3 + K4 + K5) 40 (pm 41 x3 x4 (pm 40 x1 x2 t)) = some v1 := b1 _ (by omega)
        have k5 : f146 (K1 + K2 + K3 + K4 + K5) 41 (pm 41 x3 x4 (pm 40 x1 x2 t)) = some v2 := b2 _ (by omega)
        have e111 : f111 (K1 + K2 + K3 + K4 + K5) x1 x2 x3 x4 s = some (.inl (-1, u)) := by
          rw [f111_eq in1 in2 k1 k2]
          rcases hv with q | ⟨_, q⟩
          · rw [if_pos q]
          · by_cases c : v1 = -1
            · rw [if_pos c]
            · rw [if_neg c, if_pos q]
        have e147 : f147 (K1 + K2 + K3 + K4 + K5) x1 x2 x3 x4 (ou (-1 : Int32).toInt64 u) = some (-1, pm 41 x3 x4 (pm 40 x1 x2 t)) := by
          rw [f147_eq in1 in2 k3 k4 k5]
          unfold kont
          rcases hv with q | ⟨⟨a, q1, q2⟩, q⟩
          · rw [q, if_pos (by decide)]
          · rw [q1, if_neg (nI_neg (by omega)), q, if_neg (by decide)]
        exact ⟨_, _, step11_no h hw in1 in2 e111 z0 t3 t2 (sm.refl _) e147⟩
      rcases l1 with ⟨a, am, ea, hTa, _⟩ | ⟨ea, _⟩
      · rcases l2 with ⟨g, gm, eg, hTg, _⟩ | ⟨eg, _⟩
        · -- both lie in triangles
          have hl := hCu.1.2.2.2.1
          have hG : ∀ i k, i < m → k < 3 → ∃ r, f64 (nI i) (nI k) u = some r ∧ gt m T lk i k r := fun i k hi hk => f64_ev hCu.1.1 hl ctu hi hk
          have hU : ∀ i k j j', nx m T lk i k j → nx m T lk i k j' → j = j' := fun i k j j' q1 q2 => nx_uniq ctu.1 q1 q2
          obtain ⟨reach, row⟩ := f81_ev (s0 := u) (T := T) hl.1 hm gm am ctu.2.2.1 hU hG
          have k0 : ∀ k, K1 + K2 ≤ k → f50 k 40 u = some (nI a) ∧ f50 k 41 u = some (nI g) := fun k hk => ⟨by have := a1 k (by omega); rw [← ea]; exact this, by have := a2 k (by omega); rw [← eg]; exact this⟩
          -- the reference's distances
          have dist : ∀ w : mS, RT w m T → w.1 45 = s.1 45 → ∃ t, ev (fun k => f148 k (nI g) w) t ∧ sm [50] [] [] [] w t ∧ dR t m T lk g := fun w rw' h45 => f148_ev hm gm rw'.1 hU (fun s' zs i k hi hk => f149_ev hMu hn4 ctu.1 (rw'.same (zs.1 47 (by decide)) (zs.2.2.1 17 (by decide))) hm (h.2.2.2.1.same (by rw [zs.1 45 (by decide)]; exact h45)) hi hk) reach
          rcases row with ⟨no, u', ⟨K3, e3⟩, z3⟩ | ⟨d, P, S, u', hd, hRow, ⟨K3, e3⟩, z3, f5, r33⟩
          · -- no row
            have z3' : sn [34, 35] [] [] u u' := z3.n
            obtain ⟨t, ⟨K4, t1⟩, t2, t3, t4, t5, t6, ⟨K5, b1⟩, ⟨K6, b2⟩⟩ := pre (ou (-1 : Int32).toInt64 u') ((z3'.mono (by decide) (by decide) (by decide)).trans ((ou_z _ u').mono (by decide) (by decide) (by decide)))
            have w45 : (pm 41 x3 x4 (pm 40 x1 x2 t)).1 45 = s.1 45 := by
              show t.1 45 = _
              rw [t3.1 45 (by decide)]
              show u'.1 45 = _
              rw [z3.1 45 (by decide)]
              rfl
            obtain ⟨R, ⟨K7, e7⟩, z7, d7⟩ := dist _ t5 w45
            obtain ⟨K, hK⟩ : ∃ K, K = K1 + K2 + K3 + K4 + K5 + K6 + K7 := ⟨_, rfl⟩
            have k3 : f81 K (nI a) (nI g) u = some (0, u') := e3 K (by omega)
            have k4 : f128 K (uF 14 0 (ou (-1 : Int32).toInt64 u')) = some t := t1 K (by omega)
            have k5 : f146 K 40 (pm 41 x3 x4 (pm 40 x1 x2 t)) = some (nI a) := by rw [← ea]; exact b1 K (by omega)
            have k6 : f146 K 41 (pm 41 x3 x4 (pm 40 x1 x2 t)) = some (nI g) := by rw [← eg]; exact b2 K (by omega)
            have k7 : f148 K (nI g) (pm 41 x3 x4 (pm 40 x1 x2 t)) = some R := e7 K (by omega)
            have e111 : f111 K x1 x2 x3 x4 s = some (.inl (-1, u')) := by
              rw [f111_eq in1 in2 (k0 K (by omega)).1 (k0 K (by omega)).2, if_neg (nI_m1 (by omega)), if_neg (nI_m1 (by omega)), k3]
              simp only [Option.bind_some]
              rw [if_neg (fun q => q trivial)]
            have e147 : f147 K x1 x2 x3 x4 (ou (-1 : Int32).toInt64 u') = some (-1, R) := by
              rw [f147_eq in1 in2 k4 k5 k6]
              unfold kont
              rw [if_neg (nI_neg (by omega)), if_pos (nI_nn (by omega)), k7]
              simp only [Option.bind_some]
              have e50 : R.1 50 a = nI 1000 := by
                rcases d7 a am with ⟨d, q1, _⟩ | ⟨q, _⟩
                · exact absurd q1.1 (no d)
                · exact q
              rw [rdI_nI (show a < 100 by omega) (by decide), nI_clamp (by omega), e50, if_neg (fun q => q rfl)]
            exact ⟨_, _, step11_no h hw in1 in2 e111 z3' t3 t2 z7 e147⟩
          · -- a row
            have eX : Xc u' = Xc u := Xc_same (z3.1 18 (by decide))
            have eY : Yc u' = Yc u := Yc_same (z3.1 19 (by decide))
            have cw : CW u' n m d E lk T g a P S := by
              refine ⟨P42_same hCu.1.1.1 (z3.1 18 (by decide)) (z3.1 19 (by decide)), hn4, hd, hm, by rw [eX, eY]; exact hDu, by rw [eX, eY]; exact hMu, by rw [eX, eY]; exact ctu.1, hRow, by rw [z3.2.2.1 0 (by decide)]; exact hCu.1.1.2.1, f5, r33, fun i k hi hk => ?_, fun i k hi hk => ?_, by rw [eX, eY]; exact hTa, by rw [eX, eY]; exact hTg⟩
              · obtain ⟨r, r1, r2⟩ := hG i k hi hk
                exact ⟨r, by rw [f64_same (z3.1 26 (by decide)) (z3.1 24 (by decide)) (z3.1 25 (by decide)) (z3.2.1 22 (by decide))]; exact r1, r2⟩
              · rw [z3.1 26 (by decide)]
                exact (ctu.2.2.2 i k hi hk).1
            obtain ⟨c, s', e84, z4⟩ := cw.cls
            have zz : sn [33, 34, 35, 38, 40, 41] [53] [5, 6, 7, 8, 9, 10, 11, 12, 13] u (ou c.toInt64 s') := ((z3.n.mono (by decide) (by decide) (by decide)).trans (z4.n.mono (by decide) (by decide) (by decide))).trans ((ou_z _ s').mono (by decide) (by decide) (by decide))
            obtain ⟨t, ⟨K4, t1⟩, t2, t3, t4, t5, t6, ⟨K5, b1⟩, ⟨K6, b2⟩⟩ := pre (ou c.toInt64 s') zz
            obtain ⟨p1, p2, p3, p4, p5, p6, p7⟩ := pre_frame zz t3
            have w45 : (pm 41 x3 x4 (pm 40 x1 x2 t)).1 45 = s.1 45 := by
              rw [p1.1 45 (by decide), zz.1 45 (by decide)]
              rfl
            obtain ⟨q21, ⟨K7, e7⟩, z7, d7⟩ := dist _ t5 w45
            let s25 := uF 18 1 q21
            let s28 := uA 48 (upd (s25.1 48) 0 (nI a)) s25
            have z28 : sm [48, 51, 52] [] [18] [] q21 s28 := (sm_F (by decide) 1 q21).trans (sm_A (by decide) _ s25)
            have hP0 : P 0 = a := hRow.1
            have RP0 : RP q21 s28 T P S 0 := by
              refine ⟨z28, uF_at 18 1 q21, fun q hq' => ?_, fun q hq' => absurd hq' (Nat.not_lt_zero _)⟩
              rw [show q = 0 by omega, hP0]
              exact upd_at (s25.1 48) 0 (nI a)
            have rt21 : RT q21 m T := t5.same (z7.1 47 (by decide)) (z7.2.2.1 17 (by decide))
            obtain ⟨uu, RPu, fin⟩ := r147_ev (s0 := q21) x1 x2 x3 x4 (nI a) hm gm lt40 hU rt21.2 (fun s' zs i k hi hk => f149_ev hMu hn4 ctu.1 (rt21.same (zs.1 47 (by decide)) (zs.2.2.1 17 (by decide))) hm (h.2.2.2.1.same (by rw [zs.1 45 (by decide), z7.1 45 (by decide)]; exact w45)) hi hk) d7 hd hRow d 0 (by omega) s28 RP0
            obtain ⟨zu, u18, u48, udo⟩ := RPu
            have z9 : sm [48, 50, 51, 52] [] [18] [] (pm 41 x3 x4 (pm 40 x1 x2 t)) uu := (z7.mono (by decide) (by decide) (by decide) (by decide)).trans (zu.mono (by decide) (by decide) (by decide) (by decide))
            have XY := snX z9.n (by decide) (by decide)
            obtain ⟨s'', l', R, r1, r2, r3, r4, r5, r6, r7, r8⟩ := cw.ref (u := uu) (fun j hj => by rw [XY.1, XY.2]; exact t4 j hj) (fun b hb => by
              rw [XY.1, XY.2, eX, eY]
              have := t6 b (hb.lt hn4)
              exact ⟨this.1.symm, this.2.symm⟩) u18 udo
            have same := ev_uniq e84 r1
            have ec : c = nI l'.length := (Prod.mk.inj same).1
            have es : s' = s'' := (Prod.mk.inj same).2
            rw [← es] at r3
            obtain ⟨K8, e8⟩ := e84
            obtain ⟨K9, e9⟩ := fin _ _ r5
            obtain ⟨K, hK⟩ : ∃ K, K = K1 + K2 + K3 + K4 + K5 + K6 + K7 + K8 + K9 := ⟨_, rfl⟩
            have k3 : f81 K (nI a) (nI g) u = some (1, u') := e3 K (by omega)
            have k8 : f84 K u' = some (c, s') := e8 K (by omega)
            have k4 : f128 K (uF 14 0 (ou c.toInt64 s')) = some t := t1 K (by omega)
            have k5 : f146 K 40 (pm 41 x3 x4 (pm 40 x1 x2 t)) = some (nI a) := by rw [← ea]; exact b1 K (by omega)
            have k6 : f146 K 41 (pm 41 x3 x4 (pm 40 x1 x2 t)) = some (nI g) := by rw [← eg]; exact b2 K (by omega)
            have k7 : f148 K (nI g) (pm 41 x3 x4 (pm 40 x1 x2 t)) = some q21 := e7 K (by omega)
            have k9 : r147 K x1 x2 x3 x4 (nI a) (nI g) s28 = some (nI l'.length, R) := e9 K (by omega)
            have e111 : f111 K x1 x2 x3 x4 s = some (.inl (c, s')) := by
              rw [f111_eq in1 in2 (k0 K (by omega)).1 (k0 K (by omega)).2, if_neg (nI_m1 (by omega)), if_neg (nI_m1 (by omega)), k3]
              simp only [Option.bind_some]
              rw [if_pos (by decide), k8]
              rfl
            have e147 : f147 K x1 x2 x3 x4 (ou c.toInt64 s') = some (c, R) := by
              rw [f147_eq in1 in2 k4 k5 k6]
              unfold kont
              rw [if_neg (nI_neg (by omega)), if_pos (nI_nn (by omega)), k7]
              simp only [Option.bind_some]
              have e50 : ∃ d', d' ≤ 74 ∧ q21.1 50 a = nI d' := by
                rcases d7 a am with ⟨d', _, q2, q3⟩ | ⟨_, q⟩
                · exact ⟨d', q2, q3⟩
                · have := (hRow.2.1 0 (Nat.zero_le _)).2.1
                  rw [hP0] at this
                  exact absurd this (q _)
              obtain ⟨d', hd', e50⟩ := e50
              have n1000 : ¬ nI d' = 1000 := fun q => by
                have := (nI_eq (b := 1000) (by omega) (by decide)).mp (q.trans (show (1000 : Int32) = nI 1000 from rfl))
                omega
              have c0 : Int32.toNatClampNeg 0 = 0 := rfl
              have r0 : ∀ {α : Type} (K : Option α), rdI 100 0 K = K := fun K => by rw [show (0 : Int32) = nI 0 from rfl]; exact rdI_nI (by decide) (by decide)
              rw [rdI_nI (show a < 100 by omega) (by decide), nI_clamp (by omega), e50, if_pos n1000]
              simp only [pt]
              rw [r0, c0, ec]
              exact k9
            have zr : sn [18, 19, 33, 34, 35, 38, 40, 41, 46, 47, 48, 49, 50, 51, 52] [43, 44, 53] [5, 6, 7, 8, 9, 10, 11, 12, 13, 14, 16, 17, 18, 19] s R := ((((pu2_z x1 x2 x3 x4 s).mono (by decide) (by decide) (by decide)).trans (zz.mono (by decide) (by decide) (by decide))).trans (p1.mono (by decide) (by decide) (by decide))).trans ((z9.n.mono (by decide) (by decide) (by decide)).trans (r6.n.mono (by decide) (by decide) (by decide)))
            have zwR : sm [48, 49, 50, 51, 52] [] [18, 19] [] (pm 41 x3 x4 (pm 40 x1 x2 t)) R := (z9.mono (by decide) (by decide) (by decide) (by decide)).trans (r6.mono (by decide) (by decide) (by decide) (by decide))
            have zcR : sn [46, 47, 48, 49, 50, 51, 52] [43, 44, 53] [14, 16, 17, 18, 19] s' R := ((ou_z c.toInt64 s').mono (by decide) (by decide) (by decide)).trans ((p1.mono (by decide) (by decide) (by decide)).trans (zwR.n.mono (by decide) (by decide) (by decide)))
            refine ⟨K, (R, []), g11_of e111 e147 ?_ ?_, way_end h in1 in2 zr ?_ ?_ ?_ ?_ ?_ ?_⟩
            · rw [zwR.2.2.1 14 (by decide)]; exact p6
            · rw [zwR.2.1 53 (by decide), p7]; exact ou_at _ _
            · rw [zwR.1 18 (by decide)]; exact p2
            · rw [zwR.1 19 (by decide)]; exact p3
            · rw [zwR.2.1 43 (by decide)]; exact p4
            · rw [zwR.2.1 44 (by decide)]; exact p5
            · have XY := snX zwR.n (by decide) (by decide)
              obtain ⟨q1, L, q2, q3, q4⟩ := t2
              refine ⟨by rw [zwR.2.2.1 16 (by decide)]; exact q1, L, by rw [XY.1, XY.2]; exact q2, ⟨by rw [zwR.2.2.1 17 (by decide)]; exact q3.1, fun i c z hi hT => ?_⟩, fun k => (q4 k).same (zwR.1 46 (by decide))⟩
              rw [zwR.1 47 (by decide)]
              rw [XY.1, XY.2] at hT
              exact q3.2 i c z hi hT
            · refine ⟨d + 1, l'.length, by omega, r4, ?_, ?_, fun i hi => ?_, ?_, r7, fun i hi => ?_⟩
              · rw [zcR.2.2 5 (by decide), z4.2.2.1 5 (by decide)]; exact f5
              · rw [r6.2.2.1 18 (by decide)]; exact u18
              · rw [r6.1 48 (by decide), u48 i (by omega), zcR.1 33 (by decide), z4.1 33 (by decide), r33 i (by omega)]
              · rw [zcR.2.2 9 (by decide)]; exact r3.1
              · obtain ⟨x, ex⟩ := at_ex hi
                rw [r8 i x ex, zcR.1 41 (by decide), r3.2 i x ex]
        · exact none (Or.inr ⟨⟨a, ea, am⟩, eg⟩)
      · exact none (Or.inl ea)
    · -- the second place is not allowed
      have e111 : f111 0 x1 x2 x3 x4 s = some (.inr 10) := by
        unfold f111
        rw [(f97_eq x1 x2 s).1 in1, bx_l, (f97_eq x3 x4 s).2 in2, bx_r]
      have e147 : f147 0 x1 x2 x3 x4 s = some (0, uF 14 1 s) := by
        unfold f147
        rw [(f115_eq x1 x2 s).1 in1, (f115_eq x3 x4 s).2 in2]
        simp only [Option.bind_some]
        rw [if_neg (by decide), if_pos trivial, f117_eq]
        rfl
      refine ⟨0, (uF 14 1 s, [.inr (10, [])]), ?_, (h.end0 hw).2⟩
      unfold g11 o166
      rw [e111]
      show (f147 0 x1 x2 x3 x4 s).bind _ = _
      rw [e147]
      rfl
  · have e111 : f111 0 x1 x2 x3 x4 s = some (.inr 10) := by
      unfold f111
      rw [(f97_eq x1 x2 s).2 in1, bx_r]
    have e147 : f147 0 x1 x2 x3 x4 s = some (0, uF 14 1 s) := by
      unfold f147
      rw [(f115_eq x1 x2 s).2 in1]
      simp only [Option.bind_some]
      rw [if_pos trivial, f117_eq]
      rfl
    refine ⟨0, (uF 14 1 s, [.inr (10, [])]), ?_, (h.end0 hw).2⟩
    unfold g11 o166
    rw [e111]
    show (f147 0 x1 x2 x3 x4 s).bind _ = _
    rw [e147]
    rfl
