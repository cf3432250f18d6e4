/-! count: both say the same -/
theorem cnt_lk {n : Nat} {lk : Nat → Nat → Prop} (hn : n ≤ 40) (hl : ∀ x y, lk x y → x < n ∧ y < n) : cntP (prs n) (fun z => lk z.1 z.2 ∧ z.2 < z.1) = nlk lk := by
  unfold nlk
  refine Nat.le_antisymm ?_ ?_
  · exact cnt_inj id (prs_nodup n) (fun z hz k => ⟨prs_mem.mpr ⟨by have := (prs_mem.mp hz).1; show z.1 < 40; omega, by have := (prs_mem.mp hz).2; show z.2 < 40; omega⟩, k⟩) (fun _ _ _ _ _ _ h => h)
  · exact cnt_inj id (prs_nodup 40) (fun z hz k => ⟨prs_mem.mpr (hl z.1 z.2 k.1), k⟩) (fun _ _ _ _ _ _ h => h)
theorem cnt_sw {n : Nat} {E : Nat → Nat → Prop} (hs : ∀ x y, E x y → E y x) : cntP (prs n) (fun z => E z.1 z.2 ∧ z.2 < z.1) = cntP (prs n) (fun z => E z.1 z.2 ∧ ik z.1 < ik z.2) := by
  have sw : ∀ z w : Nat × Nat, (z.2, z.1) = (w.2, w.1) → z = w := fun z w h => by
    have h1 := congrArg Prod.fst h
    have h2 := congrArg Prod.snd h
    exact Prod.ext h2 h1
  refine Nat.le_antisymm ?_ ?_
  · exact cnt_inj (fun z => (z.2, z.1)) (prs_nodup n) (fun z hz k => ⟨prs_mem.mpr ⟨(prs_mem.mp hz).2, (prs_mem.mp hz).1⟩, hs _ _ k.1, by show ik z.2 < ik z.1; unfold ik; omega⟩) (fun x y _ _ _ _ h => sw x y h)
  · exact cnt_inj (fun z => (z.2, z.1)) (prs_nodup n) (fun z hz k => ⟨prs_mem.mpr ⟨(prs_mem.mp hz).2, (prs_mem.mp hz).1⟩, hs _ _ k.1, by have := k.2; unfold ik at this; show z.1 < z.2; omega⟩) (fun x y _ _ _ _ h => sw x y h)
theorem cnt_L {X Y : Nat → Int} {n : Nat} {E : Nat → Nat → Prop} {L : List Nat} (hn : n ≤ 40) (hM : Mx X Y n E) (hL : NL X Y n E 1600 L) : cntP (prs n) (fun z => lst X Y n E ik z.1 z.2) = L.length := by
  refine Nat.le_antisymm ?_ (NL_len hM hL)
  have e := cnt_true L
  rw [← e]
  refine cnt_inj (fun z => 40 * z.1 + z.2) (prs_nodup n) (fun z hz k => ⟨(hL.2 _).mpr ⟨?_, ?_⟩, trivial⟩) (fun z w hz hw _ _ h => ?_)
  · have := prs_mem.mp hz
    show 40 * z.1 + z.2 < 1600
    omega
  · have := prs_mem.mp hz
    show lst X Y n E ik ((40 * z.1 + z.2) / 40) ((40 * z.1 + z.2) % 40)
    rw [show (40 * z.1 + z.2) / 40 = z.1 by omega, show (40 * z.1 + z.2) % 40 = z.2 by omega]
    exact k
  · have h1 := prs_mem.mp hz
    have h2 := prs_mem.mp hw
    have h : 40 * z.1 + z.2 = 40 * w.1 + w.2 := h
    exact Prod.ext (by omega) (by omega)
theorem cnt_hull {X Y : Nat → Int} {n : Nat} {E : Nat → Nat → Prop} (hM : Mx X Y n E) (h1 : ∀ a b, E a b → hasT X Y n E a b ∨ hasT X Y n E b a) : cntP (prs n) (fun z => (E z.1 z.2 ∧ (¬ hasT X Y n E z.1 z.2 ∨ ¬ hasT X Y n E z.2 z.1)) ∧ z.2 < z.1) = cntP (prs n) (fun z => E z.1 z.2 ∧ ¬ hasT X Y n E z.1 z.2) := by
  refine Nat.le_antisymm ?_ ?_
  · let f : Nat × Nat → Nat × Nat := fun z => @ite _ (¬ hasT X Y n E z.1 z.2) (Classical.propDecidable _) z (z.2, z.1)
    have fe : ∀ z, (f z = z ∧ ¬ hasT X Y n E z.1 z.2) ∨ (f z = (z.2, z.1) ∧ ¬ ¬ hasT X Y n E z.1 z.2) := fun z => by
      by_cases q : ¬ hasT X Y n E z.1 z.2
      · exact Or.inl ⟨if_pos q, q⟩
      · exact Or.inr ⟨if_neg q, q⟩
    refine cnt_inj f (prs_nodup n) (fun z hz ⟨⟨k1, k2⟩, k3⟩ => ?_) (fun z w _ _ ⟨_, k3⟩ ⟨_, k4⟩ h => ?_)
    · rcases fe z with ⟨e, q⟩ | ⟨e, q⟩
      · rw [e]; exact ⟨hz, k1, q⟩
      · rw [e]
        refine ⟨prs_mem.mpr ⟨(prs_mem.mp hz).2, (prs_mem.mp hz).1⟩, (hM.1 _ _ k1).2.2.2, ?_⟩
        rcases k2 with k2 | k2
        · exact absurd k2 q
        · exact k2
    · rcases fe z with ⟨e, _⟩ | ⟨e, _⟩ <;> rcases fe w with ⟨e', _⟩ | ⟨e', _⟩ <;> rw [e, e'] at h
      · exact h
      · have a1 := congrArg Prod.fst h
        have a2 := congrArg Prod.snd h
        have a1 : z.1 = w.2 := a1
        have a2 : z.2 = w.1 := a2
        omega
      · have a1 := congrArg Prod.fst h
        have a2 := congrArg Prod.snd h
        have a1 : z.2 = w.1 := a1
        have a2 : z.1 = w.2 := a2
        omega
      · have a1 := congrArg Prod.fst h
        have a2 := congrArg Prod.snd h
        exact Prod.ext a2 a1
  · refine cnt_inj (fun z => (max z.1 z.2, min z.1 z.2)) (prs_nodup n) (fun z hz ⟨k1, k2⟩ => ?_) (fun z w _ _ ⟨k1, k2⟩ ⟨k3, k4⟩ h => ?_)
    · have l := prs_mem.mp hz
      have ne := (hM.1 _ _ k1).2.2.1
      refine ⟨prs_mem.mpr ⟨by show max z.1 z.2 < n; omega, by show min z.1 z.2 < n; omega⟩, ⟨?_, ?_⟩, by show min z.1 z.2 < max z.1 z.2; omega⟩
      · show E (max z.1 z.2) (min z.1 z.2)
        rcases Nat.lt_or_gt_of_ne ne with q | q
        · rw [show max z.1 z.2 = z.2 by omega, show min z.1 z.2 = z.1 by omega]; exact (hM.1 _ _ k1).2.2.2
        · rw [show max z.1 z.2 = z.1 by omega, show min z.1 z.2 = z.2 by omega]; exact k1
      · show ¬ hasT X Y n E (max z.1 z.2) (min z.1 z.2) ∨ ¬ hasT X Y n E (min z.1 z.2) (max z.1 z.2)
        rcases Nat.lt_or_gt_of_ne ne with q | q
        · rw [show max z.1 z.2 = z.2 by omega, show min z.1 z.2 = z.1 by omega]; exact Or.inr k2
        · rw [show max z.1 z.2 = z.1 by omega, show min z.1 z.2 = z.2 by omega]; exact Or.inl k2
    · have a1 : max z.1 z.2 = max w.1 w.2 := congrArg Prod.fst h
      have a2 : min z.1 z.2 = min w.1 w.2 := congrArg Prod.snd h
      by_cases q : z.1 = w.1
      · exact Prod.ext q (by omega)
      · have b1 : w.1 = z.2 := by omega
        have b2 : w.2 = z.1 := by omega
        rw [b1, b2] at k4
        rcases h1 z.1 z.2 k1 with q | q
        · exact absurd q k2
        · exact absurd q k4
theorem nI_s {a b : Nat} (hb : b ≤ a) (ha : a < 2 ^ 31) : nI a - nI b = nI (a - b) := by
  apply Int32.toInt_inj.mp
  have t1 := nI_toInt ha
  have t2 := nI_toInt (show b < 2 ^ 31 by omega)
  rw [i32s (by omega) (by omega), t1, t2, nI_toInt (by omega)]
  omega
theorem step4 {s : mS} (hI : Inv s) (x : Int32) : ∃ k q, g4 k x s = some q ∧ Inv q.1 := by
  obtain ⟨⟨n, E, lk, h⟩, hw⟩ := hI
  have hC := h.1
  obtain ⟨m, T, ct, rt⟩ := hC.ct
  have hm := ct.2.1
  have hn4 : n ≤ 40 := hC.1.1.2.2.1
  have hM := hC.1.1.2.2.2.2.1
  have hD := hC.1.1.2.2.2.1
  have hF0 : s.2.2.1 0 = nI n := hC.1.1.2.1
  obtain ⟨L, hL, hN⟩ := hC.1.2.2.1
  have h75 := NL_75 hD (hC.1.1.1.Bd hn4) hn4 hM hL
  have emL : L.length = m := by
    have e := hN.1
    rw [ct.2.2.1] at e
    exact ((nI_eq (by omega) (by omega)).mp e).symm
  have cL := cnt_L hn4 hM hL
  rw [emL] at cL
  obtain ⟨t, ⟨K1, e1⟩, e2, e3, e4⟩ := (h.f14 0).xf128
  have ag : agr (Xc s) (Yc s) (Xm t) (Ym t) n := by
    have := (e2.2.1.X.le (show n ≤ 42 by omega))
    have XY : Xc t = Xc s ∧ Yc t = Yc s := ⟨funext fun j => by unfold Xc; rw [e4.1 18 (by decide)]; rfl, funext fun j => by unfold Yc; rw [e4.1 19 (by decide)]; rfl⟩
    rw [XY.1, XY.2] at this
    exact this
  obtain ⟨r1, r2⟩ := rt t ag e3
  obtain ⟨K2, k2⟩ := f127r_ev (x := x) e2.2.2.1 hn4 hM ct.1 r1 hm e2.2.2.2.1 r2
  have k1 := e1 (K1 + K2) (by omega)
  have k1 : f128 (K1 + K2) (uF 14 0 s) = some t := k1
  have k2 := k2 (K1 + K2) (by omega)
  have hinv : Inv t := ⟨⟨n, E, lk, e2⟩, (hw.same ((sm_F (LG := []) (by decide) 0 s).n)).same (e4.mono (by decide) (by decide) (by decide))⟩
  obtain ⟨p1, p2⟩ := TL0 hD hM ct.1
  have hnlk := nlk_le lk
  -- the class's own numbers
  have c47 : f47 s = some (nI (if 0 < m then n + m - 1 else 0)) := by
    unfold f47
    rw [ct.2.2.1, f66_eq hF0]
    by_cases q : 0 < m
    · have : ¬ nI m = 0 := fun w => by have := (nI_eq (by omega) (by decide)).mp (show nI m = nI 0 from w); omega
      rw [if_pos this, if_pos q]
      simp only [Option.bind_some]
      rw [nI_add, show (1 : Int32) = nI 1 from rfl, nI_s (by omega) (by omega)]
    · have em : m = 0 := by omega
      rw [em, if_neg (fun w => w rfl), if_neg (by omega)]
      rfl
  have hv : ∃ v, f93 x s = some v ∧ f127 (K1 + K2) x s = some (v, t) := by
    unfold f127
    simp only [pt]
    rw [k1]
    simp only [Option.bind_some]
    unfold f93
    by_cases x0 : x = 0
    · refine ⟨nI n, ?_, ?_⟩
      · rw [if_pos x0, f66_eq hF0]; rfl
      · rw [if_pos x0, if_neg (fun q => q x0), e2.2.2.1]
    · rw [if_neg x0, if_neg x0]
      by_cases x2 : x = 2
      · refine ⟨nI m, ?_, ?_⟩
        · rw [if_neg (by rw [x2]; decide), if_pos x2]
          unfold f46
          rw [ct.2.2.1]
          rfl
        · rw [if_neg (fun q => q x2), if_pos x0, r1.1]
      · rw [if_pos x2]
        have k2 : r127 (K1 + K2) 0 x 0 0 0 t = some (if x = 1 ∨ x = 3 ∨ x = 4 then nI (cntP (prs n) (fun z => Qx (Xc s) (Yc s) n m E lk x z.1 z.2 ∧ z.2 < z.1)) else -1, t) := k2
        rw [k2]
        refine ⟨_, ?_, rfl⟩
        by_cases x1 : x = 1
        · subst x1
          rw [if_pos rfl, if_pos (Or.inl rfl)]
          unfold f37
          rw [hC.2]
          have : cntP (prs n) (fun z => Qx (Xc s) (Yc s) n m E lk 1 z.1 z.2 ∧ z.2 < z.1) = nlk lk := by
            rw [← cnt_lk hn4 (fun a b k => ⟨(h.ls a b k).1, (h.ls a b k).2.1⟩)]
            refine cnt_congr fun z _ => ⟨fun ⟨k, k'⟩ => ⟨?_, k'⟩, fun ⟨k, k'⟩ => ⟨Or.inl ⟨rfl, k⟩, k'⟩⟩
            rcases k with k | k | k
            · exact k.2
            · exact absurd k.1 (by decide)
            · exact absurd rfl k.1
          rw [this]
          rfl
        · rw [if_neg x1, if_neg x2]
          have none0 : m = 0 → x ≠ 1 → cntP (prs n) (fun z => Qx (Xc s) (Yc s) n m E lk x z.1 z.2 ∧ z.2 < z.1) = 0 := by
            intro em _
            have : cntP (prs n) (fun z => Qx (Xc s) (Yc s) n m E lk x z.1 z.2 ∧ z.2 < z.1) = cntP (prs n) (fun _ => False) := cnt_congr fun z _ => ⟨fun ⟨k, _⟩ => by
              rcases k with k | k | k
              · exact x1 k.1
              · have := k.2.1; omega
              · have := k.2.2.1; omega, fun k => absurd k id⟩
            rw [this]
            unfold cntP
            rw [List.filter_eq_nil_iff.mpr (fun x _ => by simp)]
            rfl
          have eu : 0 < m → cntP (prs n) (fun z => E z.1 z.2 ∧ ik z.1 < ik z.2) + 1 = m + n ∧ 2 * cntP (prs n) (fun z => E z.1 z.2 ∧ ik z.1 < ik z.2) = 3 * m + cntP (prs n) (fun z => E z.1 z.2 ∧ ¬ hasT (Xc s) (Yc s) n E z.1 z.2) := by
            intro q
            have l := (ct.1.1 0 q).lt hM
            have := euler hD (hC.1.1.1.Bd hn4) hM (show 0 < n by omega)
            rw [cL] at this
            exact this
          by_cases x3 : x = 3
          · subst x3
            rw [if_pos rfl, if_pos (Or.inr (Or.inl rfl)), c47]
            by_cases q : 0 < m
            · have e : cntP (prs n) (fun z => Qx (Xc s) (Yc s) n m E lk 3 z.1 z.2 ∧ z.2 < z.1) = cntP (prs n) (fun z => E z.1 z.2 ∧ ik z.1 < ik z.2) := by
                rw [← cnt_sw (fun a b k => (hM.1 a b k).2.2.2)]
                refine cnt_congr fun z _ => ⟨fun ⟨k, k'⟩ => ⟨?_, k'⟩, fun ⟨k, k'⟩ => ⟨Or.inr (Or.inl ⟨rfl, q, k⟩), k'⟩⟩
                rcases k with k | k | k
                · exact absurd k.1 (by decide)
                · exact k.2.2
                · exact absurd rfl k.2.1
              have u := (eu q).1
              rw [e, if_pos q, show n + m - 1 = cntP (prs n) (fun z => E z.1 z.2 ∧ ik z.1 < ik z.2) by omega]
              rfl
            · rw [none0 (by omega) x1, if_neg q]
              rfl
          · rw [if_neg x3]
            by_cases x4 : x = 4
            · subst x4
              rw [if_pos rfl, if_pos (Or.inr (Or.inr rfl))]
              unfold f48
              rw [c47, ct.2.2.1]
              simp only [Option.bind_some]
              by_cases q : 0 < m
              · have e : cntP (prs n) (fun z => Qx (Xc s) (Yc s) n m E lk 4 z.1 z.2 ∧ z.2 < z.1) = cntP (prs n) (fun z => E z.1 z.2 ∧ ¬ hasT (Xc s) (Yc s) n E z.1 z.2) := by
                  rw [← cnt_hull hM (p1 q)]
                  refine cnt_congr fun z _ => ⟨fun ⟨k, k'⟩ => ⟨?_, k'⟩, fun ⟨k, k'⟩ => ⟨Or.inr (Or.inr ⟨by decide, by decide, q, k.1, k.2⟩), k'⟩⟩
                  rcases k with k | k | k
                  · exact absurd k.1 (by decide)
                  · exact absurd k.1 (by decide)
                  · exact ⟨k.2.2.2.1, k.2.2.2.2⟩
                have u := eu q
                rw [e, if_pos q, show n + m - 1 = cntP (prs n) (fun z => E z.1 z.2 ∧ ik z.1 < ik z.2) by omega, show (2 : Int32) = nI 2 from rfl, nI_mul, nI_3, nI_s (by omega) (by omega)]
                congr 2
                omega
              · have em : m = 0 := by omega
                rw [none0 em x1, if_neg q, em]
                rfl
            · rw [if_neg x4, if_neg (fun q => by rcases q with q | q | q; exact x1 q; exact x3 q; exact x4 q)]
  obtain ⟨v, v1, v2⟩ := hv
  refine ⟨K1 + K2, (t, []), ?_, hinv⟩
  unfold g4
  rw [v1, v2]
  simp only [Option.bind_some]
  rw [if_pos trivial]
