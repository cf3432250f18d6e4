theorem HJ21_z (f : Nat → Int32) : (HJ21 f).length ≤ 46 ∧ msl (HJ21 f) ≤ 9202 := by
  refine ⟨by simp [HJ21], ?_⟩
  simp only [HJ21, msl, List.map, mslot, List.length]
  decide
theorem HJ26_z (f : Nat → Int32) : (HJ26 f).length ≤ 46 ∧ msl (HJ26 f) ≤ 9202 := by
  refine ⟨by simp [HJ26], ?_⟩
  simp only [HJ26, msl, List.map, mslot, List.length]
  decide
theorem HJ7_z (f : Nat → Int32) : (HJ7 f).length ≤ 46 ∧ msl (HJ7 f) ≤ 9202 := by
  refine ⟨by simp [HJ7], ?_⟩
  simp only [HJ7, msl, List.map, mslot, List.length]
  decide
theorem HJ10_z : HJ10.length ≤ 46 ∧ msl HJ10 ≤ 9202 := by decide +kernel
theorem HJ12_z : HJ12.length ≤ 46 ∧ msl HJ12 ≤ 9202 := by decide +kernel
theorem HJ16_z : HJ16.length ≤ 46 ∧ msl HJ16 ≤ 9202 := by decide +kernel
theorem HJ2_z : HJ2.length ≤ 46 ∧ msl HJ2 ≤ 9202 := by decide +kernel
theorem HL0_z : HL0.length ≤ 46 ∧ msl HL0 ≤ 9202 := by decide +kernel
theorem case108 {f : Nat → Int32} : ∃ h', Run (5, f) 171 (108, [(0, .ref 0), (1, .ref 16), (2, .ref 42), (3, .ref 53), (4, .int 0)], [], HL0) (.inl (some (.int 1)), h') ∧ h'.length ≤ 46 ∧ msl h' ≤ 9202 := by
  by_cases g0 : ((f 1) < (-536870911))
  · skip
    exact ⟨HJ2, law108_9 (f := f) g0, HJ2_z⟩
  · skip
    by_cases g1 : (536870911 < (f 1))
    · skip
      exact ⟨HJ2, law108_16 (f := f) g0 g1, HJ2_z⟩
    · skip
      by_cases g2 : ((f 2) < (-536870911))
      · skip
        exact ⟨HJ2, law108_24 (f := f) g0 g1 g2, HJ2_z⟩
      · skip
        by_cases g3 : (536870911 < (f 2))
        · skip
          exact ⟨HJ2, law108_31 (f := f) g0 g1 g2 g3, HJ2_z⟩
        · skip
          exact ⟨(HJ7 f), law108_53 (f := f) g0 g1 g2 g3, HJ7_z f⟩
theorem case176 {f : Nat → Int32} : ∃ h', Run (5, f) 171 (176, [(0, .ref 0), (1, .ref 16), (2, .ref 42), (3, .ref 53), (4, .int 0)], [], HL0) (.inl (some (.int 1)), h') ∧ h'.length ≤ 46 ∧ msl h' ≤ 9202 := by
  by_cases g0 : ((f 1) < 0)
  · skip
    exact ⟨HJ2, law176_62 (f := f) g0, HJ2_z⟩
  · skip
    exact ⟨HJ2, law176_72 (f := f) g0, HJ2_z⟩
theorem case251 {f : Nat → Int32} : ∃ h', Run (5, f) 171 (251, [(0, .ref 0), (1, .ref 16), (2, .ref 42), (3, .ref 53), (4, .int 0)], [], HL0) (.inl (some (.int 1)), h') ∧ h'.length ≤ 46 ∧ msl h' ≤ 9202 := by
  by_cases g0 : ((f 1) < 0)
  · skip
    exact ⟨HJ2, law251_76 (f := f) g0, HJ2_z⟩
  · skip
    exact ⟨HJ2, law251_80 (f := f) g0, HJ2_z⟩
theorem case326 {f : Nat → Int32} : ∃ h', Run (5, f) 171 (326, [(0, .ref 0), (1, .ref 16), (2, .ref 42), (3, .ref 53), (4, .int 0)], [], HL0) (.inl (some (.int 1)), h') ∧ h'.length ≤ 46 ∧ msl h' ≤ 9202 := by
  exact ⟨HJ10, law326_86 (f := f), HJ10_z⟩
theorem case339 {f : Nat → Int32} : ∃ h', Run (5, f) 171 (339, [(0, .ref 0), (1, .ref 16), (2, .ref 42), (3, .ref 53), (4, .int 0)], [], HL0) (.inl (some (.int 1)), h') ∧ h'.length ≤ 46 ∧ msl h' ≤ 9202 := by
  by_cases g0 : ((f 1) = 0)
  · skip
    exact ⟨HJ12, law339_91 (f := f) g0, HJ12_z⟩
  · skip
    by_cases g1 : ((f 1) = 1)
    · skip
      exact ⟨HJ12, law339_95 (f := f) g0 g1, HJ12_z⟩
    · skip
      by_cases g2 : ((f 1) = 2)
      · skip
        exact ⟨HJ12, law339_99 (f := f) g0 g1 g2, HJ12_z⟩
      · skip
        by_cases g3 : ((f 1) = 3)
        · skip
          exact ⟨HJ12, law339_103 (f := f) g0 g1 g2 g3, HJ12_z⟩
        · skip
          by_cases g4 : ((f 1) = 4)
          · skip
            exact ⟨HJ12, law339_107 (f := f) g0 g1 g2 g3 g4, HJ12_z⟩
          · skip
            exact ⟨HJ12, law339_110 (f := f) g0 g1 g2 g3 g4, HJ12_z⟩
theorem case364 {f : Nat → Int32} : ∃ h', Run (5, f) 171 (364, [(0, .ref 0), (1, .ref 16), (2, .ref 42), (3, .ref 53), (4, .int 0)], [], HL0) (.inl (some (.int 1)), h') ∧ h'.length ≤ 46 ∧ msl h' ≤ 9202 := by
  by_cases g0 : ((f 1) < 0)
  · skip
    exact ⟨HJ16, law364_121 (f := f) g0, HJ16_z⟩
  · skip
    exact ⟨HJ16, law364_129 (f := f) g0, HJ16_z⟩
theorem case432 {f : Nat → Int32} : ∃ h', Run (5, f) 171 (432, [(0, .ref 0), (1, .ref 16), (2, .ref 42), (3, .ref 53), (4, .int 0)], [], HL0) (.inl (some (.int 1)), h') ∧ h'.length ≤ 46 ∧ msl h' ≤ 9202 := by
  by_cases g0 : ((f 1) < 0)
  · skip
    exact ⟨HJ16, law432_133 (f := f) g0, HJ16_z⟩
  · skip
    exact ⟨HJ16, law432_137 (f := f) g0, HJ16_z⟩
theorem case500 {f : Nat → Int32} : ∃ h', Run (5, f) 171 (500, [(0, .ref 0), (1, .ref 16), (2, .ref 42), (3, .ref 53), (4, .int 0)], [], HL0) (.inl (some (.int 1)), h') ∧ h'.length ≤ 46 ∧ msl h' ≤ 9202 := by
  by_cases g0 : ((f 1) < 0)
  · skip
    exact ⟨HJ2, law500_141 (f := f) g0, HJ2_z⟩
  · skip
    exact ⟨HJ2, law500_145 (f := f) g0, HJ2_z⟩
theorem case568 {f : Nat → Int32} : ∃ h', Run (5, f) 171 (568, [(0, .ref 0), (1, .ref 16), (2, .ref 42), (3, .ref 53), (4, .int 0)], [], HL0) (.inl (some (.int 1)), h') ∧ h'.length ≤ 46 ∧ msl h' ≤ 9202 := by
  by_cases g0 : ((f 1) < 0)
  · skip
    exact ⟨HJ2, law568_149 (f := f) g0, HJ2_z⟩
  · skip
    exact ⟨HJ2, law568_153 (f := f) g0, HJ2_z⟩
theorem case648 {f : Nat → Int32} : ∃ h', Run (5, f) 171 (648, [(0, .ref 0), (1, .ref 16), (2, .ref 42), (3, .ref 53), (4, .int 0)], [], HL0) (.inl (some (.int 1)), h') ∧ h'.length ≤ 46 ∧ msl h' ≤ 9202 := by
  by_cases g0 : ((f 1) < 0)
  · skip
    exact ⟨HJ2, law648_157 (f := f) g0, HJ2_z⟩
  · skip
    exact ⟨HJ2, law648_161 (f := f) g0, HJ2_z⟩
theorem case740 {f : Nat → Int32} : ∃ h', Run (5, f) 171 (740, [(0, .ref 0), (1, .ref 16), (2, .ref 42), (3, .ref 53), (4, .int 0)], [], HL0) (.inl (some (.int 1)), h') ∧ h'.length ≤ 46 ∧ msl h' ≤ 9202 := by
  by_cases g0 : ((f 1) < (-536870911))
  · skip
    exact ⟨HJ2, law740_165 (f := f) g0, HJ2_z⟩
  · skip
    by_cases g1 : (536870911 < (f 1))
    · skip
      exact ⟨HJ2, law740_169 (f := f) g0 g1, HJ2_z⟩
    · skip
      by_cases g2 : ((f 2) < (-536870911))
      · skip
        exact ⟨HJ2, law740_173 (f := f) g0 g1 g2, HJ2_z⟩
      · skip
        by_cases g3 : (536870911 < (f 2))
        · skip
          exact ⟨HJ2, law740_177 (f := f) g0 g1 g2 g3, HJ2_z⟩
        · skip
          exact ⟨(HJ21 f), law740_191 (f := f) g0 g1 g2 g3, HJ21_z f⟩
theorem case808 {f : Nat → Int32} : ∃ h', Run (5, f) 171 (808, [(0, .ref 0), (1, .ref 16), (2, .ref 42), (3, .ref 53), (4, .int 0)], [], HL0) (.inl (some (.int 1)), h') ∧ h'.length ≤ 46 ∧ msl h' ≤ 9202 := by
  by_cases g0 : ((f 1) < (-536870911))
  · skip
    exact ⟨HJ2, law808_195 (f := f) g0, HJ2_z⟩
  · skip
    by_cases g1 : (536870911 < (f 1))
    · skip
      exact ⟨HJ2, law808_199 (f := f) g0 g1, HJ2_z⟩
    · skip
      by_cases g2 : ((f 2) < (-536870911))
      · skip
        exact ⟨HJ2, law808_203 (f := f) g0 g1 g2, HJ2_z⟩
      · skip
        by_cases g3 : (536870911 < (f 2))
        · skip
          exact ⟨HJ2, law808_207 (f := f) g0 g1 g2 g3, HJ2_z⟩
        · skip
          by_cases g4 : ((f 3) < (-536870911))
          · skip
            exact ⟨HJ2, law808_216 (f := f) g0 g1 g2 g3 g4, HJ2_z⟩
          · skip
            by_cases g5 : (536870911 < (f 3))
            · skip
              exact ⟨HJ2, law808_223 (f := f) g0 g1 g2 g3 g4 g5, HJ2_z⟩
            · skip
              by_cases g6 : ((f 4) < (-536870911))
              · skip
                exact ⟨HJ2, law808_231 (f := f) g0 g1 g2 g3 g4 g5 g6, HJ2_z⟩
              · skip
                by_cases g7 : (536870911 < (f 4))
                · skip
                  exact ⟨HJ2, law808_238 (f := f) g0 g1 g2 g3 g4 g5 g6 g7, HJ2_z⟩
                · skip
                  exact ⟨(HJ26 f), law808_258 (f := f) g0 g1 g2 g3 g4 g5 g6 g7, HJ26_z f⟩
theorem case900 {f : Nat → Int32} : ∃ h', Run (5, f) 171 (900, [(0, .ref 0), (1, .ref 16), (2, .ref 42), (3, .ref 53), (4, .int 0)], [], HL0) (.inl (some (.int 1)), h') ∧ h'.length ≤ 46 ∧ msl h' ≤ 9202 := by
  by_cases g0 : ((f 1) < 0)
  · skip
    exact ⟨HL0, law900_264 (f := f) g0, HL0_z⟩
  · skip
    exact ⟨HL0, law900_270 (f := f) g0, HL0_z⟩
theorem case925 {f : Nat → Int32} : ∃ h', Run (5, f) 171 (925, [(0, .ref 0), (1, .ref 16), (2, .ref 42), (3, .ref 53), (4, .int 0)], [], HL0) (.inl (some (.int 1)), h') ∧ h'.length ≤ 46 ∧ msl h' ≤ 9202 := by
  by_cases g0 : ((f 1) < 0)
  · skip
    exact ⟨HL0, law925_274 (f := f) g0, HL0_z⟩
  · skip
    exact ⟨HL0, law925_278 (f := f) g0, HL0_z⟩
theorem sw_out14 {x : Int32} (h0 : ¬ x = 0) (h1 : ¬ x = 1) (h2 : ¬ x = 2) (h3 : ¬ x = 3) (h4 : ¬ x = 4) (h5 : ¬ x = 5) (h6 : ¬ x = 6) (h7 : ¬ x = 7) (h8 : ¬ x = 8) (h9 : ¬ x = 9) (h10 : ¬ x = 10) (h11 : ¬ x = 11) (h12 : ¬ x = 12) (h13 : ¬ x = 13) : x.toInt < 0 ∨ 13 < x.toInt := by
  have a0 := sw_ne h0; rw [show (0 : Int32).toInt = 0 from by decide] at a0
  have a1 := sw_ne h1; rw [show (1 : Int32).toInt = 1 from by decide] at a1
  have a2 := sw_ne h2; rw [show (2 : Int32).toInt = 2 from by decide] at a2
  have a3 := sw_ne h3; rw [show (3 : Int32).toInt = 3 from by decide] at a3
  have a4 := sw_ne h4; rw [show (4 : Int32).toInt = 4 from by decide] at a4
  have a5 := sw_ne h5; rw [show (5 : Int32).toInt = 5 from by decide] at a5
  have a6 := sw_ne h6; rw [show (6 : Int32).toInt = 6 from by decide] at a6
  have a7 := sw_ne h7; rw [show (7 : Int32).toInt = 7 from by decide] at a7
  have a8 := sw_ne h8; rw [show (8 : Int32).toInt = 8 from by decide] at a8
  have a9 := sw_ne h9; rw [show (9 : Int32).toInt = 9 from by decide] at a9
  have a10 := sw_ne h10; rw [show (10 : Int32).toInt = 10 from by decide] at a10
  have a11 := sw_ne h11; rw [show (11 : Int32).toInt = 11 from by decide] at a11
  have a12 := sw_ne h12; rw [show (12 : Int32).toInt = 12 from by decide] at a12
  have a13 := sw_ne h13; rw [show (13 : Int32).toInt = 13 from by decide] at a13
  omega
theorem case_none {f : Nat → Int32} : ∃ h', Run (5, f) 171 (950, [(0, .ref 0), (1, .ref 16), (2, .ref 42), (3, .ref 53), (4, .int 0)], [], HL0) (.inl (some (.int 1)), h') ∧ h'.length ≤ 46 ∧ msl h' ≤ 9202 := by
  refine ⟨HL0, ?_, by decide +kernel, by decide +kernel⟩
  refine R_p (ls' := [(0, .ref 0), (1, .ref 16), (2, .ref 42), (3, .ref 53), (4, .int 5)]) d171_950 rfl rfl ?_
  refine R_br 23 d171_953 rfl rfl ?_
  exact law_out (S := (5, f)) (tl := []) (show Int32.ofNat 5 - 5 < 5 by decide)
theorem law_sw {f : Nat → Int32} : ∃ h', Run (5, f) 171 (39, [(0, .ref 0), (1, .ref 16), (2, .ref 42), (3, .ref 53), (4, .int 0)], [.int (f 0 &&& 15)], HL0) (.inl (some (.int 1)), h') ∧ h'.length ≤ 46 ∧ msl h' ≤ 9202 := by
  by_cases c0 : f 0 &&& 15 = 0
  · obtain ⟨h', k, a, b⟩ := case108 (f := f)
    exact ⟨h', R_nv (v' := 0) c0 (R_swi 108 d171_39 (by decide) (by decide) rfl rfl k), a, b⟩
  by_cases c1 : f 0 &&& 15 = 1
  · obtain ⟨h', k, a, b⟩ := case176 (f := f)
    exact ⟨h', R_nv (v' := 1) c1 (R_swi 176 d171_39 (by decide) (by decide) rfl rfl k), a, b⟩
  by_cases c2 : f 0 &&& 15 = 2
  · obtain ⟨h', k, a, b⟩ := case251 (f := f)
    exact ⟨h', R_nv (v' := 2) c2 (R_swi 251 d171_39 (by decide) (by decide) rfl rfl k), a, b⟩
  by_cases c3 : f 0 &&& 15 = 3
  · obtain ⟨h', k, a, b⟩ := case326 (f := f)
    exact ⟨h', R_nv (v' := 3) c3 (R_swi 326 d171_39 (by decide) (by decide) rfl rfl k), a, b⟩
  by_cases c4 : f 0 &&& 15 = 4
  · obtain ⟨h', k, a, b⟩ := case339 (f := f)
    exact ⟨h', R_nv (v' := 4) c4 (R_swi 339 d171_39 (by decide) (by decide) rfl rfl k), a, b⟩
  by_cases c5 : f 0 &&& 15 = 5
  · obtain ⟨h', k, a, b⟩ := case364 (f := f)
    exact ⟨h', R_nv (v' := 5) c5 (R_swi 364 d171_39 (by decide) (by decide) rfl rfl k), a, b⟩
  by_cases c6 : f 0 &&& 15 = 6
  · obtain ⟨h', k, a, b⟩ := case432 (f := f)
    exact ⟨h', R_nv (v' := 6) c6 (R_swi 432 d171_39 (by decide) (by decide) rfl rfl k), a, b⟩
  by_cases c7 : f 0 &&& 15 = 7
  · obtain ⟨h', k, a, b⟩ := case500 (f := f)
    exact ⟨h', R_nv (v' := 7) c7 (R_swi 500 d171_39 (by decide) (by decide) rfl rfl k), a, b⟩
  by_cases c8 : f 0 &&& 15 = 8
  · obtain ⟨h', k, a, b⟩ := case568 (f := f)
    exact ⟨h', R_nv (v' := 8) c8 (R_swi 568 d171_39 (by decide) (by decide) rfl rfl k), a, b⟩
  by_cases c9 : f 0 &&& 15 = 9
  · obtain ⟨h', k, a, b⟩ := case648 (f := f)
    exact ⟨h', R_nv (v' := 9) c9 (R_swi 648 d171_39 (by decide) (by decide) rfl rfl k), a, b⟩
  by_cases c10 : f 0 &&& 15 = 10
  · obtain ⟨h', k, a, b⟩ := case740 (f := f)
    exact ⟨h', R_nv (v' := 10) c10 (R_swi 740 d171_39 (by decide) (by decide) rfl rfl k), a, b⟩
  by_cases c11 : f 0 &&& 15 = 11
  · obtain ⟨h', k, a, b⟩ := case808 (f := f)
    exact ⟨h', R_nv (v' := 11) c11 (R_swi 808 d171_39 (by decide) (by decide) rfl rfl k), a, b⟩
  by_cases c12 : f 0 &&& 15 = 12
  · obtain ⟨h', k, a, b⟩ := case900 (f := f)
    exact ⟨h', R_nv (v' := 12) c12 (R_swi 900 d171_39 (by decide) (by decide) rfl rfl k), a, b⟩
  by_cases c13 : f 0 &&& 15 = 13
  · obtain ⟨h', k, a, b⟩ := case925 (f := f)
    exact ⟨h', R_nv (v' := 13) c13 (R_swi 925 d171_39 (by decide) (by decide) rfl rfl k), a, b⟩
  obtain ⟨h', k, a, b⟩ := case_none (f := f)
  exact ⟨h', R_swo 950 d171_39 (sw_out14 c0 c1 c2 c3 c4 c5 c6 c7 c8 c9 c10 c11 c12 c13) rfl k, a, b⟩
theorem law_p1 {L : Nat} (f : Nat → Int32) (hL : L ≤ 5) : ∃ h', Run (L, f) 171 (0, [(0, .ref 0)], [], []) (.inl (some (.int 1)), h') ∧ h'.length ≤ 46 ∧ msl h' ≤ 9202 := by
  by_cases h5 : L = 5
  · subst h5
    obtain ⟨h', k, a, b⟩ := law_sw (f := f)
    exact ⟨h', law_entry (law_in (N := 5) (n := 0) (tl := []) (by decide) (vp_ok (by decide)) (by decide) k), a, b⟩
  · exact ⟨HL0, law_entry (law_out (S := (L, f)) (tl := []) ((by decide : ∀ L, L < 5 → Int32.ofNat L - 5 < 0) L (by omega))), by decide +kernel, by decide +kernel⟩
