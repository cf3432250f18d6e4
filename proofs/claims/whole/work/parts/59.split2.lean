/-! M2: a triangle is split at a new point: all of it -/
theorem f52_eq {i k : Nat} (h : 3 * i + k < 225) (s : mS) : f52 (nI i) (nI k) s = some (s.1 26 (3 * i + k)) := by
  unfold f52
  rw [nI_3, nI_add, rdI_nI h (by decide), nI_clamp (by omega)]
theorem TP.sameK {s : mS} {K K' : Nat → Nat → Nat → Prop} (h : TP s K) (e : K = K') : TP s K' := by rw [← e]; exact h
theorem f25_ev {s : mS} {n a b c i : Nat} {E : Nat → Nat → Prop} (hP : P42 s) (hn : n < 40) (hD : Dst (Xc s) (Yc s) (n + 1)) (hM : Mx (Xc s) (Yc s) n E) (hT : TH s n E) (hS : SU s []) (hi : i < 75) (h : Tr (Xc s) (Yc s) n E a b c) (hin : inT (Xc s) (Yc s) a b c n)
    (c0 : s.1 26 (3 * i) = nI a) (c1 : s.1 26 (3 * i + 1) = nI b) (c2 : s.1 26 (3 * i + 2) = nI c) :
    ∃ t l', f25 (nI i) (nI n) s = some t ∧ TP t (fun x y z => Tr (Xc s) (Yc s) (n + 1) (insE (Xc s) (Yc s) n E) x y z) ∧ SU t l' ∧ gf s t ∧ (∀ x y, Tr (Xc s) (Yc s) (n + 1) (insE (Xc s) (Yc s) n E) x y n → cd x y ∈ l') := by
  have ln := h.lt hM
  have ne := h.ne
  have ha : a < 40 := by omega
  have hb : b < 40 := by omega
  have hc : c < 40 := by omega
  have base : ∀ s1 t, f56 (nI a) (nI b) (nI c) s = some s1 → ((f26 (nI a) (nI b) (nI n) s1).bind fun q9 => (f26 (nI b) (nI c) (nI n) q9).bind fun q11 => (f26 (nI c) (nI a) (nI n) q11).bind fun q13 => some q13) = some t → f25 (nI i) (nI n) s = some t := by
    intro s1 t e1 e2
    unfold f25
    rw [show (0 : Int32) = nI 0 from rfl, show (1 : Int32) = nI 1 from rfl, show (2 : Int32) = nI 2 from rfl, f52_eq (by omega), f52_eq (by omega), f52_eq (by omega), Nat.add_zero, c0, c1, c2]
    simp only [Option.bind_some]
    rw [e1]
    exact e2
  let s1 := uA 24 (th3 (s.1 24) a b c (-1) (-1) (-1)) s
  have q0 : f56 (nI a) (nI b) (nI c) s = some s1 := f56_eq ha hb hc s
  have K1 := TP_take hT.TP ha hb hc
  have g1 : gf s s1 := gf_24 _ s
  have S1 : SU s1 [] := hS.same rfl rfl rfl
  have P1 : P42 s1 := hP
  obtain ⟨i1, i2, i3⟩ := hin
  have hin' : inT (Xc s) (Yc s) a b c n := ⟨i1, i2, i3⟩
  have XY : ∀ {t : mS}, gf s t → Xc t = Xc s ∧ Yc t = Yc s := fun z => ⟨z.z.X, z.z.Y⟩
  by_cases z0 : ar (Xc s) (Yc s) a b n = 0
  · have p1 : 0 < ar (Xc s) (Yc s) b c n := Decidable.byContradiction fun k => two_z hD hM h z0 (by omega)
    have p2 : 0 < ar (Xc s) (Yc s) c a n := Decidable.byContradiction fun k => two_z hD hM h.rot.rot (by omega) z0
    by_cases KD0 : ∃ d, Tr (Xc s) (Yc s) n E b a d
    · obtain ⟨d, hd⟩ := KD0
      have KD0 : True := trivial
      have ld := hd.lt hM
      have ned := hd.ne
      have ndc : d ≠ c := fun e => by
        have A1 := hd.2.2.2.1
        have A2 := h.2.2.2.1
        rw [e] at A1
        have := ar_s (Xc s) (Yc s) a b c
        omega
      have KD : (Tr (Xc s) (Yc s) n E b a d ∧ ¬ cells a b c b a) := ⟨hd, show ¬ cells a b c b a by unfold cells; omega⟩
      obtain ⟨t0, l0, e0, K2, S2, z0, m0⟩ := (f26_on P1 K1 S1 ha hb hn ne.1 (by rw [(XY g1).1, (XY g1).2]; omega)).2 d KD (by omega) (by omega) (by omega) (by omega) (by omega) (by omega)
      have g2 : gf s t0 := g1.trans z0
      have P2 : P42 t0 := g2.z.P hP
      obtain ⟨t1, l1, e1, K3, S3, z1, m1⟩ := f26_pos P2 K2 S2 hb hc hn ne.2.1 (by omega) (by omega) (by rw [(XY g2).1, (XY g2).2]; omega)
      have g3 : gf s t1 := g2.trans z1
      have P3 : P42 t1 := g3.z.P hP
      obtain ⟨t2, l2, e2, K4, S4, z2, m2⟩ := f26_pos P3 K3 S3 hc ha hn ne.2.2 (by omega) (by omega) (by rw [(XY g3).1, (XY g3).2]; omega)
      have g4 : gf s t2 := g3.trans z2
      have P4 : P42 t2 := g4.z.P hP
      have KF : ∀ x y z, (rt c a n x y z ∨ ((rt b c n x y z ∨ ((rt d b n x y z ∨ ((rt a d n x y z ∨ (((Tr (Xc s) (Yc s) n E x y z ∧ ¬ cells a b c x y) ∧ ¬ cells b a d x y) ∧ ¬ cells a d n x y)) ∧ ¬ cells d b n x y)) ∧ ¬ cells b c n x y)) ∧ ¬ cells c a n x y)) ↔ Tr (Xc s) (Yc s) (n + 1) (insE (Xc s) (Yc s) n E) x y z := by
        refine onK hD hM h (by omega) (by omega) (by omega) ?_ ?_ ?_
        · intro x y z k
          rcases k with (k | ⟨(k | ⟨(k | ⟨(k | ⟨⟨⟨kb, q5⟩, q4⟩, q3⟩), q2⟩), q1⟩), q0⟩)
          · exact Or.inr (Or.inl k)
          · exact Or.inl k
          · exact Or.inr (Or.inr (Or.inl ⟨d, hd, Or.inr k⟩))
          · exact Or.inr (Or.inr (Or.inl ⟨d, hd, Or.inl k⟩))
          · exact Or.inr (Or.inr (Or.inr ⟨kb, (show ¬ cells a b c x y by intro w; apply q5; unfold cells at w ⊢; omega), fun d2 h2 => by rw [Tr.uniq hM h2 hd]; exact q4⟩))
        · intro x y z k
          rcases k with k | k | ⟨d2, h2, k | k⟩
          · exact Or.inr ⟨Or.inl k, show ¬ cells c a n x y by unfold rt at k; unfold cells; omega⟩
          · exact Or.inl k
          · rw [Tr.uniq hM h2 hd] at k
            exact Or.inr ⟨Or.inr ⟨Or.inr ⟨Or.inl k, show ¬ cells d b n x y by unfold rt at k; unfold cells; omega⟩, show ¬ cells b c n x y by unfold rt at k; unfold cells; omega⟩, show ¬ cells c a n x y by unfold rt at k; unfold cells; omega⟩
          · rw [Tr.uniq hM h2 hd] at k
            exact Or.inr ⟨Or.inr ⟨Or.inl k, show ¬ cells b c n x y by unfold rt at k; unfold cells; omega⟩, show ¬ cells c a n x y by unfold rt at k; unfold cells; omega⟩
        · intro x y z hx hy hk hw hD2
          have hq5 : ¬ cells a b c x y := by intro w; apply hw; unfold cells at w ⊢; omega
          have hq4 := hD2 d hd
          clear hD2
          exact Or.inr ⟨Or.inr ⟨Or.inr ⟨Or.inr ⟨⟨⟨hk, hq5⟩, hq4⟩, show ¬ cells a d n x y by unfold cells at hq4 hq5; unfold cells; omega⟩, show ¬ cells d b n x y by unfold cells at hq4 hq5; unfold cells; omega⟩, show ¬ cells b c n x y by unfold cells at hq4 hq5; unfold cells; omega⟩, show ¬ cells c a n x y by unfold cells at hq4 hq5; unfold cells; omega⟩
      refine ⟨t2, _, base s1 t2 q0 ?_, K4.congr KF, S4, g4, fun x y k => ?_⟩
      · simp only [e0, e1, e2, Option.bind_some]
      · rw [m2, m1, m0]
        rcases at_on hD hM h (by omega) (by omega) (by omega) k with ⟨w1, w2⟩ | ⟨w1, w2⟩ | ⟨d2, h2, ⟨w1, w2⟩ | ⟨w1, w2⟩⟩
        · have e : cd x y = cd b c := by rw [w1, w2]
          exact Or.inl (Or.inr (e))
        · have e : cd x y = cd c a := by rw [w1, w2]
          exact Or.inr (e)
        · have e : cd x y = cd a d := by rw [w1, w2, Tr.uniq hM h2 hd]
          exact Or.inl (Or.inl (Or.inr (Or.inl e)))
        · have e : cd x y = cd d b := by rw [w1, w2, Tr.uniq hM h2 hd]
          exact Or.inl (Or.inl (Or.inr (Or.inr e)))
    · have KD : ∀ z, ¬ (Tr (Xc s) (Yc s) n E b a z ∧ ¬ cells a b c b a) := by
        intro z k
        rcases k with ⟨kb, _⟩
        · exact KD0 ⟨z, kb⟩
      have e0 := (f26_on P1 K1 S1 ha hb hn ne.1 (by rw [(XY g1).1, (XY g1).2]; omega)).1 KD
      obtain ⟨t1, l1, e1, K3, S3, z1, m1⟩ := f26_pos P1 K1 S1 hb hc hn ne.2.1 (by omega) (by omega) (by rw [(XY g1).1, (XY g1).2]; omega)
      have g3 : gf s t1 := g1.trans z1
      have P3 : P42 t1 := g3.z.P hP
      obtain ⟨t2, l2, e2, K4, S4, z2, m2⟩ := f26_pos P3 K3 S3 hc ha hn ne.2.2 (by omega) (by omega) (by rw [(XY g3).1, (XY g3).2]; omega)
      have g4 : gf s t2 := g3.trans z2
      have P4 : P42 t2 := g4.z.P hP
      have KF : ∀ x y z, (rt c a n x y z ∨ ((rt b c n x y z ∨ ((Tr (Xc s) (Yc s) n E x y z ∧ ¬ cells a b c x y) ∧ ¬ cells b c n x y)) ∧ ¬ cells c a n x y)) ↔ Tr (Xc s) (Yc s) (n + 1) (insE (Xc s) (Yc s) n E) x y z := by
        refine onK hD hM h (by omega) (by omega) (by omega) ?_ ?_ ?_
        · intro x y z k
          rcases k with (k | ⟨(k | ⟨⟨kb, q2⟩, q1⟩), q0⟩)
          · exact Or.inr (Or.inl k)
          · exact Or.inl k
          · exact Or.inr (Or.inr (Or.inr ⟨kb, (show ¬ cells a b c x y by intro w; apply q2; unfold cells at w ⊢; omega), fun d2 h2 => absurd ⟨d2, h2⟩ KD0⟩))
        · intro x y z k
          rcases k with k | k | ⟨d2, h2, k⟩
          · exact Or.inr ⟨Or.inl k, show ¬ cells c a n x y by unfold rt at k; unfold cells; omega⟩
          · exact Or.inl k
          · exact absurd ⟨d2, h2⟩ KD0
        · intro x y z hx hy hk hw hD2
          have hq2 : ¬ cells a b c x y := by intro w; apply hw; unfold cells at w ⊢; omega
          clear hD2
          exact Or.inr ⟨Or.inr ⟨⟨hk, hq2⟩, show ¬ cells b c n x y by unfold cells at hq2; unfold cells; omega⟩, show ¬ cells c a n x y by unfold cells at hq2; unfold cells; omega⟩
      refine ⟨t2, _, base s1 t2 q0 ?_, K4.congr KF, S4, g4, fun x y k => ?_⟩
      · simp only [e0, e1, e2, Option.bind_some]
      · rw [m2, m1]
        rcases at_on hD hM h (by omega) (by omega) (by omega) k with ⟨w1, w2⟩ | ⟨w1, w2⟩ | ⟨d2, h2, _⟩
        · have e : cd x y = cd b c := by rw [w1, w2]
          exact Or.inl (Or.inr (e))
        · have e : cd x y = cd c a := by rw [w1, w2]
          exact Or.inr (e)
        · exact absurd ⟨d2, h2⟩ KD0
  by_cases z1 : ar (Xc s) (Yc s) b c n = 0
  · have p1 : 0 < ar (Xc s) (Yc s) c a n := Decidable.byContradiction fun k => two_z hD hM h.rot z1 (by omega)
    have p2 : 0 < ar (Xc s) (Yc s) a b n := Decidable.byContradiction fun k => two_z hD hM h (by omega) z1
    by_cases KD0 : ∃ d, Tr (Xc s) (Yc s) n E c b d
    · obtain ⟨d, hd⟩ := KD0
      have KD0 : True := trivial
      have ld := hd.lt hM
      have ned := hd.ne
      have ndc : d ≠ a := fun e => by
        have A1 := hd.2.2.2.1
        have A2 := h.rot.2.2.2.1
        rw [e] at A1
        have := ar_s (Xc s) (Yc s) b c a
        omega
      have KD : (rt a b n c b d ∨ ((Tr (Xc s) (Yc s) n E c b d ∧ ¬ cells a b c c b) ∧ ¬ cells a b n c b)) := Or.inr ⟨⟨hd, show ¬ cells a b c c b by unfold cells; omega⟩, show ¬ cells a b n c b by unfold cells; omega⟩
      obtain ⟨t0, l0, e0, K2, S2, z0, m0⟩ := f26_pos P1 K1 S1 ha hb hn ne.1 (by omega) (by omega) (by rw [(XY g1).1, (XY g1).2]; omega)
      have g2 : gf s t0 := g1.trans z0
      have P2 : P42 t0 := g2.z.P hP
      obtain ⟨t1, l1, e1, K3, S3, z1, m1⟩ := (f26_on P2 K2 S2 hb hc hn ne.2.1 (by rw [(XY g2).1, (XY g2).2]; omega)).2 d KD (by omega) (by omega) (by omega) (by omega) (by omega) (by omega)
      have g3 : gf s t1 := g2.trans z1
      have P3 : P42 t1 := g3.z.P hP
      obtain ⟨t2, l2, e2, K4, S4, z2, m2⟩ := f26_pos P3 K3 S3 hc ha hn ne.2.2 (by omega) (by omega) (by rw [(XY g3).1, (XY g3).2]; omega)
      have g4 : gf s t2 := g3.trans z2
      have P4 : P42 t2 := g4.z.P hP
      have KF : ∀ x y z, (rt c a n x y z ∨ ((rt d c n x y z ∨ ((rt b d n x y z ∨ (((rt a b n x y z ∨ ((Tr (Xc s) (Yc s) n E x y z ∧ ¬ cells a b c x y) ∧ ¬ cells a b n x y)) ∧ ¬ cells c b d x y) ∧ ¬ cells b d n x y)) ∧ ¬ cells d c n x y)) ∧ ¬ cells c a n x y)) ↔ Tr (Xc s) (Yc s) (n + 1) (insE (Xc s) (Yc s) n E) x y z := by
        refine onK hD hM h.rot (by omega) (by omega) (by omega) ?_ ?_ ?_
        · intro x y z k
          rcases k with (k | ⟨(k | ⟨(k | ⟨⟨(k | ⟨⟨kb, q5⟩, q4⟩), q3⟩, q2⟩), q1⟩), q0⟩)
          · exact Or.inl k
          · exact Or.inr (Or.inr (Or.inl ⟨d, hd, Or.inr k⟩))
          · exact Or.inr (Or.inr (Or.inl ⟨d, hd, Or.inl k⟩))
          · exact Or.inr (Or.inl k)
          · exact Or.inr (Or.inr (Or.inr ⟨kb, (show ¬ cells b c a x y by intro w; apply q5; unfold cells at w ⊢; omega), fun d2 h2 => by rw [Tr.uniq hM h2 hd]; exact q3⟩))
        · intro x y z k
          rcases k with k | k | ⟨d2, h2, k | k⟩
          · exact Or.inl k
          · exact Or.inr ⟨Or.inr ⟨Or.inr ⟨⟨Or.inl k, show ¬ cells c b d x y by unfold rt at k; unfold cells; omega⟩, show ¬ cells b d n x y by unfold rt at k; unfold cells; omega⟩, show ¬ cells d c n x y by unfold rt at k; unfold cells; omega⟩, show ¬ cells c a n x y by unfold rt at k; unfold cells; omega⟩
          · rw [Tr.uniq hM h2 hd] at k
            exact Or.inr ⟨Or.inr ⟨Or.inl k, show ¬ cells d c n x y by unfold rt at k; unfold cells; omega⟩, show ¬ cells c a n x y by unfold rt at k; unfold cells; omega⟩
          · rw [Tr.uniq hM h2 hd] at k
            exact Or.inr ⟨Or.inl k, show ¬ cells c a n x y by unfold rt at k; unfold cells; omega⟩
        · intro x y z hx hy hk hw hD2
          have hq5 : ¬ cells a b c x y := by intro w; apply hw; unfold cells at w ⊢; omega
          have hq3 := hD2 d hd
          clear hD2
          exact Or.inr ⟨Or.inr ⟨Or.inr ⟨⟨Or.inr ⟨⟨hk, hq5⟩, show ¬ cells a b n x y by unfold cells at hq3 hq5; unfold cells; omega⟩, hq3⟩, show ¬ cells b d n x y by unfold cells at hq3 hq5; unfold cells; omega⟩, show ¬ cells d c n x y by unfold cells at hq3 hq5; unfold cells; omega⟩, show ¬ cells c a n x y by unfold cells at hq3 hq5; unfold cells; omega⟩
      refine ⟨t2, _, base s1 t2 q0 ?_, K4.congr KF, S4, g4, fun x y k => ?_⟩
      · simp only [e0, e1, e2, Option.bind_some]
      · rw [m2, m1, m0]
        rcases at_on hD hM h.rot (by omega) (by omega) (by omega) k with ⟨w1, w2⟩ | ⟨w1, w2⟩ | ⟨d2, h2, ⟨w1, w2⟩ | ⟨w1, w2⟩⟩
        · have e : cd x y = cd c a := by rw [w1, w2]
          exact Or.inr (e)
        · have e : cd x y = cd a b := by rw [w1, w2]
          exact Or.inl (Or.inl (Or.inr (e)))
        · have e : cd x y = cd b d := by rw [w1, w2, Tr.uniq hM h2 hd]
          exact Or.inl (Or.inr (Or.inl e))
        · have e : cd x y = cd d c := by rw [w1, w2, Tr.uniq hM h2 hd]
          exact Or.inl (Or.inr (Or.inr e))
    · have KD : ∀ z, ¬ (rt a b n c b z ∨ ((Tr (Xc s) (Yc s) n E c b z ∧ ¬ cells a b c c b) ∧ ¬ cells a b n c b)) := by
        intro z k
        rcases k with (k | ⟨⟨kb, _⟩, _⟩)
        · unfold rt at k; omega
        · exact KD0 ⟨z, kb⟩
      obtain ⟨t0, l0, e0, K2, S2, z0, m0⟩ := f26_pos P1 K1 S1 ha hb hn ne.1 (by omega) (by omega) (by rw [(XY g1).1, (XY g1).2]; omega)
      have g2 : gf s t0 := g1.trans z0
      have P2 : P42 t0 := g2.z.P hP
      have e1 := (f26_on P2 K2 S2 hb hc hn ne.2.1 (by rw [(XY g2).1, (XY g2).2]; omega)).1 KD
      obtain ⟨t2, l2, e2, K4, S4, z2, m2⟩ := f26_pos P2 K2 S2 hc ha hn ne.2.2 (by omega) (by omega) (by rw [(XY g2).1, (XY g2).2]; omega)
      have g4 : gf s t2 := g2.trans z2
      have P4 : P42 t2 := g4.z.P hP
      have KF : ∀ x y z, (rt c a n x y z ∨ ((rt a b n x y z ∨ ((Tr (Xc s) (Yc s) n E x y z ∧ ¬ cells a b c x y) ∧ ¬ cells a b n x y)) ∧ ¬ cells c a n x y)) ↔ Tr (Xc s) (Yc s) (n + 1) (insE (Xc s) (Yc s) n E) x y z := by
        refine onK hD hM h.rot (by omega) (by omega) (by omega) ?_ ?_ ?_
        · intro x y z k
          rcases k with (k | ⟨(k | ⟨⟨kb, q2⟩, q1⟩), q0⟩)
          · exact Or.inl k
          · exact Or.inr (Or.inl k)
          · exact Or.inr (Or.inr (Or.inr ⟨kb, (show ¬ cells b c a x y by intro w; apply q2; unfold cells at w ⊢; omega), fun d2 h2 => absurd ⟨d2, h2⟩ KD0⟩))
        · intro x y z k
          rcases k with k | k | ⟨d2, h2, k⟩
          · exact Or.inl k
          · exact Or.inr ⟨Or.inl k, show ¬ cells c a n x y by unfold rt at k; unfold cells; omega⟩
          · exact absurd ⟨d2, h2⟩ KD0
        · intro x y z hx hy hk hw hD2
          have hq2 : ¬ cells a b c x y := by intro w; apply hw; unfold cells at w ⊢; omega
          clear hD2
          exact Or.inr ⟨Or.inr ⟨⟨hk, hq2⟩, show ¬ cells a b n x y by unfold cells at hq2; unfold cells; omega⟩, show ¬ cells c a n x y by unfold cells at hq2; unfold cells; omega⟩
      refine ⟨t2, _, base s1 t2 q0 ?_, K4.congr KF, S4, g4, fun x y k => ?_⟩
      · simp only [e0, e1, e2, Option.bind_some]
      · rw [m2, m0]
        rcases at_on hD hM h.rot (by omega) (by omega) (by omega) k with ⟨w1, w2⟩ | ⟨w1, w2⟩ | ⟨d2, h2, _⟩
        · have e : cd x y = cd c a := by rw [w1, w2]
          exact Or.inr (e)
        · have e : cd x y = cd a b := by rw [w1, w2]
          exact Or.inl (Or.inr (e))
        · exact absurd ⟨d2, h2⟩ KD0
  by_cases z2 : ar (Xc s) (Yc s) c a n = 0
  · have p1 : 0 < ar (Xc s) (Yc s) a b n := Decidable.byContradiction fun k => two_z hD hM h.rot.rot z2 (by omega)
    have p2 : 0 < ar (Xc s) (Yc s) b c n := Decidable.byContradiction fun k => two_z hD hM h.rot (by omega) z2
    by_cases KD0 : ∃ d, Tr (Xc s) (Yc s) n E a c d
    · obtain ⟨d, hd⟩ := KD0
      have KD0 : True := trivial
      have ld := hd.lt hM
      have ned := hd.ne
      have ndc : d ≠ b := fun e => by
        have A1 := hd.2.2.2.1
        have A2 := h.rot.rot.2.2.2.1
        rw [e] at A1
        have := ar_s (Xc s) (Yc s) c a b
        omega
      have KD : (rt b c n a c d ∨ ((rt a b n a c d ∨ ((Tr (Xc s) (Yc s) n E a c d ∧ ¬ cells a b c a c) ∧ ¬ cells a b n a c)) ∧ ¬ cells b c n a c)) := Or.inr ⟨Or.inr ⟨⟨hd, show ¬ cells a b c a c by unfold cells; omega⟩, show ¬ cells a b n a c by unfold cells; omega⟩, show ¬ cells b c n a c by unfold cells; omega⟩
      obtain ⟨t0, l0, e0, K2, S2, z0, m0⟩ := f26_pos P1 K1 S1 ha hb hn ne.1 (by omega) (by omega) (by rw [(XY g1).1, (XY g1).2]; omega)
      have g2 : gf s t0 := g1.trans z0
      have P2 : P42 t0 := g2.z.P hP
      obtain ⟨t1, l1, e1, K3, S3, z1, m1⟩ := f26_pos P2 K2 S2 hb hc hn ne.2.1 (by omega) (by omega) (by rw [(XY g2).1, (XY g2).2]; omega)
      have g3 : gf s t1 := g2.trans z1
      have P3 : P42 t1 := g3.z.P hP
      obtain ⟨t2, l2, e2, K4, S4, z2, m2⟩ := (f26_on P3 K3 S3 hc ha hn ne.2.2 (by rw [(XY g3).1, (XY g3).2]; omega)).2 d KD (by omega) (by omega) (by omega) (by omega) (by omega) (by omega)
      have g4 : gf s t2 := g3.trans z2
      have P4 : P42 t2 := g4.z.P hP
      have KF : ∀ x y z, (rt d a n x y z ∨ ((rt c d n x y z ∨ (((rt b c n x y z ∨ ((rt a b n x y z ∨ ((Tr (Xc s) (Yc s) n E x y z ∧ ¬ cells a b c x y) ∧ ¬ cells a b n x y)) ∧ ¬ cells b c n x y)) ∧ ¬ cells a c d x y) ∧ ¬ cells c d n x y)) ∧ ¬ cells d a n x y)) ↔ Tr (Xc s) (Yc s) (n + 1) (insE (Xc s) (Yc s) n E) x y z := by
        refine onK hD hM h.rot.rot (by omega) (by omega) (by omega) ?_ ?_ ?_
        · intro x y z k
          rcases k with (k | ⟨(k | ⟨⟨(k | ⟨(k | ⟨⟨kb, q5⟩, q4⟩), q3⟩), q2⟩, q1⟩), q0⟩)
          · exact Or.inr (Or.inr (Or.inl ⟨d, hd, Or.inr k⟩))
          · exact Or.inr (Or.inr (Or.inl ⟨d, hd, Or.inl k⟩))
          · exact Or.inr (Or.inl k)
          · exact Or.inl k
          · exact Or.inr (Or.inr (Or.inr ⟨kb, (show ¬ cells c a b x y by intro w; apply q5; unfold cells at w ⊢; omega), fun d2 h2 => by rw [Tr.uniq hM h2 hd]; exact q2⟩))
        · intro x y z k
          rcases k with k | k | ⟨d2, h2, k | k⟩
          · exact Or.inr ⟨Or.inr ⟨⟨Or.inr ⟨Or.inl k, show ¬ cells b c n x y by unfold rt at k; unfold cells; omega⟩, show ¬ cells a c d x y by unfold rt at k; unfold cells; omega⟩, show ¬ cells c d n x y by unfold rt at k; unfold cells; omega⟩, show ¬ cells d a n x y by unfold rt at k; unfold cells; omega⟩
          · exact Or.inr ⟨Or.inr ⟨⟨Or.inl k, show ¬ cells a c d x y by unfold rt at k; unfold cells; omega⟩, show ¬ cells c d n x y by unfold rt at k; unfold cells; omega⟩, show ¬ cells d a n x y by unfold rt at k; unfold cells; omega⟩
          · rw [Tr.uniq hM h2 hd] at k
            exact Or.inr ⟨Or.inl k, show ¬ cells d a n x y by unfold rt at k; unfold cells; omega⟩
          · rw [Tr.uniq hM h2 hd] at k
            exact Or.inl k
        · intro x y z hx hy hk hw hD2
          have hq5 : ¬ cells a b c x y := by intro w; apply hw; unfold cells at w ⊢; omega
          have hq2 := hD2 d hd
          clear hD2
          exact Or.inr ⟨Or.inr ⟨⟨Or.inr ⟨Or.inr ⟨⟨hk, hq5⟩, show ¬ cells a b n x y by unfold cells at hq2 hq5; unfold cells; omega⟩, show ¬ cells b c n x y by unfold cells at hq2 hq5; unfold cells; omega⟩, hq2⟩, show ¬ cells c d n x y by unfold cells at hq2 hq5; unfold cells; omega⟩, show ¬ cells d a n x y by unfold cells at hq2 hq5; unfold cells; omega⟩
      refine ⟨t2, _, base s1 t2 q0 ?_, K4.congr KF, S4, g4, fun x y k => ?_⟩
      · simp only [e0, e1, e2, Option.bind_some]
      · rw [m2, m1, m0]
        rcases at_on hD hM h.rot.rot (by omega) (by omega) (by omega) k with ⟨w1, w2⟩ | ⟨w1, w2⟩ | ⟨d2, h2, ⟨w1, w2⟩ | ⟨w1, w2⟩⟩
        · have e : cd x y = cd a b := by rw [w1, w2]
          exact Or.inl (Or.inl (Or.inr (e)))
        · have e : cd x y = cd b c := by rw [w1, w2]
          exact Or.inl (Or.inr (e))
        · have e : cd x y = cd c d := by rw [w1, w2, Tr.uniq hM h2 hd]
          exact Or.inr (Or.inl e)
        · have e : cd x y = cd d a := by rw [w1, w2, Tr.uniq hM h2 hd]
          exact Or.inr (Or.inr e)
    · have KD : ∀ z, ¬ (rt b c n a c z ∨ ((rt a b n a c z ∨ ((Tr (Xc s) (Yc s) n E a c z ∧ ¬ cells a b c a c) ∧ ¬ cells a b n a c)) ∧ ¬ cells b c n a c)) := by
        intro z k
        rcases k with (k | ⟨(k | ⟨⟨kb, _⟩, _⟩), _⟩)
        · unfold rt at k; omega
        · unfold rt at k; omega
        · exact KD0 ⟨z, kb⟩
      obtain ⟨t0, l0, e0, K2, S2, z0, m0⟩ := f26_pos P1 K1 S1 ha hb hn ne.1 (by omega) (by omega) (by rw [(XY g1).1, (XY g1).2]; omega)
      have g2 : gf s t0 := g1.trans z0
      have P2 : P42 t0 := g2.z.P hP
      obtain ⟨t1, l1, e1, K3, S3, z1, m1⟩ := f26_pos P2 K2 S2 hb hc hn ne.2.1 (by omega) (by omega) (by rw [(XY g2).1, (XY g2).2]; omega)
      have g3 : gf s t1 := g2.trans z1
      have P3 : P42 t1 := g3.z.P hP
      have e2 := (f26_on P3 K3 S3 hc ha hn ne.2.2 (by rw [(XY g3).1, (XY g3).2]; omega)).1 KD
      have KF : ∀ x y z, (rt b c n x y z ∨ ((rt a b n x y z ∨ ((Tr (Xc s) (Yc s) n E x y z ∧ ¬ cells a b c x y) ∧ ¬ cells a b n x y)) ∧ ¬ cells b c n x y)) ↔ Tr (Xc s) (Yc s) (n + 1) (insE (Xc s) (Yc s) n E) x y z := by
        refine onK hD hM h.rot.rot (by omega) (by omega) (by omega) ?_ ?_ ?_
        · intro x y z k
          rcases k with (k | ⟨(k | ⟨⟨kb, q2⟩, q1⟩), q0⟩)
          · exact Or.inr (Or.inl k)
          · exact Or.inl k
          · exact Or.inr (Or.inr (Or.inr ⟨kb, (show ¬ cells c a b x y by intro w; apply q2; unfold cells at w ⊢; omega), fun d2 h2 => absurd ⟨d2, h2⟩ KD0⟩))
        · intro x y z k
          rcases k with k | k | ⟨d2, h2, k⟩
          · exact Or.inr ⟨Or.inl k, show ¬ cells b c n x y by unfold rt at k; unfold cells; omega⟩
          · exact Or.inl k
          · exact absurd ⟨d2, h2⟩ KD0
        · intro x y z hx hy hk hw hD2
          have hq2 : ¬ cells a b c x y := by intro w; apply hw; unfold cells at w ⊢; omega
          clear hD2
          exact Or.inr ⟨Or.inr ⟨⟨hk, hq2⟩, show ¬ cells a b n x y by unfold cells at hq2; unfold cells; omega⟩, show ¬ cells b c n x y by unfold cells at hq2; unfold cells; omega⟩
      refine ⟨t1, _, base s1 t1 q0 ?_, K3.congr KF, S3, g3, fun x y k => ?_⟩
      · simp only [e0, e1, e2, Option.bind_some]
      · rw [m1, m0]
        rcases at_on hD hM h.rot.rot (by omega) (by omega) (by omega) k with ⟨w1, w2⟩ | ⟨w1, w2⟩ | ⟨d2, h2, _⟩
        · have e : cd x y = cd a b := by rw [w1, w2]
          exact Or.inl (Or.inr (e))
        · have e : cd x y = cd b c := by rw [w1, w2]
          exact Or.inr (e)
        · exact absurd ⟨d2, h2⟩ KD0
  have KD : True := trivial
  have KD0 : True := trivial
  obtain ⟨t0, l0, e0, K2, S2, z0, m0⟩ := f26_pos P1 K1 S1 ha hb hn ne.1 (by omega) (by omega) (by rw [(XY g1).1, (XY g1).2]; omega)
  have g2 : gf s t0 := g1.trans z0
  have P2 : P42 t0 := g2.z.P hP
  obtain ⟨t1, l1, e1, K3, S3, z1, m1⟩ := f26_pos P2 K2 S2 hb hc hn ne.2.1 (by omega) (by omega) (by rw [(XY g2).1, (XY g2).2]; omega)
  have g3 : gf s t1 := g2.trans z1
  have P3 : P42 t1 := g3.z.P hP
  obtain ⟨t2, l2, e2, K4, S4, z2, m2⟩ := f26_pos P3 K3 S3 hc ha hn ne.2.2 (by omega) (by omega) (by rw [(XY g3).1, (XY g3).2]; omega)
  have g4 : gf s t2 := g3.trans z2
  have P4 : P42 t2 := g4.z.P hP
  have KF : ∀ x y z, (rt c a n x y z ∨ ((rt b c n x y z ∨ ((rt a b n x y z ∨ ((Tr (Xc s) (Yc s) n E x y z ∧ ¬ cells a b c x y) ∧ ¬ cells a b n x y)) ∧ ¬ cells b c n x y)) ∧ ¬ cells c a n x y)) ↔ Tr (Xc s) (Yc s) (n + 1) (insE (Xc s) (Yc s) n E) x y z := by
    refine inK hD hM h (by omega) (by omega) (by omega) ?_ ?_ ?_
    · intro x y z k
      rcases k with (k | ⟨(k | ⟨(k | ⟨⟨kb, q3⟩, q2⟩), q1⟩), q0⟩)
      · exact Or.inr (Or.inr (Or.inl k))
      · exact Or.inr (Or.inl k)
      · exact Or.inl k
      · exact Or.inr (Or.inr (Or.inr ⟨kb, q3⟩))
    · intro x y z k
      rcases k with k | k | k
      · exact Or.inr ⟨Or.inr ⟨Or.inl k, show ¬ cells b c n x y by unfold rt at k; unfold cells; omega⟩, show ¬ cells c a n x y by unfold rt at k; unfold cells; omega⟩
      · exact Or.inr ⟨Or.inl k, show ¬ cells c a n x y by unfold rt at k; unfold cells; omega⟩
      · exact Or.inl k
    · intro x y z hx hy hk hq3
      exact Or.inr ⟨Or.inr ⟨Or.inr ⟨⟨hk, hq3⟩, show ¬ cells a b n x y by unfold cells at hq3; unfold cells; omega⟩, show ¬ cells b c n x y by unfold cells at hq3; unfold cells; omega⟩, show ¬ cells c a n x y by unfold cells at hq3; unfold cells; omega⟩
  refine ⟨t2, _, base s1 t2 q0 ?_, K4.congr KF, S4, g4, fun x y k => ?_⟩
  · simp only [e0, e1, e2, Option.bind_some]
  · rw [m2, m1, m0]
    rcases at_in hD hM h (by omega) (by omega) (by omega) k with ⟨w1, w2⟩ | ⟨w1, w2⟩ | ⟨w1, w2⟩
    · have e : cd x y = cd a b := by rw [w1, w2]
      exact Or.inl (Or.inl (Or.inr (e)))
    · have e : cd x y = cd b c := by rw [w1, w2]
      exact Or.inl (Or.inr (e))
    · have e : cd x y = cd c a := by rw [w1, w2]
      exact Or.inr (e)
