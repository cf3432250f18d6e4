/-! M2: a triangle is split at a new point -/
theorem on_dn {X Y : Nat → Int} {n a b c d : Nat} {E : Nat → Nat → Prop} (hD : Dst X Y (n + 1)) (hM : Mx X Y n E) (h : Tr X Y n E a b c) (hin : inT X Y a b c n) (z : (ar X Y a b n) = 0) (hd : Tr X Y n E b a d) : 0 < (ar X Y a d n) ∧ 0 < (ar X Y d b n) := by
  have hon := side_on h.2.2.2.1 hin z
  have ln := h.lt hM
  have nh := h.ne
  obtain ⟨w1, w2⟩ := oS_ws hon (hD.nq (show a < n + 1 by omega) (show b < n + 1 by omega) nh.1) (hD.nq (show a < n + 1 by omega) (show n < n + 1 by omega) (by omega)) (hD.nq (show b < n + 1 by omega) (show n < n + 1 by omega) (by omega))
  have hs := sq_pos (hD.nq (show a < n + 1 by omega) (show b < n + 1 by omega) nh.1)
  have t1 : sq X Y a b * (ar X Y a d n) = wa X Y a b n * (ar X Y a d a) + wb X Y a b n * (ar X Y a d b) := w_aff (aff_ar X Y a d) hon.1
  have t2 : sq X Y a b * (ar X Y d b n) = wa X Y a b n * (ar X Y d b a) + wb X Y a b n * (ar X Y d b b) := w_aff (aff_ar X Y d b) hon.1
  rw [ar_xyx X Y a d, Int.mul_zero, Int.zero_add, ← ar_c X Y b a d] at t1
  rw [ar_yxx X Y d b, Int.mul_zero, Int.add_zero, ar_c X Y d b a] at t2
  exact ⟨cpos hs (by rw [t1]; exact mpp w2 hd.2.2.2.1), cpos hs (by rw [t2]; exact mpp w1 hd.2.2.2.1)⟩
/-- a new point is on no two sides -/
theorem two_z {X Y : Nat → Int} {n a b c : Nat} {E : Nat → Nat → Prop} (hD : Dst X Y (n + 1)) (hM : Mx X Y n E) (h : Tr X Y n E a b c) (z1 : (ar X Y a b n) = 0) (z2 : (ar X Y b c n) = 0) : False := by
  have ln := h.lt hM
  have e4 := ar4 X Y a b c n
  have bx := bary (aff_x X Y) a b c n
  have by' := bary (aff_y X Y) a b c n
  rw [z1, z2, Int.zero_mul, Int.zero_mul, Int.zero_add, Int.add_zero, show (ar X Y c a n) = (ar X Y a b c) by omega] at bx by'
  have A := h.2.2.2.1
  have := hD n b (by omega) (by omega) (Int.eq_of_mul_eq_mul_left (by omega) bx) (Int.eq_of_mul_eq_mul_left (by omega) by')
  omega
theorem side_T {X Y : Nat → Int} {n a b c : Nat} {E : Nat → Nat → Prop} (hD : Dst X Y (n + 1)) (hM : Mx X Y n E) (h : Tr X Y n E a b c) (hin : inT X Y a b c n) (p : 0 < (ar X Y a b n)) : Tr X Y (n + 1) (insE X Y n E) a b n := by
  have ln := h.lt hM
  exact (ins_new hD hM (by omega) (by omega)).mpr ⟨h.1, p, fun w hw => by rw [Tr.uniq hM hw h]; exact hin⟩
theorem inK {X Y : Nat → Int} {n a b c : Nat} {E : Nat → Nat → Prop} {K : Nat → Nat → Nat → Prop} (hD : Dst X Y (n + 1)) (hM : Mx X Y n E) (h : Tr X Y n E a b c) (i1 : 0 < (ar X Y a b n)) (i2 : 0 < (ar X Y b c n)) (i3 : 0 < (ar X Y c a n))
    (F1 : ∀ x y z, K x y z → rt a b n x y z ∨ rt b c n x y z ∨ rt c a n x y z ∨ (Tr X Y n E x y z ∧ ¬ cells a b c x y)) (F2 : ∀ x y z, (rt a b n x y z ∨ rt b c n x y z ∨ rt c a n x y z) → K x y z) (F3 : ∀ x y z, x < n → y < n → Tr X Y n E x y z → ¬ cells a b c x y → K x y z) :
    ∀ x y z, K x y z ↔ Tr X Y (n + 1) (insE X Y n E) x y z := by
  intro x y z
  have hin : inT X Y a b c n := ⟨by omega, by omega, by omega⟩
  have t1 := side_T hD hM h hin i1
  have t2 := side_T hD hM h.rot (inT_rot hin) i2
  have t3 := side_T hD hM h.rot.rot (inT_rot (inT_rot hin)) i3
  have cl : ∀ {u v w : Nat}, Tr X Y (n + 1) (insE X Y n E) u v n → Tr X Y n E u v w → cells a b c u v := by
    intro u v w hu hw
    exact at_in hD hM h i1 i2 i3 hu
  constructor
  · intro k
    rcases F1 x y z k with k | k | k | ⟨k1, k2⟩
    · exact rt_Tr t1 k
    · exact rt_Tr t2 k
    · exact rt_Tr t3 k
    · have l := k1.lt hM
      refine (ins_old hD hM (by omega) (by omega) (by omega)).mpr ⟨k1, fun hi => k2 ?_⟩
      by_cases p : 0 < (ar X Y x y n)
      · exact cl (side_T hD hM k1 hi p) k1
      · have p2 : 0 < (ar X Y y z n) := Decidable.byContradiction fun q => two_z hD hM k1 (by have := hi.1; omega) (by have := hi.2.1; omega)
        have c2 := cl (side_T hD hM k1.rot (inT_rot hi) p2) k1.rot
        rcases Tr_rt hM h c2 k1.rot with ⟨e1, e2, e3⟩ | ⟨e1, e2, e3⟩ | ⟨e1, e2, e3⟩
        · exact Or.inr (Or.inr ⟨e3, e1⟩)
        · exact Or.inl ⟨e3, e1⟩
        · exact Or.inr (Or.inl ⟨e3, e1⟩)
  · intro k
    have ne := k.ne
    by_cases ez : z = n
    · rw [ez] at k ⊢
      rcases at_in hD hM h i1 i2 i3 k with ⟨e1, e2⟩ | ⟨e1, e2⟩ | ⟨e1, e2⟩
      · exact F2 x y n (Or.inl (Or.inl ⟨e1, e2, rfl⟩))
      · exact F2 x y n (Or.inr (Or.inl (Or.inl ⟨e1, e2, rfl⟩)))
      · exact F2 x y n (Or.inr (Or.inr (Or.inl ⟨e1, e2, rfl⟩)))
    by_cases ex : x = n
    · rw [ex] at k ⊢
      rcases at_in hD hM h i1 i2 i3 k.rot with ⟨e1, e2⟩ | ⟨e1, e2⟩ | ⟨e1, e2⟩
      · exact F2 n y z (Or.inl (Or.inr (Or.inr ⟨rfl, e1, e2⟩)))
      · exact F2 n y z (Or.inr (Or.inl (Or.inr (Or.inr ⟨rfl, e1, e2⟩))))
      · exact F2 n y z (Or.inr (Or.inr (Or.inr (Or.inr ⟨rfl, e1, e2⟩))))
    by_cases ey : y = n
    · rw [ey] at k ⊢
      rcases at_in hD hM h i1 i2 i3 k.rot.rot with ⟨e1, e2⟩ | ⟨e1, e2⟩ | ⟨e1, e2⟩
      · exact F2 x n z (Or.inl (Or.inr (Or.inl ⟨e2, rfl, e1⟩)))
      · exact F2 x n z (Or.inr (Or.inl (Or.inr (Or.inl ⟨e2, rfl, e1⟩))))
      · exact F2 x n z (Or.inr (Or.inr (Or.inr (Or.inl ⟨e2, rfl, e1⟩))))
    obtain ⟨g1, g2⟩ := (ins_old hD hM ex ey ez).mp k
    have l := g1.lt hM
    refine F3 x y z l.1 l.2.1 g1 fun c2 => g2 ?_
    rcases Tr_rt hM h c2 g1 with ⟨e1, e2, e3⟩ | ⟨e1, e2, e3⟩ | ⟨e1, e2, e3⟩
    · rw [e1, e2, e3]; exact hin
    · rw [e1, e2, e3]; exact inT_rot hin
    · rw [e1, e2, e3]; exact inT_rot (inT_rot hin)
theorem onK {X Y : Nat → Int} {n a b c : Nat} {E : Nat → Nat → Prop} {K : Nat → Nat → Nat → Prop} (hD : Dst X Y (n + 1)) (hM : Mx X Y n E) (h : Tr X Y n E a b c) (i1 : (ar X Y a b n) = 0) (i2 : 0 < (ar X Y b c n)) (i3 : 0 < (ar X Y c a n))
    (F1 : ∀ x y z, K x y z → rt b c n x y z ∨ rt c a n x y z ∨ (∃ d, Tr X Y n E b a d ∧ (rt a d n x y z ∨ rt d b n x y z)) ∨ (Tr X Y n E x y z ∧ ¬ cells a b c x y ∧ ∀ d, Tr X Y n E b a d → ¬ cells b a d x y))
    (F2 : ∀ x y z, (rt b c n x y z ∨ rt c a n x y z ∨ ∃ d, Tr X Y n E b a d ∧ (rt a d n x y z ∨ rt d b n x y z)) → K x y z) (F3 : ∀ x y z, x < n → y < n → Tr X Y n E x y z → ¬ cells a b c x y → (∀ d, Tr X Y n E b a d → ¬ cells b a d x y) → K x y z) :
    ∀ x y z, K x y z ↔ Tr X Y (n + 1) (insE X Y n E) x y z := by
  intro x y z
  have hin : inT X Y a b c n := ⟨by omega, by omega, by omega⟩
  have t2 := side_T hD hM h.rot (inT_rot hin) i2
  have t3 := side_T hD hM h.rot.rot (inT_rot (inT_rot hin)) i3
  have ib : ∀ d, Tr X Y n E b a d → inT X Y b a d n := fun d hd => by
    have := on_dn hD hM h hin i1 hd
    have e := ar_s X Y b a n
    exact ⟨by omega, by omega, by omega⟩
  have td : ∀ d, Tr X Y n E b a d → Tr X Y (n + 1) (insE X Y n E) a d n ∧ Tr X Y (n + 1) (insE X Y n E) d b n := fun d hd => by
    have p := on_dn hD hM h hin i1 hd
    exact ⟨side_T hD hM hd.rot (inT_rot (ib d hd)) p.1, side_T hD hM hd.rot.rot (inT_rot (inT_rot (ib d hd))) p.2⟩
  have cl : ∀ {u v : Nat}, Tr X Y (n + 1) (insE X Y n E) u v n → cells a b c u v ∨ ∃ d, Tr X Y n E b a d ∧ cells b a d u v := by
    intro u v hu
    rcases at_on hD hM h i1 i2 i3 hu with e | e | ⟨d, hd, e | e⟩
    · exact Or.inl (Or.inr (Or.inl e))
    · exact Or.inl (Or.inr (Or.inr e))
    · exact Or.inr ⟨d, hd, Or.inr (Or.inl e)⟩
    · exact Or.inr ⟨d, hd, Or.inr (Or.inr e)⟩
  constructor
  · intro k
    rcases F1 x y z k with k | k | ⟨d, hd, k | k⟩ | ⟨k1, k2, k3⟩
    · exact rt_Tr t2 k
    · exact rt_Tr t3 k
    · exact rt_Tr (td d hd).1 k
    · exact rt_Tr (td d hd).2 k
    · have l := k1.lt hM
      refine (ins_old hD hM (by omega) (by omega) (by omega)).mpr ⟨k1, fun hi => ?_⟩
      by_cases p : 0 < (ar X Y x y n)
      · rcases cl (side_T hD hM k1 hi p) with q | ⟨d, hd, q⟩
        · exact k2 q
        · exact k3 d hd q
      · have p2 : 0 < (ar X Y y z n) := Decidable.byContradiction fun q => two_z hD hM k1 (by have := hi.1; omega) (by have := hi.2.1; omega)
        have back : ∀ {a b c : Nat}, Tr X Y n E a b c → cells a b c y z → cells a b c x y := by
          intro a b c hT q
          rcases Tr_rt hM hT q k1.rot with ⟨e1, e2, e3⟩ | ⟨e1, e2, e3⟩ | ⟨e1, e2, e3⟩
          · exact Or.inr (Or.inr ⟨e3, e1⟩)
          · exact Or.inl ⟨e3, e1⟩
          · exact Or.inr (Or.inl ⟨e3, e1⟩)
        rcases cl (side_T hD hM k1.rot (inT_rot hi) p2) with q | ⟨d, hd, q⟩
        · exact k2 (back h q)
        · exact k3 d hd (back hd q)
  · intro k
    have ne := k.ne
    by_cases ez : z = n
    · rw [ez] at k ⊢
      rcases at_on hD hM h i1 i2 i3 k with ⟨e1, e2⟩ | ⟨e1, e2⟩ | ⟨d, hd, ⟨e1, e2⟩ | ⟨e1, e2⟩⟩
      · exact F2 x y n (Or.inl (Or.inl ⟨e1, e2, rfl⟩))
      · exact F2 x y n (Or.inr (Or.inl (Or.inl ⟨e1, e2, rfl⟩)))
      · exact F2 x y n (Or.inr (Or.inr ⟨d, hd, Or.inl (Or.inl ⟨e1, e2, rfl⟩)⟩))
      · exact F2 x y n (Or.inr (Or.inr ⟨d, hd, Or.inr (Or.inl ⟨e1, e2, rfl⟩)⟩))
    by_cases ex : x = n
    · rw [ex] at k ⊢
      rcases at_on hD hM h i1 i2 i3 k.rot with ⟨e1, e2⟩ | ⟨e1, e2⟩ | ⟨d, hd, ⟨e1, e2⟩ | ⟨e1, e2⟩⟩
      · exact F2 n y z (Or.inl (Or.inr (Or.inr ⟨rfl, e1, e2⟩)))
      · exact F2 n y z (Or.inr (Or.inl (Or.inr (Or.inr ⟨rfl, e1, e2⟩))))
      · exact F2 n y z (Or.inr (Or.inr ⟨d, hd, Or.inl (Or.inr (Or.inr ⟨rfl, e1, e2⟩))⟩))
      · exact F2 n y z (Or.inr (Or.inr ⟨d, hd, Or.inr (Or.inr (Or.inr ⟨rfl, e1, e2⟩))⟩))
    by_cases ey : y = n
    · rw [ey] at k ⊢
      rcases at_on hD hM h i1 i2 i3 k.rot.rot with ⟨e1, e2⟩ | ⟨e1, e2⟩ | ⟨d, hd, ⟨e1, e2⟩ | ⟨e1, e2⟩⟩
      · exact F2 x n z (Or.inl (Or.inr (Or.inl ⟨e2, rfl, e1⟩)))
      · exact F2 x n z (Or.inr (Or.inl (Or.inr (Or.inl ⟨e2, rfl, e1⟩))))
      · exact F2 x n z (Or.inr (Or.inr ⟨d, hd, Or.inl (Or.inr (Or.inl ⟨e2, rfl, e1⟩))⟩))
      · exact F2 x n z (Or.inr (Or.inr ⟨d, hd, Or.inr (Or.inr (Or.inl ⟨e2, rfl, e1⟩))⟩))
    obtain ⟨g1, g2⟩ := (ins_old hD hM ex ey ez).mp k
    have l := g1.lt hM
    have rin : ∀ {a b c : Nat}, Tr X Y n E a b c → inT X Y a b c n → ¬ cells a b c x y := by
      intro a b c hT hi c2
      refine g2 ?_
      rcases Tr_rt hM hT c2 g1 with ⟨e1, e2, e3⟩ | ⟨e1, e2, e3⟩ | ⟨e1, e2, e3⟩
      · rw [e1, e2, e3]; exact hi
      · rw [e1, e2, e3]; exact inT_rot hi
      · rw [e1, e2, e3]; exact inT_rot (inT_rot hi)
    exact F3 x y z l.1 l.2.1 g1 (rin h hin) fun d hd => rin hd (ib d hd)
def gf (s t : mS) : Prop := sm [24, 27] [28] [3] [] s t
theorem gf.z {s t : mS} (h : gf s t) : mz s t := h.mono (by decide) (by decide) (by decide) (by decide)
theorem gf_24 (T : Nat → Int32) (s : mS) : gf s (uA 24 T s) := sm_A (by decide) T s
theorem ms.g {s t : mS} (h : ms s t) : gf s t := h.mono (by decide) (by decide) (by decide) (by decide)
theorem f26_pos {s : mS} {K : Nat → Nat → Nat → Prop} {l : List Nat} {a b n : Nat} (hP : P42 s) (hK : TP s K) (hS : SU s l) (ha : a < 40) (hb : b < 40) (hn : n < 40) (nab : a ≠ b) (nbn : b ≠ n) (nna : n ≠ a) (p : 0 < ar (Xc s) (Yc s) a b n) :
    ∃ t l', f26 (nI a) (nI b) (nI n) s = some t ∧ TP t (fun x y z => rt a b n x y z ∨ (K x y z ∧ ¬ cells a b n x y)) ∧ SU t l' ∧ gf s t ∧ (∀ x, x ∈ l' ↔ x ∈ l ∨ x = cd a b) := by
  have hK2 := TP_put hK ha hb hn nab nbn nna
  obtain ⟨t, l', e, S, z, m, _⟩ := f55_ev (s := uA 24 (th3 (s.1 24) a b n (nI n) (nI a) (nI b)) s) (hS.same rfl rfl rfl) ha hb nab
  refine ⟨t, l', ?_, hK2.same (z.1 24 (by decide)), S, (gf_24 _ s).trans z.g, m⟩
  unfold f26
  rw [f73_eq hP (by omega) (by omega) (by omega)]
  show (if _ then _ else _) = _
  rw [if_neg (fun q => by have := (sgn_le _).mp q; omega), f49_eq ha hb hn]
  show (f55 _ _ _).bind _ = _
  rw [e]; rfl
theorem f26_on {s : mS} {K : Nat → Nat → Nat → Prop} {l : List Nat} {a b n : Nat} (hP : P42 s) (hK : TP s K) (hS : SU s l) (ha : a < 40) (hb : b < 40) (hn : n < 40) (nab : a ≠ b) (p : ar (Xc s) (Yc s) a b n ≤ 0) :
    ((∀ z, ¬ K b a z) → f26 (nI a) (nI b) (nI n) s = some s) ∧
    (∀ d, K b a d → d < 40 → d ≠ a → d ≠ b → d ≠ n → a ≠ n → b ≠ n → ∃ t l', f26 (nI a) (nI b) (nI n) s = some t ∧ TP t (fun x y z => rt d b n x y z ∨ ((rt a d n x y z ∨ ((K x y z ∧ ¬ cells b a d x y) ∧ ¬ cells a d n x y)) ∧ ¬ cells d b n x y)) ∧ SU t l' ∧ gf s t ∧ (∀ x, x ∈ l' ↔ x ∈ l ∨ x = cd a d ∨ x = cd d b)) := by
  have base : f26 (nI a) (nI b) (nI n) s = (f27 (nI a) (nI b) (nI n) s).bind fun q => some q := by
    unfold f26
    rw [f73_eq hP (by omega) (by omega) (by omega)]
    show (if _ then _ else _) = _
    rw [if_pos ((sgn_le _).mpr p)]
  have b27 : ∀ v, s.1 24 (40 * b + a) = v → f27 (nI a) (nI b) (nI n) s = if v = -1 then some s else (f56 (nI b) (nI a) v s).bind fun q4 => (f49 (nI a) v (nI n) q4).bind fun q6 => (f49 v (nI b) (nI n) q6).bind fun q8 => (f55 (nI a) v q8).bind fun q10 => (f55 v (nI b) q10).bind fun q12 => some q12 := by
    intro v hv
    unfold f27
    rw [f54_eq hb ha, hv]
    rfl
  constructor
  · intro hno
    rw [base, b27 (-1) ((hK b a hb ha).2 hno), if_pos rfl]
    rfl
  · intro d hd hd4 nda ndb ndn nan nbn
    rw [base, b27 (nI d) ((hK b a hb ha).1 d hd), if_neg (nI_m1 (by omega))]
    have hK1 := TP_take hK hb ha hd4
    have hK2 := TP_put hK1 ha hd4 hn (Ne.symm nda) ndn (Ne.symm nan)
    have hK3 := TP_put hK2 hd4 hb hn ndb nbn (Ne.symm ndn)
    let s1 := uA 24 (th3 (s.1 24) b a d (-1) (-1) (-1)) s
    let s2 := uA 24 (th3 (s1.1 24) a d n (nI n) (nI a) (nI d)) s1
    let s3 := uA 24 (th3 (s2.1 24) d b n (nI n) (nI d) (nI b)) s2
    have q1 : f56 (nI b) (nI a) (nI d) s = some s1 := f56_eq hb ha hd4 s
    have q2 : f49 (nI a) (nI d) (nI n) s1 = some s2 := f49_eq ha hd4 hn s1
    have q3 : f49 (nI d) (nI b) (nI n) s2 = some s3 := f49_eq hd4 hb hn s2
    have g3 : gf s s3 := ((gf_24 _ s).trans (gf_24 _ s1)).trans (gf_24 _ s2)
    obtain ⟨t4, l4, e4, S4, z4, m4, _⟩ := f55_ev (s := s3) (hS.same rfl rfl rfl) ha hd4 (Ne.symm nda)
    obtain ⟨t5, l5, e5, S5, z5, m5, _⟩ := f55_ev S4 hd4 hb ndb
    have zz : ms s3 t5 := z4.trans z5
    refine ⟨t5, l5, ?_, hK3.same (zz.1 24 (by decide)), S5, g3.trans zz.g, fun x => ?_⟩
    · simp only [q1, q2, q3, e4, e5, Option.bind_some]
    · rw [m5, m4]
      constructor
      · rintro ((h | h) | h)
        · exact Or.inl h
        · exact Or.inr (Or.inl h)
        · exact Or.inr (Or.inr h)
      · rintro (h | h | h)
        · exact Or.inl (Or.inl h)
        · exact Or.inl (Or.inr h)
        · exact Or.inr h
