/-! the class's way, whole -/
theorem popL_pe {X Y : Nat → Int} {b b2 : Nat} (h : pe X Y b b2) : ∀ c t, popL X Y b t c = popL X Y b2 t c := by
  intro c
  induction c with
  | nil => intro t; rfl
  | cons v r ih =>
    intro t
    simp only [popL]
    rw [ih v, pe_ar3 h t v]
theorem tnL_pe {X Y : Nat → Int} {b b2 : Nat} (h : pe X Y b b2) : ∀ c t, tnL X Y b t c = tnL X Y b2 t c := by
  intro c
  induction c with
  | nil => intro t; rfl
  | cons v r ih =>
    intro t
    rw [tnL, tnL, ih v, pe_ar3 h t v]
theorem gl_pe {X Y : Nat → Int} {b b2 : Nat} (h : pe X Y b b2) (t : Nat) (cl cr : List Nat) : gl X Y b t cl cr = gl X Y b2 t cl cr := by
  unfold gl
  rw [popL_pe h, tnL_pe h]
theorem lz_last {t0 u v : Nat} {ts m : List Nat} (e : t0 :: ts = m ++ [u, v]) : lz t0 ts = v := by
  obtain ⟨m', e'⟩ := last_ex ts t0
  rw [e'] at e
  have e : m' ++ [lz t0 ts] = (m ++ [u]) ++ [v] := by rw [e]; simp
  have := List.append_inj_right' e rfl
  simpa using this
theorem CW.way {s1 : mS} {n m d g a : Nat} {E lk : Nat → Nat → Prop} {T : Nat → Nat → Nat} {P S : Nat → Nat} {ZN : ZNt} {ZS : ZSt} {Z0 : (List Nat → Prop) → Prop} (h : CW s1 n m d E lk T g a P S) (hZ : ∀ G, Zc (Xc s1) (Yc s1) (dL T P S d) (dR' T P S d) d (ZN G) (ZS G)) (hE : ∀ G, Ze d (ZS G) (fun ts => ts.length ≤ 77 ∧ G ts))
    (hZ1 : 0 < d → ∀ G t0, gdp n t0 → pe (Xc s1) (Yc s1) t0 40 → oS (Xc s1) (Yc s1) (dL T P S d 0) (dR' T P S d 0) t0 → ZN G t0 0 [] → Z0 G) (hZ2 : 0 < d → ∀ G t0, gdp n t0 → pe (Xc s1) (Yc s1) t0 40 → ¬ oS (Xc s1) (Yc s1) (dL T P S d 0) (dR' T P S d 0) t0 → ZS G t0 0 (dL T P S d 0) 0 (dR' T P S d 0) 0 [] → Z0 G) (hZ3 : d = 0 → ∀ G, G [] → Z0 G) :
    ∃ s' TS l' b', ev (fun k => f84 k s1) (nI l'.length, s') ∧ sm [38, 40, 41] [] [6, 7, 8, 9, 10, 11, 12, 13] [] s1 s' ∧ CTn s' l' ∧ TS.length ≤ 77 ∧ (∀ y, y ∈ TS → y < n) ∧ cutR b' TS l' ∧ Bn (Xc s1) (Yc s1) TS ∧ pe (Xc s1) (Yc s1) b' 41 ∧ (∀ q, q < n → pe (Xc s1) (Yc s1) q 41 → q = b') ∧ ∀ G : List Nat → Prop, G TS → Z0 G := by
  have h' := h
  obtain ⟨hP, hn, hd, hm, hD, hM, hT, hRow, h0, h5, h33, hG, h26, ha, hb⟩ := h'
  obtain ⟨t0, ⟨K1, hK1⟩, q1, q2, q3⟩ := f85_ev h0 hn hD (show 40 < 42 by decide)
  have gt0 : gdp n t0 := by
    rcases q1 with q | q
    · exact Or.inl q
    · exact Or.inr (Or.inl q)
  obtain ⟨s2, e11, z2, i6, i7, i8, i9, i10, i11, i12, i13⟩ := f11_eq (nI t0) s1
  -- the loop is all
  have go : ∀ r, ev (fun k => r84 k (nI 1) s2) r → ev (fun k => f84 k s1) r := by
    intro r ⟨K, hK⟩
    refine ⟨K + K1, fun k hk => ?_⟩
    have a1 : f85 k 40 s1 = some (nI t0) := hK1 k (by omega)
    have a2 : r84 k 1 s2 = some r := hK k (by omega)
    show f84 k s1 = some r
    unfold f84
    rw [a1]
    simp only [Option.bind_some]
    rw [e11]
    exact a2
  -- the end, from any state of the run
  have fin : ∀ s t hl hr cl cr ts, sm [38, 40, 41] [] [6, 7, 8, 9, 10, 11, 12, 13] [] s1 s → FU s t hl hr cl cr ts → hl + cl.length + hr + cr.length ≤ 75 → ts.length = hl + hr → gdp n t → (∀ y, y ∈ cl → y < n) → (∀ y, y ∈ cr → y < n) → (∀ y, y ∈ ts → y < n) → ∃ s' l' b', ev (fun k => r84 k (nI (d + 1)) s) (nI l'.length, s') ∧ sm [38, 40, 41] [] [6, 7, 8, 9, 10, 11, 12, 13] [] s1 s' ∧ CTn s' l' ∧ cutR b' (ts ++ gl (Xc s1) (Yc s1) 41 t cl cr) l' ∧ pe (Xc s1) (Yc s1) b' 41 ∧ (∀ q, q < n → pe (Xc s1) (Yc s1) q 41 → q = b') ∧ (ts ++ gl (Xc s1) (Yc s1) 41 t cl cr).length ≤ 77 ∧ ∀ y, y ∈ ts ++ gl (Xc s1) (Yc s1) 41 t cl cr → y < n := by
    intro s t hl hr cl cr ts z hF hbd htl hgt hcl hcr hts
    have eX := Xc_same (z.1 18 (by decide))
    have eY := Yc_same (z.1 19 (by decide))
    have hP' := P42_same hP (z.1 18 (by decide)) (z.1 19 (by decide))
    obtain ⟨b', hb', w1, w2, w3⟩ := f85_ev (s := s) (i := 41) (by rw [z.2.2.1 0 (by decide)]; exact h0) hn (by rw [eX, eY]; exact hD) (by decide)
    rw [eX, eY] at w2 w3
    have b42 : b' < 42 := by omega
    obtain ⟨s', l', e17, z3, k3, k4⟩ := f17_ev hP' hF hbd htl (hgt.lt hn) b42 (fun y hy => by have := hcl y hy; omega) (fun y hy => by have := hcr y hy; omega) (fun y hy => by have := hts y hy; omega)
    rw [eX, eY, gl_pe w2] at k3
    have fin := r84_fin (d := d) (by rw [z.2.2.1 5 (by decide)]; exact h5) hd hb' e17
    rw [k4.1] at fin
    obtain ⟨g1, g2⟩ := gl_mem (Xc s1) (Yc s1) 41 t cl cr
    refine ⟨s', l', b', fin, z.trans (z3.mono (by decide) (by decide) (by decide) (by decide)), k4, k3, w2, fun q hq hp => w3 q hq ⟨hp.1.trans w2.1.symm, hp.2.trans w2.2.symm⟩, by rw [List.length_append]; omega, fun y hy => ?_⟩
    rcases List.mem_append.mp hy with q | q
    · exact hts y q
    · rcases g1 y q with q | q
      · exact hcl y q
      · exact hcr y q
  by_cases d0 : d = 0
  · have hF : FU s2 t0 0 0 [] [] [] := ⟨i6, i10, i11, i12, i13, i9, fun i x hx => by simp at hx, fun i x hx => by simp at hx, fun i x hx => by simp at hx⟩
    obtain ⟨s', l', b', a1, a2, a3, a4, a5, a6, a7, a8⟩ := fin s2 t0 0 0 [] [] [] z2 hF (by decide) rfl gt0 (fun y hy => by simp at hy) (fun y hy => by simp at hy) (fun y hy => by simp at hy)
    rw [d0] at a1
    have a4 : cutR b' [] l' := a4
    exact ⟨s', [], l', b', go _ a1, a2, a3, by decide, fun y hy => by simp at hy, a4, fun i a c b _ hc => by simp at hc, a5, a6, hZ3 d0⟩
  · obtain ⟨p, ep⟩ : ∃ p, d = p + 1 := ⟨d - 1, by omega⟩
    have hDr := hRow.Dr hT
    have hd0 : 0 < d := by omega
    have side0 := hDr.2.1 0 hd0
    have tr0 := hDr.1 0 hd0
    have lt0 := tr0.lt hM
    -- the first place, seen from the first door
    have st : 0 ≤ ar (Xc s1) (Yc s1) t0 (dR' T P S d 0) (dL T P S d 0) ∧ (ar (Xc s1) (Yc s1) t0 (dR' T P S d 0) (dL T P S d 0) = 0 → oS (Xc s1) (Yc s1) (dL T P S d 0) (dR' T P S d 0) t0) := by
      obtain ⟨hi, k, hk, e1, e2⟩ := side0
      have t := hT.tr hi hk
      have r := ha
      rw [← hRow.1] at r
      have r := r.rot hk
      rw [e1, e2] at t r
      have c := ar_c (Xc s1) (Yc s1) t0 (dR' T P S d 0) (dL T P S d 0)
      have c2 := pe_ar3 q2 (dR' T P S d 0) (dL T P S d 0)
      have r1 := r.1
      refine ⟨by omega, fun z => ?_⟩
      exact (pe_oS q2).mpr (oS_sym (side_on t.2.2.2.1 r (by omega)))
    obtain ⟨s3, e12, c3⟩ := CI.first (ZN := ZN) (ZS := ZS) (Z0 := Z0) hP hn hD lt0.1 lt0.2.1 tr0.ne.1 gt0 q3 st.1 st.2 (fun G o z => hZ1 hd0 G t0 gt0 q2 o z) (fun G o z => hZ2 hd0 G t0 gt0 q2 o z) z2 i6 i7 i8 i9 i10 i11 i12 i13
    obtain ⟨s4, c4, k4⟩ := h.doors hZ (d - 1) 0 s3 (by omega) c3
    have ep1 : d - 1 = p := by omega
    rw [ep1] at c4
    obtain ⟨z4, f7, f8, t, hl, hr, cl, cr, ts, hF, hA⟩ := c4
    obtain ⟨b1, b2, b3, b4, b5, b6, b7, b8, b9, b10⟩ := hA
    obtain ⟨s', l', b', a1, a2, a3, a4, a5, a6, a7, a8⟩ := fin s4 t hl hr cl cr ts z4 hF (by omega) b2 b3 b4 b5 b6
    have hp : p < d := by omega
    have trp := hDr.1 p hp
    have ltp := trp.lt hM
    have ing : inT (Xc s1) (Yc s1) (dL T P S d p) (dR' T P S d p) (dA T P S p) 41 := by
      refine in_at2 hM hT (hDr.2.2.1 p hp).1 ?_ trp
      have e : P (p + 1) = g := by rw [← ep]; exact (hRow.goal (Nat.le_refl d)).mpr rfl
      rw [e]
      exact hb
    have hb1 := ing.1
    have hb2 : ar (Xc s1) (Yc s1) (dL T P S d p) (dR' T P S d p) 41 = 0 → oS (Xc s1) (Yc s1) (dL T P S d p) (dR' T P S d p) 41 := fun z => side_on trp.2.2.2.1 ing z
    obtain ⟨Z1, T1, _⟩ := b7 (fun _ => True)
    obtain ⟨g1, g2⟩ := Tip.goalK (b := 41) hb1 hb2 (hD.nq ltp.1 ltp.2.1 trp.ne.1) (fun u q x1 x2 x3 x4 nb => by
      have f := hDr.fanR hM hT x1 hp x2 x3 x4
      have et := x2 p (by omega) (Nat.le_refl _)
      rw [← et] at f nb ⊢
      have cn := CN.of2 (t := dR' T P S d p) (lam := dL T P S d p) (rho := dA T P S p) (x := 41) (by rw [← ar_c]; exact trp.2.2.2.1) ing.2.1 (by rw [← ar_c]; exact hb1) nb
      exact f.into cn cn) (fun u q x1 x2 x3 x4 nb => by
      have f := hDr.fanL hM hT x1 hp x2 x3 x4
      have et := x2 p (by omega) (Nat.le_refl _)
      rw [← et] at f nb ⊢
      have cn := CN.of2 (t := dL T P S d p) (lam := dA T P S p) (rho := dR' T P S d p) (x := 41) trp.2.2.2.1 hb1 (by rw [← ar_c]; exact ing.2.2) nb
      exact f.into cn cn) T1
    obtain ⟨p1, p2⟩ := path_step (es := gl (Xc s1) (Yc s1) 41 t cl cr) b8 b9 (K := fun u t => Kp (Xc s1) (Yc s1) (dL T P S d) (dR' T P S d) p u t cl cr) (K' := fun u v => ¬ pe (Xc s1) (Yc s1) v 41 → NS (Xc s1) (Yc s1) u v 41) b10 rfl (fun u hK => ⟨fun e => (by rw [e]; exact (g1 u hK).1 e), (g1 u hK).2⟩) (fun ne => ⟨(g2 ne).1, fun m u' e _ => (g2 ne).2 m u' _ e⟩)
    refine ⟨s', _, l', b', go _ (h.door z2 hd0 e12 (k4 _ a1)), a2, a3, a7, a8, a4, Bn.of q2 p1 (fun m u v e nb => ?_), a5, a6, fun G hG' => ?_⟩
    · have ev' := lz_last e
      rw [lz_app, b8] at ev'
      have := p2 m u (by rw [e, ev'])
      rw [ev'] at this
      exact this nb
    · obtain ⟨Zf, T2, zz⟩ := b7 G
      refine zz (Tip.goal (p := p) (b := 41) (ZE := fun ts => ts.length ≤ 77 ∧ G ts) (by rw [← ep]; exact hZ G) (by rw [← ep]; exact hE G) ?_ ?_ hb1 T2 ts ⟨a7, hG'⟩)
      · unfold dL; rw [if_neg (by omega)]
      · unfold dR'; rw [if_neg (by omega)]
