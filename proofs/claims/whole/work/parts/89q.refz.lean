/-! the reference's run, closed backward -/
theorem fin.add {s0 : mS} {G : List Nat → Prop} {f g : Nat → Option mS} (m : Nat) (h : fin s0 G g) (e : ∀ k, f (k + m) = g k) : fin s0 G f := by
  obtain ⟨r, tsF, ⟨K, hK⟩, h2, h3⟩ := h
  refine ⟨r, tsF, ⟨K + m, fun k hk => ?_⟩, h2, h3⟩
  have := e (k - m)
  rw [show k - m + m = k by omega] at this
  rw [this]
  exact hK _ (by omega)
theorem hdT {s0 s : mS} {d v j p : Nat} {ts : List Nat} (z : RSt s0 s ts) (hv : v < 42) (hlen : ts.length < 77) (t lam rho jl jr : Int32) : ∃ s', RSt s0 s' (ts ++ [v]) ∧ ∀ k, r151 (k + 2) 2 (nI d) t (nI j) 1 (nI p) lam rho jl jr (nI v) s = r151 k 1 (nI d) (nI v) (nI j) 1 (nI j) 0 0 0 0 0 s' := by
  obtain ⟨z1, z2, z3⟩ := z
  let s1 := uA 49 (upd (s.1 49) ts.length (nI v)) s
  let s2 := uF 19 (nI (ts.length + 1)) s1
  refine ⟨s2, ⟨z1.trans ((sm_A (by decide) _ s : sm [49] [] [19] [] s s1).trans (sm_F (by decide) _ s1)), ?_, ?_⟩, fun k => ?_⟩
  · rw [show s2.2.2.1 19 = nI (ts.length + 1) from uF_at 19 _ s1]
    simp
  · intro i y hy
    show upd (s.1 49) ts.length (nI v) i = nI y
    by_cases q : i < ts.length
    · rw [upd_ne (by omega)]
      exact z3 i y (by rw [List.getElem?_append_left q] at hy; exact hy)
    · have hl' := at_lt hy
      simp at hl'
      have ei : i = ts.length := by omega
      rw [ei] at hy ⊢
      rw [upd_at]
      simp at hy
      rw [hy]
  · have n1 : ¬ nI v < 0 := fun q => by have := (nI_ltI (b := 0) (by omega) (by omega)).mp q; omega
    have n2 : (0 : Int32) ≤ nI v := (nI_leI (a := 0) (by omega) (by omega)).mpr (Nat.zero_le _)
    have push : rdI 100 (s.2.2.1 19) (pt (uA 49 (upd (s.1 49) (Int32.toNatClampNeg (s.2.2.1 19)) (nI v)) s) fun s4 => pt (uF 19 ((s4.2.2.1 19) + (1 : Int32)) s4) fun s6 => r151 (k + 1) 0 (nI d) (nI v) (nI j) 1 0 0 0 0 0 0 s6) = r151 k 1 (nI d) (nI v) (nI j) 1 (nI j) 0 0 0 0 0 s2 := by
      rw [z2, rdI_nI (show ts.length < 100 by omega) (by decide), nI_clamp (by omega)]
      show r151 (k + 1) 0 (nI d) (nI v) (nI j) 1 0 0 0 0 0 0 (uF 19 (s1.2.2.1 19 + 1) s1) = _
      rw [show s1.2.2.1 19 = nI ts.length from z2, nI_1]
      show r151 (k + 1) 0 (nI d) (nI v) (nI j) 1 0 0 0 0 0 0 s2 = _
      rw [r151]
      rw [if_pos rfl, if_neg (show ¬ (1 : Int32) = 0 by decide)]
    show r151 (k + 1 + 1) 2 (nI d) t (nI j) 1 (nI p) lam rho jl jr (nI v) s = _
    rw [r151]
    rw [if_neg (show ¬ (2 : Nat) = 0 by decide), if_neg (show ¬ (2 : Nat) = 1 by decide)]
    by_cases c : nI d < nI p
    · rw [if_pos c, if_neg n1]
      exact push
    · rw [if_neg c, if_pos n2, if_neg n1]
      exact push
theorem RX.Zc {s0 : mS} {X Y : Nat → Int} {n d : Nat} {L R : Nat → Nat} (h : RX s0 X Y n d L R) (G : List Nat → Prop) : Zc X Y L R d (ZNr s0 X Y n d G) (ZSr s0 X Y n d G) := by
  have hn := h.2.1
  have hd := h.2.2.1
  have gL : ∀ q, q ≤ d → gdp n (L q) := fun q hq => (h.2.2.2.2 q hq).2.2.1
  have gR : ∀ q, q ≤ d → gdp n (R q) := fun q hq => (h.2.2.2.2 q hq).2.2.2
  refine ⟨?_, ?_, ?_, ?_, ?_⟩
  · intro t p ts hp hno hz ht
    obtain ⟨q1, q2⟩ := hz ht (gL _ hp) (gR _ hp) (Nat.le_refl _) (Nat.le_refl _) hp
    refine ⟨q1, fun t' s v3 ht' hpe z => fin.one (q2 t' s v3 ht' hpe z) fun k => (hd1 h z v3 ht' hp k).1 ?_⟩
    by_cases c : p + 1 < d
    · exact Or.inr fun w => hno c ((pe_oS hpe).mp w)
    · exact Or.inl (by omega)
  · intro t p ts hp hon hz ht
    obtain ⟨q1, q2⟩ := hz ht
    exact ⟨q1, fun t' s v3 ht' hpe z => fin.one (q2 t' s v3 ht' hpe z) fun k => (hd1 h z v3 ht' (by omega) k).2 hp ((pe_oS hpe).mpr hon)⟩
  · intro t p ts lam jl rho jr lam' jl' rho' jr' hp hq hz ht hl hr hjl hjr hpd
    obtain ⟨a1, a2, a3, a4⟩ := hq
    have gl' : gdp n lam' ∧ jl' ≤ p + 1 := by
      rcases a3 with ⟨_, e, e'⟩ | ⟨_, e, e'⟩
      · rw [e, e']; exact ⟨hl, by omega⟩
      · rw [e, e']; exact ⟨gL _ hp, Nat.le_refl _⟩
    have gr' : gdp n rho' ∧ jr' ≤ p + 1 := by
      rcases a4 with ⟨_, e, e'⟩ | ⟨_, e, e'⟩
      · rw [e, e']; exact ⟨hr, by omega⟩
      · rw [e, e']; exact ⟨gR _ hp, Nat.le_refl _⟩
    obtain ⟨q1, q2⟩ := hz ht gl'.1 gr'.1 gl'.2 gr'.2 hp
    refine ⟨q1, fun t' s v3 ht' hpe z => fin.one (q2 t' s v3 ht' hpe z) fun k => ?_⟩
    rw [← pe_ar hpe] at a1 a2 a3 a4
    show r151 (k + 1) 2 (nI d) (nI t') v3 1 (nI (p + 1)) (nI lam) (nI rho) (nI jl) (nI jr) (-1) s = _
    rw [hd2 h z v3 ht' hl hr hp k, if_pos a1, if_pos a2]
    rcases a3 with ⟨c, e, e'⟩ | ⟨c, e, e'⟩ <;> rcases a4 with ⟨c2, e2, e2'⟩ | ⟨c2, e2, e2'⟩
    · rw [if_pos c, if_pos c2, e, e', e2, e2']
    · rw [if_pos c, if_neg (by omega), e, e', e2, e2']
    · rw [if_neg (by omega), if_pos c2, e, e', e2, e2']
    · rw [if_neg (by omega), if_neg (by omega), e, e', e2, e2']
  · intro t p ts lam jl rho jr hp c1 c2 e hj hz ht hl hr hjl hjr hpd
    obtain ⟨q1, q2⟩ := hz hr
    have hlen : ts.length < 77 := by simp at q1; omega
    refine ⟨by omega, fun t' s v3 ht' hpe z => ?_⟩
    obtain ⟨s', w1, w2⟩ := hdT (d := d) (v := rho) (j := jr) (p := p + 2) z (hr.lt hn) hlen (nI t') (nI lam) (nI rho) (nI jl) (nI jr)
    refine fin.add 4 (q2 rho s' (nI jr) hr ⟨rfl, rfl⟩ w1) fun k => ?_
    rw [← pe_ar hpe] at c1
    show r151 (k + 3 + 1) 2 (nI d) (nI t') v3 1 (nI (p + 1)) (nI lam) (nI rho) (nI jl) (nI jr) (-1) s = _
    rw [hd2 h z v3 ht' hl hr hp (k + 3), if_neg (by omega), w2 (k + 1)]
    exact (hd1 h w1 (nI jr) hr (by omega) k).2 (by omega) (by rw [e]; exact oS_R X Y _ _)
  · intro t p ts lam jl rho jr hp c1 c2 e hj hz ht hl hr hjl hjr hpd
    obtain ⟨q1, q2⟩ := hz hl
    have hlen : ts.length < 77 := by simp at q1; omega
    refine ⟨by omega, fun t' s v3 ht' hpe z => ?_⟩
    obtain ⟨s', w1, w2⟩ := hdT (d := d) (v := lam) (j := jl) (p := p + 2) z (hl.lt hn) hlen (nI t') (nI lam) (nI rho) (nI jl) (nI jr)
    refine fin.add 4 (q2 lam s' (nI jl) hl ⟨rfl, rfl⟩ w1) fun k => ?_
    rw [← pe_ar hpe] at c1 c2
    show r151 (k + 3 + 1) 2 (nI d) (nI t') v3 1 (nI (p + 1)) (nI lam) (nI rho) (nI jl) (nI jr) (-1) s = _
    rw [hd2 h z v3 ht' hl hr hp (k + 3), if_pos c1, if_neg (by omega), w2 (k + 1)]
    exact (hd1 h w1 (nI jl) hl (by omega) k).2 (by omega) (by rw [e]; exact oS_L X Y _ _)
theorem RX.Ze {s0 : mS} {X Y : Nat → Int} {n d : Nat} {L R : Nat → Nat} (h : RX s0 X Y n d L R) (G : List Nat → Prop) : Ze d (ZSr s0 X Y n d G) (fun ts => ts.length ≤ 77 ∧ G ts) := by
  intro t lam jl rho jr ts ⟨g1, g2⟩ ht hl hr hjl hjr hpd
  have hd := h.2.2.1
  refine ⟨g1, fun t' s v3 ht' hpe z => ⟨s, ts, ⟨2, fun k hk => ?_⟩, z, g2⟩⟩
  have : ∀ k, r151 (k + 1 + 1) 2 (nI d) (nI t') v3 1 (nI (d + 1)) (nI lam) (nI rho) (nI jl) (nI jr) (-1) s = some s := by
    intro k
    rw [r151]
    rw [if_neg (show ¬ (2 : Nat) = 0 by decide), if_neg (show ¬ (2 : Nat) = 1 by decide), if_pos ((nI_ltI (by omega) (by omega)).mpr (by omega)), if_pos (show (-1 : Int32) < 0 by decide)]
    rw [r151]
    rw [if_pos rfl, if_pos rfl]
  have e := this (k - 2)
  rw [show k - 2 + 1 + 1 = k by omega] at e
  exact e
