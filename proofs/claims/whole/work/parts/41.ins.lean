/-! M3: one more point -/
theorem oS_sym {X Y : Nat → Int} {a b p : Nat} (h : oS X Y a b p) : oS X Y b a p := by
  refine ⟨by have := ar_s X Y a b p; have := h.1; omega, ?_⟩
  have := h.2
  unfold dt at this ⊢
  rw [Int.mul_comm (X b - X p), Int.mul_comm (Y b - Y p)]
  exact this
theorem aff_wb (X Y : Nat → Int) (a b : Nat) : Aff X Y (fun z => wb X Y a b z) := ⟨X b - X a, Y b - Y a, -(X a * (X b - X a) + Y a * (Y b - Y a)), fun z => by show wb X Y a b z = _; unfold wb; grind⟩
/-- p goes into both halves of the segment -/
theorem sub_on {X Y : Nat → Int} {c d m p : Nat} (hm : oS X Y c d m) (h1 : nq X Y c d) (h2 : nq X Y c m) (h3 : nq X Y d m) (hp : oS X Y m c p) : oS X Y c d p ∧ nq X Y d p := by
  obtain ⟨w1, w2⟩ := oS_ws hm h1 h2 h3
  have hs := sq_pos h1
  have ws := w_sum X Y c d m
  have hs2 : 0 < sq X Y m c := sq_pos (fun k => h2 ⟨k.1.symm, k.2.symm⟩)
  obtain ⟨v1, v2⟩ := oS_w hp
  have vs := w_sum X Y m c p
  have g1 : sq X Y m c * (ar X Y c d p) = wa X Y m c p * (ar X Y c d m) + wb X Y m c p * (ar X Y c d c) := w_aff (aff_ar X Y c d) hp.1
  rw [hm.1, ar_xyx X Y c d, Int.mul_zero, Int.mul_zero] at g1
  have z : (ar X Y c d p) = 0 := czz hs2 (by omega)
  have g2 : sq X Y m c * wb X Y c d p = wa X Y m c p * wb X Y c d m + wb X Y m c p * wb X Y c d c := w_aff (aff_wb X Y c d) hp.1
  have c0 : wb X Y c d c = 0 := by unfold wb; grind
  have d0 : wb X Y c d d = sq X Y c d := by unfold wb sq; grind
  rw [c0, Int.mul_zero, Int.add_zero] at g2
  have k1 : 0 ≤ wb X Y c d p := cnn hs2 (by rw [g2]; exact zpp v1 (by omega))
  have k2 : wb X Y c d p ≤ wb X Y c d m := by
    have := zpp v2 (Int.le_of_lt w2)
    have e : sq X Y m c * (wb X Y c d m - wb X Y c d p) = wb X Y m c p * wb X Y c d m := by rw [Int.mul_sub, g2, ← vs, Int.add_mul]; omega
    have := cnn hs2 (show 0 ≤ sq X Y m c * (wb X Y c d m - wb X Y c d p) by omega)
    omega
  refine ⟨oS_of (aff_wb X Y c d) z ?_ ?_ ?_, fun k => ?_⟩
  · show wb X Y c d c ≤ wb X Y c d p; omega
  · show wb X Y c d p ≤ wb X Y c d d; omega
  · show wb X Y c d c < wb X Y c d d; omega
  · have : wb X Y c d p = wb X Y c d d := by unfold wb; rw [k.1, k.2]
    omega
theorem sub_crs {X Y : Nat → Int} {c d m u v : Nat} (hm : oS X Y c d m) (h1 : nq X Y c d) (h2 : nq X Y c m) (h3 : nq X Y d m) (hx : crs X Y m c u v) : crs X Y c d u v := by
  obtain ⟨w1, w2⟩ := oS_ws hm h1 h2 h3
  have hs := sq_pos h1
  have g : ∀ z, sq X Y c d * (ar X Y m c z) = -(wb X Y c d m * (ar X Y c d z)) := by
    intro z
    have g1 : sq X Y c d * (ar X Y z c m) = wa X Y c d m * (ar X Y z c c) + wb X Y c d m * (ar X Y z c d) := w_aff (aff_ar X Y z c) hm.1
    rw [ar_yxx X Y z c, Int.mul_zero, Int.zero_add] at g1
    have e1 := ar_o X Y m c z
    have e2 := ar_c X Y z c d
    rw [e1, Int.mul_neg, g1, e2]
  have g2 : sq X Y c d * (ar X Y u v m) = wa X Y c d m * (ar X Y u v c) + wb X Y c d m * (ar X Y u v d) := w_aff (aff_ar X Y u v) hm.1
  have gu := g u
  have gv := g v
  constructor
  · have s1 : ∀ {x y : Int}, sq X Y c d * x = -(wb X Y c d m * y) → 0 < x → y < 0 := fun e h => by
      have := mpp hs h
      exact cneg w2 (by omega)
    have s2 : ∀ {x y : Int}, sq X Y c d * x = -(wb X Y c d m * y) → x < 0 → 0 < y := fun e h => by
      have := mpn hs h
      exact cpos w2 (by omega)
    rcases neg_cases hx.1 with ⟨k1, k2⟩ | ⟨k1, k2⟩
    · exact mnp (s1 gu k1) (s2 gv k2)
    · exact mpn (s2 gu k1) (s1 gv k2)
  · rcases neg_cases hx.2 with ⟨k1, k2⟩ | ⟨k1, k2⟩
    · have j1 := mpp hs k1
      have j2 := mpn w1 k2
      exact mnp k2 (cpos w2 (by omega))
    · have j1 := mpn hs k1
      have j2 := mpp w1 k2
      exact mpn k2 (cneg w2 (by omega))
def vs (X Y : Nat → Int) (n : Nat) (E : Nat → Nat → Prop) (v : Nat) : Prop := v < n ∧ clr X Y n n v ∧ ∀ c d, E c d → ¬ crs X Y n v c d
/-- the edges with the new point n -/
def insE (X Y : Nat → Int) (n : Nat) (E : Nat → Nat → Prop) (x y : Nat) : Prop := (E x y ∧ ¬ oS X Y x y n) ∨ (x = n ∧ vs X Y n E y) ∨ (y = n ∧ vs X Y n E x)
theorem Dst.le {X Y : Nat → Int} {n m : Nat} (h : Dst X Y m) (hn : n ≤ m) : Dst X Y n := fun i j hi hj => h i j (by omega) (by omega)
theorem vs_end {X Y : Nat → Int} {n c d : Nat} {E : Nat → Nat → Prop} (hD : Dst X Y (n + 1)) (hM : Mx X Y n E) (hE : E c d) (hm : oS X Y c d n) : vs X Y n E c := by
  obtain ⟨m1, m2, m3, m4⟩ := hM
  obtain ⟨hc, hd, ncd, hdc⟩ := m1 c d hE
  have q1 := hD.nq (show c < n + 1 by omega) (show d < n + 1 by omega) ncd
  have q2 := hD.nq (show c < n + 1 by omega) (show n < n + 1 by omega) (by omega)
  have q3 := hD.nq (show d < n + 1 by omega) (show n < n + 1 by omega) (by omega)
  refine ⟨hc, fun p hp _ pc hon => ?_, fun u v huv hx => m3 c d u v hE huv (sub_crs hm q1 q2 q3 hx)⟩
  obtain ⟨k1, k2⟩ := sub_on hm q1 q2 q3 hon
  exact m2 c d hE p hp pc (fun e => k2 (by rw [e]; exact ⟨rfl, rfl⟩)) k1
theorem ins_Mx {X Y : Nat → Int} {n : Nat} {E : Nat → Nat → Prop} (hD : Dst X Y (n + 1)) (hM : Mx X Y n E) : Mx X Y (n + 1) (insE X Y n E) := by
  have hM' := hM
  obtain ⟨m1, m2, m3, m4⟩ := hM
  refine ⟨?_, ?_, ?_, ?_⟩
  · intro x y h
    rcases h with ⟨h, k⟩ | ⟨h, k⟩ | ⟨h, k⟩
    · have := m1 x y h
      exact ⟨by omega, by omega, this.2.2.1, Or.inl ⟨this.2.2.2, fun q => k (oS_sym q)⟩⟩
    · have := k.1
      exact ⟨by omega, by omega, by omega, Or.inr (Or.inr ⟨h, k⟩)⟩
    · have := k.1
      exact ⟨by omega, by omega, by omega, Or.inr (Or.inl ⟨h, k⟩)⟩
  · intro x y h p hp h1 h2 hon
    rcases h with ⟨h, k⟩ | ⟨h, k⟩ | ⟨h, k⟩
    · by_cases e : p = n
      · rw [e] at hon; exact k hon
      · exact m2 x y h p (by omega) h1 h2 hon
    · rw [h] at hon h1
      exact k.2.1 p (by omega) h1 h2 hon
    · rw [h] at hon h2
      exact k.2.1 p (by omega) h2 h1 (oS_sym hon)
  · have nn : ∀ v w, ¬ crs X Y n v n w := fun v w h => by have := h.1; rw [ar_xyx, Int.zero_mul] at this; omega
    intro x y u v h1 h2 hx
    rcases h1 with ⟨h1, _⟩ | ⟨h1, k1⟩ | ⟨h1, k1⟩ <;> rcases h2 with ⟨h2, _⟩ | ⟨h2, k2⟩ | ⟨h2, k2⟩
    · exact m3 x y u v h1 h2 hx
    · rw [h2] at hx; exact k2.2.2 x y h1 (crs_sym hx)
    · rw [h2] at hx; exact k2.2.2 x y h1 (crs_sym (crs_t hx))
    · rw [h1] at hx; exact k1.2.2 u v h2 hx
    · rw [h1, h2] at hx; exact nn _ _ hx
    · rw [h1, h2] at hx; exact nn _ _ (crs_t hx)
    · rw [h1] at hx; exact k1.2.2 u v h2 (crs_s hx)
    · rw [h1, h2] at hx; exact nn _ _ (crs_s hx)
    · rw [h1, h2] at hx; exact nn _ _ (crs_s (crs_t hx))
  · have vn : ∀ y, y < n → clr X Y (n + 1) n y → (∀ c d, insE X Y n E c d → ¬ crs X Y n y c d) → vs X Y n E y := by
      intro y hy hc hno
      refine ⟨hy, fun p hp k1 k2 => hc p (by omega) k1 k2, fun c d hE hx => ?_⟩
      by_cases k : oS X Y c d n
      · have := hx.2; rw [k.1, Int.zero_mul] at this; omega
      · exact hno c d (Or.inl ⟨hE, k⟩) hx
    intro x y hx hy nxy hc hno
    by_cases ex : x = n
    · rw [ex] at hc hno
      exact Or.inr (Or.inl ⟨ex, vn y (by omega) hc hno⟩)
    · by_cases ey : y = n
      · rw [ey] at hc hno
        exact Or.inr (Or.inr ⟨ey, vn x (by omega) (clr_sym hc) fun c d h k => hno c d h (crs_s k)⟩)
      · have non := hc n (by omega) (by omega) (by omega)
        refine Or.inl ⟨m4 x y (by omega) (by omega) nxy (fun p hp => hc p (by omega)) fun c d hE hcr => ?_, non⟩
        by_cases k : oS X Y c d n
        · obtain ⟨hcn, hdn, ncd, hdc⟩ := m1 c d hE
          have v1 : insE X Y n E n c := Or.inr (Or.inl ⟨rfl, vs_end hD hM' hE k⟩)
          have v2 : insE X Y n E n d := Or.inr (Or.inl ⟨rfl, vs_end hD hM' hdc (oS_sym k)⟩)
          have q1 := hD.nq (show c < n + 1 by omega) (show d < n + 1 by omega) ncd
          have q2 := hD.nq (show c < n + 1 by omega) (show n < n + 1 by omega) (by omega)
          have q3 := hD.nq (show d < n + 1 by omega) (show n < n + 1 by omega) (by omega)
          obtain ⟨w1, w2⟩ := oS_ws k q1 q2 q3
          have hs := sq_pos q1
          -- what crosses c d crosses a half of it
          have half : ∀ c d, c < n → d < n → c ≠ d → oS X Y c d n → crs X Y x y c d → (ar X Y x y c) * (ar X Y x y n) < 0 → crs X Y x y n c := by
            intro c d hcn hdn ncd k hcr hlt
            have q1 := hD.nq (show c < n + 1 by omega) (show d < n + 1 by omega) ncd
            have q2 := hD.nq (show c < n + 1 by omega) (show n < n + 1 by omega) (by omega)
            have q3 := hD.nq (show d < n + 1 by omega) (show n < n + 1 by omega) (by omega)
            obtain ⟨w1, w2⟩ := oS_ws k q1 q2 q3
            have hs := sq_pos q1
            have g : ∀ z, sq X Y c d * (ar X Y n c z) = -(wb X Y c d n * (ar X Y c d z)) := by
              intro z
              have g1 : sq X Y c d * (ar X Y z c n) = wa X Y c d n * (ar X Y z c c) + wb X Y c d n * (ar X Y z c d) := w_aff (aff_ar X Y z c) k.1
              rw [ar_yxx X Y z c, Int.mul_zero, Int.zero_add] at g1
              have e1 := ar_o X Y n c z
              have e2 := ar_c X Y z c d
              rw [e1, Int.mul_neg, g1, e2]
            have gx := g x
            have gy := g y
            refine ⟨by rw [Int.mul_comm]; exact hlt, ?_⟩
            rcases neg_cases hcr.2 with ⟨j1, j2⟩ | ⟨j1, j2⟩
            · have := mpp w2 j1
              have := mpn w2 j2
              exact mnp (cneg hs (by omega)) (cpos hs (by omega))
            · have := mpn w2 j1
              have := mpp w2 j2
              exact mpn (cpos hs (by omega)) (cneg hs (by omega))
          have nz : (ar X Y x y n) ≠ 0 := fun z => by
            rcases neg_cases hcr.2 with ⟨j1, j2⟩ | ⟨j1, j2⟩
            · exact non (oS_of (aff_ar X Y d c) z (by show (ar X Y d c x) ≤ (ar X Y d c n); have := ar_s X Y d c x; have := ar_s X Y d c n; have := k.1; omega) (by show (ar X Y d c n) ≤ (ar X Y d c y); have := ar_s X Y d c y; have := ar_s X Y d c n; have := k.1; omega) (by show (ar X Y d c x) < (ar X Y d c y); have := ar_s X Y d c x; have := ar_s X Y d c y; omega))
            · exact non (oS_of (aff_ar X Y c d) z (by show (ar X Y c d x) ≤ (ar X Y c d n); have := k.1; omega) (by show (ar X Y c d n) ≤ (ar X Y c d y); have := k.1; omega) (by show (ar X Y c d x) < (ar X Y c d y); omega))
          by_cases hlt : (ar X Y x y c) * (ar X Y x y n) < 0
          · exact hno n c v1 (half c d hcn hdn ncd k hcr hlt)
          · refine hno n d v2 (half d c hdn hcn (Ne.symm ncd) (oS_sym k) (crs_t hcr) ?_)
            rcases neg_cases hcr.1 with ⟨j1, j2⟩ | ⟨j1, j2⟩
            · rcases Int.lt_or_gt_of_ne nz with h | h
              · exact absurd (mpn j1 h) hlt
              · exact mnp j2 h
            · rcases Int.lt_or_gt_of_ne nz with h | h
              · exact mpn j2 h
              · exact absurd (mnp j1 h) hlt
        · exact hno c d (Or.inl ⟨hE, k⟩) hcr
def inT (X Y : Nat → Int) (a b c p : Nat) : Prop := 0 ≤ (ar X Y a b p) ∧ 0 ≤ (ar X Y b c p) ∧ 0 ≤ (ar X Y c a p)
/-- the triangles of the old points that stay -/
theorem ins_old {X Y : Nat → Int} {n x y z : Nat} {E : Nat → Nat → Prop} (hD : Dst X Y (n + 1)) (hM : Mx X Y n E) (hx : x ≠ n) (hy : y ≠ n) (hz : z ≠ n) : Tr X Y (n + 1) (insE X Y n E) x y z ↔ Tr X Y n E x y z ∧ ¬ inT X Y x y z n := by
  obtain ⟨m1, m2, m3, m4⟩ := hM
  have g : ∀ u v, u ≠ n → v ≠ n → insE X Y n E u v → E u v := fun u v hu hv h => by
    rcases h with ⟨h, _⟩ | ⟨h, _⟩ | ⟨h, _⟩
    · exact h
    · exact absurd h hu
    · exact absurd h hv
  constructor
  · intro ⟨h1, h2, h3, h4, h5⟩
    exact ⟨⟨g x y hx hy h1, g y z hy hz h2, g z x hz hx h3, h4, fun p hp => h5 p (by omega)⟩, h5 n (by omega) (Ne.symm hx) (Ne.symm hy) (Ne.symm hz)⟩
  · intro ⟨⟨h1, h2, h3, h4, h5⟩, h6⟩
    have side : ∀ x y z, E x y → 0 < (ar X Y x y z) → oS X Y x y n → inT X Y x y z n := by
      intro x y z hE hA hon
      obtain ⟨hx, hy, nxy, _⟩ := m1 x y hE
      obtain ⟨w1, w2⟩ := oS_w hon
      have hs := sq_pos (hD.nq (show x < n + 1 by omega) (show y < n + 1 by omega) nxy)
      have g1 : sq X Y x y * (ar X Y y z n) = wa X Y x y n * (ar X Y y z x) + wb X Y x y n * (ar X Y y z y) := w_aff (aff_ar X Y y z) hon.1
      have g2 : sq X Y x y * (ar X Y z x n) = wa X Y x y n * (ar X Y z x x) + wb X Y x y n * (ar X Y z x y) := w_aff (aff_ar X Y z x) hon.1
      rw [ar_xyx X Y y z, Int.mul_zero, Int.add_zero, ← ar_c X Y x y z] at g1
      rw [ar_yxx X Y z x, Int.mul_zero, Int.zero_add, ar_c X Y z x y] at g2
      exact ⟨by rw [hon.1]; omega, cnn hs (by rw [g1]; exact zpp w1 (by omega)), cnn hs (by rw [g2]; exact zpp w2 (by omega))⟩
    have hA2 : 0 < (ar X Y y z x) := by rw [← ar_c X Y x y z]; exact h4
    have hA3 : 0 < (ar X Y z x y) := by rw [ar_c X Y z x y]; exact h4
    refine ⟨Or.inl ⟨h1, fun k => h6 (side x y z h1 h4 k)⟩, Or.inl ⟨h2, fun k => h6 ?_⟩, Or.inl ⟨h3, fun k => h6 ?_⟩, h4, fun p hp n1 n2 n3 k => ?_⟩
    · have := side y z x h2 hA2 k
      exact ⟨this.2.2, this.1, this.2.1⟩
    · have := side z x y h3 hA3 k
      exact ⟨this.2.1, this.2.2, this.1⟩
    · by_cases e : p = n
      · rw [e] at k; exact h6 k
      · exact h5 p (by omega) n1 n2 n3 k
