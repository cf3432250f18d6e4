/-! THROWS, 1: what makes an exception. The words that the library asks of it (Bundle.ownAtoms) hold; mSemP: a run that has written nothing yet, up to its return or its own 'throw new' -/
def mNames : List String := ["java/lang/RuntimeException", "java/lang/Exception"]
def mSt4 : List Cond := [.laysStatic "java/lang/Throwable" "UNASSIGNED_STACK" "[Ljava/lang/StackTraceElement;", .laysStatic "java/lang/Throwable" "SUPPRESSED_SENTINEL" "Ljava/util/List;", .isRef (.static "java/lang/Throwable" "UNASSIGNED_STACK" "[Ljava/lang/StackTraceElement;"), .isRef (.static "java/lang/Throwable" "SUPPRESSED_SENTINEL" "Ljava/util/List;")]
theorem m_st {n0 : Nat} {s : State} (h : mSt n0 s) : ∀ w ∈ mSt4, ∀ A : Array Value, w.before A s = true := by
  obtain ⟨c, k, i, f, a, cell, v, h1, h2, h3, h4, h5, h6, h7, h8, h9, h10, h11, h12⟩ := h ("UNASSIGNED_STACK", "[Ljava/lang/StackTraceElement;") (by simp [mStatT])
  obtain ⟨c', k', i', f', a', cell', v', g1, g2, g3, g4, g5, g6, g7, g8, g9, g10, g11, g12⟩ := h ("SUPPRESSED_SENTINEL", "Ljava/util/List;") (by simp [mStatT])
  intro w hw A
  simp only [mSt4, List.mem_cons, List.not_mem_nil, or_false] at hw
  dsimp only at h2 g2
  rcases hw with rfl | rfl | rfl | rfl
  · simp [Cond.before, Cond.holds, Cond.value, h1, h2, h3, h4, h6, h7, h8, h9, h10]
  · simp [Cond.before, Cond.holds, Cond.value, g1, g2, g3, g4, g6, g7, g8, g9, g10]
  · cases v <;> simp [Value.isRef] at h12 <;> simp [Cond.before, Cond.holds, Cond.value, Term.eval, State.fieldNamed?, h2, h3, h4, h6, h7, h11]
  · cases v' <;> simp [Value.isRef] at g12 <;> simp [Cond.before, Cond.holds, Cond.value, Term.eval, State.fieldNamed?, g2, g3, g4, g6, g7, g11]
theorem zip_mem {α β : Type} {l : List α} {m : List β} (hl : l.length = m.length) {w : α} (hw : w ∈ l) : ∃ o, (w, o) ∈ l.zip m := by
  induction l generalizing m with
  | nil => cases hw
  | cons x t ih =>
    cases m with
    | nil => cases hl
    | cons y u =>
      rcases List.mem_cons.mp hw with rfl | hw
      · exact ⟨y, List.mem_cons_self⟩
      · obtain ⟨o, ho⟩ := ih (by simpa using hl) hw
        exact ⟨o, List.mem_cons_of_mem _ ho⟩
def mAtOK (q : Cond × Option Nat) : Bool := match q.2 with
  | some i => mIs i q.1
  | none => decide (q.1 ∈ mSt4)
theorem mAt_of {l : List Cond} {xi : List (Option Nat)} (hl : l.length = xi.length) (h : (l.zip xi).all mAtOK = true) : ∀ w ∈ l, w ∈ mTbl ∨ w ∈ mSt4 := by
  intro w hw
  obtain ⟨o, ho⟩ := zip_mem hl hw
  have := List.all_eq_true.mp h _ ho
  cases o with
  | none => exact Or.inr (of_decide_eq_true this)
  | some i => exact Or.inl (mIs.mem this)
set_option maxRecDepth 20000 in
theorem mox10 : ∀ w ∈ Bundle.ownAtoms "MeshWalk" 146 "java/lang/IllegalArgumentException" mNames, w ∈ mTbl ∨ w ∈ mSt4 := mAt_of (xi := [some 69, some 393, some 402, some 406, some 409, some 411, some 394, some 395, some 82, some 83, some 396, some 401, some 407, some 427, some 383, some 428, some 385, some 429, some 387, some 397, none, some 399, none, some 389, some 423, some 424, some 426, some 389, some 414, some 415, some 416, some 417, some 375, some 417, some 418, some 419, some 420, some 377, some 420, some 421, some 422, some 423, some 379, some 413, some 372, some 373, some 380, some 381, some 382, some 384, some 386, some 388, none, none, some 392, some 391, some 390]) (by decide +kernel) (by decide +kernel)
theorem mfit10 : Bundle.fit "java/lang/IllegalArgumentException" = true := by decide +kernel
set_option maxRecDepth 20000 in
theorem mox11 : ∀ w ∈ Bundle.ownAtoms "MeshWalk" 62 "java/lang/IllegalStateException" mNames, w ∈ mTbl ∨ w ∈ mSt4 := mAt_of (xi := [some 69, some 393, some 402, some 406, some 409, some 411, some 394, some 395, some 82, some 83, some 396, some 401, some 407, some 427, some 383, some 428, some 385, some 429, some 387, some 397, none, some 399, none, some 389, some 423, some 424, some 426, some 389, some 450, some 451, some 452, some 417, some 375, some 417, some 418, some 419, some 420, some 377, some 420, some 421, some 422, some 423, some 379, some 449, some 440, some 441, some 442, some 404, some 443, some 444, some 445, some 446, none, none, some 392, some 391, some 447]) (by decide +kernel) (by decide +kernel)
theorem mfit11 : Bundle.fit "java/lang/IllegalStateException" = true := by decide +kernel
set_option maxRecDepth 20000 in
theorem mox12 : ∀ w ∈ Bundle.ownAtoms "MeshWalk" 178 "java/lang/IndexOutOfBoundsException" mNames, w ∈ mTbl ∨ w ∈ mSt4 := mAt_of (xi := [some 69, some 393, some 402, some 406, some 409, some 411, some 394, some 395, some 82, some 83, some 396, some 401, some 407, some 427, some 383, some 428, some 385, some 429, some 387, some 397, none, some 399, none, some 389, some 423, some 424, some 426, some 389, some 730, some 731, some 732, some 417, some 375, some 417, some 418, some 419, some 420, some 377, some 420, some 421, some 422, some 423, some 379, some 729, some 720, some 721, some 722, some 405, some 723, some 724, some 725, some 726, none, none, some 392, some 391, some 727]) (by decide +kernel) (by decide +kernel)
theorem mfit12 : Bundle.fit "java/lang/IndexOutOfBoundsException" = true := by decide +kernel
theorem mfitN : ∀ n ∈ mNames, Bundle.fit n = true := by decide +kernel
