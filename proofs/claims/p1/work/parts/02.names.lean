/-! the small machine: its tables, by program (wip/gen/names.py) out of the words of tables_1 -/
def mGood (w : Cond) : Bool := goodWord w || (match w with | .fieldLinkNest .. => true | .methodLinkNest .. => true | .castable .. => true | .declares .. => true | _ => false)
def mTbl : List Cond := lw_tbl.filter mGood
theorem mTbl_of {i : Nat} {w : Cond} (h : lw_tbl[i]? = some w) (g : mGood w = true) : w ∈ mTbl := List.mem_filter.mpr ⟨List.mem_of_getElem? h, g⟩
def mNm : List String := ["MeshWalk$Chain", "MeshWalk$Funnel", "MeshWalk$Grower", "MeshWalk$Links", "MeshWalk$Mesh", "MeshWalk$Plane", "MeshWalk$Walk", "MeshWalk$WideSum", "MeshWalk", "MeshWalkModel", "java/lang/IllegalArgumentException", "java/lang/IllegalStateException", "java/lang/IndexOutOfBoundsException", "MeshWalkLaw", "java/util/Arrays", "java/lang/Math"]
def mNmOf (c : Nat) : String := mNm.getD c ""
def mT0 : u_T := fun k => match k with
  | 0 => ("MeshWalk$Chain", "hand", "I", true)
  | 1 => ("MeshWalk$Chain", "row", "[I", true)
  | 2 => ("MeshWalk$Chain", "head", "I", false)
  | _ => ("MeshWalk$Chain", "tail", "I", false)
def mty0 : Nat → FieldType := fun k => match k with
  | 0 => .int
  | 1 => .array .int
  | 2 => .int
  | _ => .int
def mT1 : u_T := fun k => match k with
  | 0 => ("MeshWalk$Funnel", "plane", "LMeshWalk$Plane;", true)
  | 1 => ("MeshWalk$Funnel", "left", "LMeshWalk$Chain;", true)
  | 2 => ("MeshWalk$Funnel", "right", "LMeshWalk$Chain;", true)
  | 3 => ("MeshWalk$Funnel", "tip", "I", false)
  | 4 => ("MeshWalk$Funnel", "leftEnd", "I", false)
  | 5 => ("MeshWalk$Funnel", "rightEnd", "I", false)
  | 6 => ("MeshWalk$Funnel", "turns", "[I", true)
  | _ => ("MeshWalk$Funnel", "size", "I", false)
def mty1 : Nat → FieldType := fun k => match k with
  | 0 => .object "MeshWalk$Plane"
  | 1 => .object "MeshWalk$Chain"
  | 2 => .object "MeshWalk$Chain"
  | 3 => .int
  | 4 => .int
  | 5 => .int
  | 6 => .array .int
  | _ => .int
def mT2 : u_T := fun k => match k with
  | 0 => ("MeshWalk$Grower", "plane", "LMeshWalk$Plane;", true)
  | 1 => ("MeshWalk$Grower", "mesh", "LMeshWalk$Mesh;", true)
  | 2 => ("MeshWalk$Grower", "lefts", "[I", true)
  | 3 => ("MeshWalk$Grower", "rights", "[I", true)
  | _ => ("MeshWalk$Grower", "crossing", "I", false)
def mty2 : Nat → FieldType := fun k => match k with
  | 0 => .object "MeshWalk$Plane"
  | 1 => .object "MeshWalk$Mesh"
  | 2 => .array .int
  | 3 => .array .int
  | _ => .int
def mT3 : u_T := fun k => match k with
  | 0 => ("MeshWalk$Links", "plane", "LMeshWalk$Plane;", true)
  | 1 => ("MeshWalk$Links", "linked", "[J", true)
  | _ => ("MeshWalk$Links", "size", "I", false)
def mty3 : Nat → FieldType := fun k => match k with
  | 0 => .object "MeshWalk$Plane"
  | 1 => .array .long
  | _ => .int
def mT4 : u_T := fun k => match k with
  | 0 => ("MeshWalk$Mesh", "plane", "LMeshWalk$Plane;", true)
  | 1 => ("MeshWalk$Mesh", "links", "LMeshWalk$Links;", true)
  | 2 => ("MeshWalk$Mesh", "thirds", "[I", true)
  | 3 => ("MeshWalk$Mesh", "numbers", "[I", true)
  | 4 => ("MeshWalk$Mesh", "corners", "[I", true)
  | 5 => ("MeshWalk$Mesh", "size", "I", false)
  | 6 => ("MeshWalk$Mesh", "suspects", "[I", true)
  | 7 => ("MeshWalk$Mesh", "pending", "I", false)
  | _ => ("MeshWalk$Mesh", "suspected", "[J", true)
def mty4 : Nat → FieldType := fun k => match k with
  | 0 => .object "MeshWalk$Plane"
  | 1 => .object "MeshWalk$Links"
  | 2 => .array .int
  | 3 => .array .int
  | 4 => .array .int
  | 5 => .int
  | 6 => .array .int
  | 7 => .int
  | _ => .array .long
def mT5 : u_T := fun k => match k with
  | 0 => ("MeshWalk$Plane", "xs", "[I", true)
  | 1 => ("MeshWalk$Plane", "ys", "[I", true)
  | 2 => ("MeshWalk$Plane", "sum", "LMeshWalk$WideSum;", true)
  | _ => ("MeshWalk$Plane", "size", "I", false)
def mty5 : Nat → FieldType := fun k => match k with
  | 0 => .array .int
  | 1 => .array .int
  | 2 => .object "MeshWalk$WideSum"
  | _ => .int
def mT6 : u_T := fun k => match k with
  | 0 => ("MeshWalk$Walk", "plane", "LMeshWalk$Plane;", true)
  | 1 => ("MeshWalk$Walk", "mesh", "LMeshWalk$Mesh;", true)
  | 2 => ("MeshWalk$Walk", "funnel", "LMeshWalk$Funnel;", true)
  | 3 => ("MeshWalk$Walk", "row", "[I", true)
  | 4 => ("MeshWalk$Walk", "length", "I", false)
  | 5 => ("MeshWalk$Walk", "steps", "[I", true)
  | _ => ("MeshWalk$Walk", "queue", "[I", true)
def mty6 : Nat → FieldType := fun k => match k with
  | 0 => .object "MeshWalk$Plane"
  | 1 => .object "MeshWalk$Mesh"
  | 2 => .object "MeshWalk$Funnel"
  | 3 => .array .int
  | 4 => .int
  | 5 => .array .int
  | _ => .array .int
def mT7 : u_T := fun k => match k with
  | 0 => ("MeshWalk$WideSum", "high", "J", false)
  | 1 => ("MeshWalk$WideSum", "middle", "J", false)
  | _ => ("MeshWalk$WideSum", "low", "J", false)
def mty7 : Nat → FieldType := fun k => match k with
  | 0 => .long
  | 1 => .long
  | _ => .long
def mT8 : u_T := fun k => match k with
  | 0 => ("MeshWalk", "plane", "LMeshWalk$Plane;", true)
  | 1 => ("MeshWalk", "links", "LMeshWalk$Links;", true)
  | 2 => ("MeshWalk", "mesh", "LMeshWalk$Mesh;", true)
  | 3 => ("MeshWalk", "grower", "LMeshWalk$Grower;", true)
  | _ => ("MeshWalk", "walk", "LMeshWalk$Walk;", true)
def mty8 : Nat → FieldType := fun k => match k with
  | 0 => .object "MeshWalk$Plane"
  | 1 => .object "MeshWalk$Links"
  | 2 => .object "MeshWalk$Mesh"
  | 3 => .object "MeshWalk$Grower"
  | _ => .object "MeshWalk$Walk"
def mT9 : u_T := fun k => match k with
  | 0 => ("MeshWalkModel", "refusal", "I", false)
  | 1 => ("MeshWalkModel", "points", "I", false)
  | 2 => ("MeshWalkModel", "xs", "[J", true)
  | 3 => ("MeshWalkModel", "ys", "[J", true)
  | 4 => ("MeshWalkModel", "links", "[Z", true)
  | 5 => ("MeshWalkModel", "edges", "[Z", true)
  | 6 => ("MeshWalkModel", "isCurrent", "Z", false)
  | 7 => ("MeshWalkModel", "triangles", "I", false)
  | 8 => ("MeshWalkModel", "corners", "[I", true)
  | 9 => ("MeshWalkModel", "rowSize", "I", false)
  | 10 => ("MeshWalkModel", "row", "[I", true)
  | 11 => ("MeshWalkModel", "turns", "I", false)
  | 12 => ("MeshWalkModel", "turned", "[I", true)
  | 13 => ("MeshWalkModel", "distances", "[I", true)
  | 14 => ("MeshWalkModel", "lefts", "[I", true)
  | 15 => ("MeshWalkModel", "rights", "[I", true)
  | 16 => ("MeshWalkModel", "high", "J", false)
  | _ => ("MeshWalkModel", "low", "J", false)
def mty9 : Nat → FieldType := fun k => match k with
  | 0 => .int
  | 1 => .int
  | 2 => .array .long
  | 3 => .array .long
  | 4 => .array .boolean
  | 5 => .array .boolean
  | 6 => .boolean
  | 7 => .int
  | 8 => .array .int
  | 9 => .int
  | 10 => .array .int
  | 11 => .int
  | 12 => .array .int
  | 13 => .array .int
  | 14 => .array .int
  | 15 => .array .int
  | 16 => .long
  | _ => .long
def mT10 : u_T := fun _ => ("", "", "", false)
def mty10 : Nat → FieldType := fun _ => .int
def mcl : List vw_C := [("MeshWalk$Chain", mT0, 4), ("MeshWalk$Funnel", mT1, 8), ("MeshWalk$Grower", mT2, 5), ("MeshWalk$Links", mT3, 3), ("MeshWalk$Mesh", mT4, 9), ("MeshWalk$Plane", mT5, 4), ("MeshWalk$Walk", mT6, 7), ("MeshWalk$WideSum", mT7, 3), ("MeshWalk", mT8, 5), ("MeshWalkModel", mT9, 18), ("java/lang/IllegalArgumentException", mT10, 0), ("java/lang/IllegalStateException", mT10, 0), ("java/lang/IndexOutOfBoundsException", mT10, 0)]
def mty (c : Nat) : Nat → FieldType := match c with
  | 0 => mty0
  | 1 => mty1
  | 2 => mty2
  | 3 => mty3
  | 4 => mty4
  | 5 => mty5
  | 6 => mty6
  | 7 => mty7
  | 8 => mty8
  | 9 => mty9
  | _ => mty10
set_option maxRecDepth 20000 in
theorem mlay0 : ∀ w ∈ u_ws "MeshWalk$Chain" mT0 4, w ∈ mTbl := by
  have h : (u_ws "MeshWalk$Chain" mT0 4) = [219, 221, 223, 225].filterMap (fun i => lw_tbl[i]?) := by decide +kernel
  have g : (u_ws "MeshWalk$Chain" mT0 4).all mGood = true := by decide +kernel
  intro w hw
  refine List.mem_filter.mpr ⟨?_, List.all_eq_true.mp g w hw⟩
  rw [h] at hw
  obtain ⟨i, -, hi⟩ := List.mem_filterMap.mp hw
  exact List.mem_of_getElem? hi
theorem mnm0 : ∀ a, a < 4 → ∀ b, b < 4 → a ≠ b → (mT0 a).2.1 ≠ (mT0 b).2.1 := by decide +kernel
theorem mtyok0 : ∀ k, k < 4 → parseFieldDescriptor (mT0 k).2.2.1 = some (mty0 k) := by decide +kernel
set_option maxRecDepth 20000 in
theorem mlay1 : ∀ w ∈ u_ws "MeshWalk$Funnel" mT1 8, w ∈ mTbl := by
  have h : (u_ws "MeshWalk$Funnel" mT1 8) = [236, 238, 240, 242, 244, 246, 248, 250].filterMap (fun i => lw_tbl[i]?) := by decide +kernel
  have g : (u_ws "MeshWalk$Funnel" mT1 8).all mGood = true := by decide +kernel
  intro w hw
  refine List.mem_filter.mpr ⟨?_, List.all_eq_true.mp g w hw⟩
  rw [h] at hw
  obtain ⟨i, -, hi⟩ := List.mem_filterMap.mp hw
  exact List.mem_of_getElem? hi
theorem mnm1 : ∀ a, a < 8 → ∀ b, b < 8 → a ≠ b → (mT1 a).2.1 ≠ (mT1 b).2.1 := by decide +kernel
theorem mtyok1 : ∀ k, k < 8 → parseFieldDescriptor (mT1 k).2.2.1 = some (mty1 k) := by decide +kernel
set_option maxRecDepth 20000 in
theorem mlay2 : ∀ w ∈ u_ws "MeshWalk$Grower" mT2 5, w ∈ mTbl := by
  have h : (u_ws "MeshWalk$Grower" mT2 5) = [185, 187, 189, 191, 193].filterMap (fun i => lw_tbl[i]?) := by decide +kernel
  have g : (u_ws "MeshWalk$Grower" mT2 5).all mGood = true := by decide +kernel
  intro w hw
  refine List.mem_filter.mpr ⟨?_, List.all_eq_true.mp g w hw⟩
  rw [h] at hw
  obtain ⟨i, -, hi⟩ := List.mem_filterMap.mp hw
  exact List.mem_of_getElem? hi
theorem mnm2 : ∀ a, a < 5 → ∀ b, b < 5 → a ≠ b → (mT2 a).2.1 ≠ (mT2 b).2.1 := by decide +kernel
theorem mtyok2 : ∀ k, k < 5 → parseFieldDescriptor (mT2 k).2.2.1 = some (mty2 k) := by decide +kernel
set_option maxRecDepth 20000 in
theorem mlay3 : ∀ w ∈ u_ws "MeshWalk$Links" mT3 3, w ∈ mTbl := by
  have h : (u_ws "MeshWalk$Links" mT3 3) = [129, 131, 133].filterMap (fun i => lw_tbl[i]?) := by decide +kernel
  have g : (u_ws "MeshWalk$Links" mT3 3).all mGood = true := by decide +kernel
  intro w hw
  refine List.mem_filter.mpr ⟨?_, List.all_eq_true.mp g w hw⟩
  rw [h] at hw
  obtain ⟨i, -, hi⟩ := List.mem_filterMap.mp hw
  exact List.mem_of_getElem? hi
theorem mnm3 : ∀ a, a < 3 → ∀ b, b < 3 → a ≠ b → (mT3 a).2.1 ≠ (mT3 b).2.1 := by decide +kernel
theorem mtyok3 : ∀ k, k < 3 → parseFieldDescriptor (mT3 k).2.2.1 = some (mty3 k) := by decide +kernel
set_option maxRecDepth 20000 in
theorem mlay4 : ∀ w ∈ u_ws "MeshWalk$Mesh" mT4 9, w ∈ mTbl := by
  have h : (u_ws "MeshWalk$Mesh" mT4 9) = [155, 157, 159, 161, 163, 165, 167, 169, 171].filterMap (fun i => lw_tbl[i]?) := by decide +kernel
  have g : (u_ws "MeshWalk$Mesh" mT4 9).all mGood = true := by decide +kernel
  intro w hw
  refine List.mem_filter.mpr ⟨?_, List.all_eq_true.mp g w hw⟩
  rw [h] at hw
  obtain ⟨i, -, hi⟩ := List.mem_filterMap.mp hw
  exact List.mem_of_getElem? hi
theorem mnm4 : ∀ a, a < 9 → ∀ b, b < 9 → a ≠ b → (mT4 a).2.1 ≠ (mT4 b).2.1 := by decide +kernel
theorem mtyok4 : ∀ k, k < 9 → parseFieldDescriptor (mT4 k).2.2.1 = some (mty4 k) := by decide +kernel
set_option maxRecDepth 20000 in
theorem mlay5 : ∀ w ∈ u_ws "MeshWalk$Plane" mT5 4, w ∈ mTbl := by
  have h : (u_ws "MeshWalk$Plane" mT5 4) = [111, 113, 115, 117].filterMap (fun i => lw_tbl[i]?) := by decide +kernel
  have g : (u_ws "MeshWalk$Plane" mT5 4).all mGood = true := by decide +kernel
  intro w hw
  refine List.mem_filter.mpr ⟨?_, List.all_eq_true.mp g w hw⟩
  rw [h] at hw
  obtain ⟨i, -, hi⟩ := List.mem_filterMap.mp hw
  exact List.mem_of_getElem? hi
theorem mnm5 : ∀ a, a < 4 → ∀ b, b < 4 → a ≠ b → (mT5 a).2.1 ≠ (mT5 b).2.1 := by decide +kernel
theorem mtyok5 : ∀ k, k < 4 → parseFieldDescriptor (mT5 k).2.2.1 = some (mty5 k) := by decide +kernel
set_option maxRecDepth 20000 in
theorem mlay6 : ∀ w ∈ u_ws "MeshWalk$Walk" mT6 7, w ∈ mTbl := by
  have h : (u_ws "MeshWalk$Walk" mT6 7) = [260, 262, 264, 266, 268, 270, 272].filterMap (fun i => lw_tbl[i]?) := by decide +kernel
  have g : (u_ws "MeshWalk$Walk" mT6 7).all mGood = true := by decide +kernel
  intro w hw
  refine List.mem_filter.mpr ⟨?_, List.all_eq_true.mp g w hw⟩
  rw [h] at hw
  obtain ⟨i, -, hi⟩ := List.mem_filterMap.mp hw
  exact List.mem_of_getElem? hi
theorem mnm6 : ∀ a, a < 7 → ∀ b, b < 7 → a ≠ b → (mT6 a).2.1 ≠ (mT6 b).2.1 := by decide +kernel
theorem mtyok6 : ∀ k, k < 7 → parseFieldDescriptor (mT6 k).2.2.1 = some (mty6 k) := by decide +kernel
set_option maxRecDepth 20000 in
theorem mlay7 : ∀ w ∈ u_ws "MeshWalk$WideSum" mT7 3, w ∈ mTbl := by
  have h : (u_ws "MeshWalk$WideSum" mT7 3) = [99, 101, 103].filterMap (fun i => lw_tbl[i]?) := by decide +kernel
  have g : (u_ws "MeshWalk$WideSum" mT7 3).all mGood = true := by decide +kernel
  intro w hw
  refine List.mem_filter.mpr ⟨?_, List.all_eq_true.mp g w hw⟩
  rw [h] at hw
  obtain ⟨i, -, hi⟩ := List.mem_filterMap.mp hw
  exact List.mem_of_getElem? hi
theorem mnm7 : ∀ a, a < 3 → ∀ b, b < 3 → a ≠ b → (mT7 a).2.1 ≠ (mT7 b).2.1 := by decide +kernel
theorem mtyok7 : ∀ k, k < 3 → parseFieldDescriptor (mT7 k).2.2.1 = some (mty7 k) := by decide +kernel
set_option maxRecDepth 20000 in
theorem mlay8 : ∀ w ∈ u_ws "MeshWalk" mT8 5, w ∈ mTbl := by
  have h : (u_ws "MeshWalk" mT8 5) = [280, 282, 284, 286, 288].filterMap (fun i => lw_tbl[i]?) := by decide +kernel
  have g : (u_ws "MeshWalk" mT8 5).all mGood = true := by decide +kernel
  intro w hw
  refine List.mem_filter.mpr ⟨?_, List.all_eq_true.mp g w hw⟩
  rw [h] at hw
  obtain ⟨i, -, hi⟩ := List.mem_filterMap.mp hw
  exact List.mem_of_getElem? hi
theorem mnm8 : ∀ a, a < 5 → ∀ b, b < 5 → a ≠ b → (mT8 a).2.1 ≠ (mT8 b).2.1 := by decide +kernel
theorem mtyok8 : ∀ k, k < 5 → parseFieldDescriptor (mT8 k).2.2.1 = some (mty8 k) := by decide +kernel
set_option maxRecDepth 20000 in
theorem mlay9 : ∀ w ∈ u_ws "MeshWalkModel" mT9 18, w ∈ mTbl := by
  have h : (u_ws "MeshWalkModel" mT9 18) = [910, 912, 914, 916, 918, 920, 922, 924, 926, 928, 930, 932, 934, 936, 938, 940, 942, 944].filterMap (fun i => lw_tbl[i]?) := by decide +kernel
  have g : (u_ws "MeshWalkModel" mT9 18).all mGood = true := by decide +kernel
  intro w hw
  refine List.mem_filter.mpr ⟨?_, List.all_eq_true.mp g w hw⟩
  rw [h] at hw
  obtain ⟨i, -, hi⟩ := List.mem_filterMap.mp hw
  exact List.mem_of_getElem? hi
theorem mnm9 : ∀ a, a < 18 → ∀ b, b < 18 → a ≠ b → (mT9 a).2.1 ≠ (mT9 b).2.1 := by decide +kernel
theorem mtyok9 : ∀ k, k < 18 → parseFieldDescriptor (mT9 k).2.2.1 = some (mty9 k) := by decide +kernel
def mTab : List (MethodName × ByteArray × Nat × Option FieldType × Nat × Nat × Nat × Nat) := [
  (⟨"MeshWalk$Chain", "<init>", "(I)V"⟩, prog_2_method_1_code, 2, none, 0, 1, 1, 20),
  (⟨"MeshWalk$Chain", "reset", "()V"⟩, prog_2_method_2_code, 1, none, 0, 0, 0, 0),
  (⟨"MeshWalk$Chain", "size", "()I"⟩, prog_2_method_3_code, 1, (some .int), 0, 0, 0, 0),
  (⟨"MeshWalk$Chain", "lastButOne", "(I)I"⟩, prog_2_method_6_code, 2, (some .int), 0, 1, 0, 0),
  (⟨"MeshWalk$Chain", "last", "()I"⟩, prog_2_method_5_code, 1, (some .int), 0, 0, 0, 0),
  (⟨"MeshWalk$Chain", "dropLast", "()V"⟩, prog_2_method_9_code, 1, none, 0, 0, 0, 0),
  (⟨"MeshWalk$Chain", "first", "()I"⟩, prog_2_method_4_code, 1, (some .int), 0, 0, 0, 0),
  (⟨"MeshWalk$Chain", "dropFirst", "()V"⟩, prog_2_method_8_code, 1, none, 0, 0, 0, 0),
  (⟨"MeshWalk$Chain", "push", "(I)V"⟩, prog_2_method_7_code, 2, none, 0, 1, 0, 0),
  (⟨"MeshWalk$Funnel", "<init>", "(LMeshWalk$Plane;)V"⟩, prog_3_method_1_code, 2, none, 1, 1, 2, 41),
  (⟨"MeshWalk$Funnel", "turnAt", "(I)I"⟩, prog_3_method_3_code, 2, (some .int), 1, 1, 0, 0),
  (⟨"MeshWalk$Funnel", "open", "(I)V"⟩, prog_3_method_4_code, 2, none, 1, 1, 1, 20),
  (⟨"MeshWalk$Funnel", "pass", "(II)V"⟩, prog_3_method_5_code, 3, none, 1, 2, 3, 77),
  (⟨"MeshWalk$Funnel", "extend", "(LMeshWalk$Chain;LMeshWalk$Chain;I)V"⟩, prog_3_method_7_code, 5, none, 1, 3, 2, 53),
  (⟨"MeshWalk$Funnel", "bendsOutward", "(LMeshWalk$Chain;I)Z"⟩, prog_3_method_8_code, 3, (some .boolean), 1, 2, 1, 31),
  (⟨"MeshWalk$Funnel", "isBeyond", "(LMeshWalk$Chain;I)Z"⟩, prog_3_method_9_code, 3, (some .boolean), 1, 2, 1, 31),
  (⟨"MeshWalk$Funnel", "keepTurn", "(I)V"⟩, prog_3_method_10_code, 2, none, 1, 1, 0, 0),
  (⟨"MeshWalk$Funnel", "close", "(I)V"⟩, prog_3_method_6_code, 3, none, 1, 1, 3, 77),
  (⟨"MeshWalk$Funnel", "size", "()I"⟩, prog_3_method_2_code, 1, (some .int), 1, 0, 0, 0),
  (⟨"MeshWalk$Grower", "<init>", "(LMeshWalk$Plane;LMeshWalk$Mesh;)V"⟩, prog_4_method_1_code, 3, none, 2, 2, 1, 20),
  (⟨"MeshWalk$Grower", "takeIn", "(I)V"⟩, prog_4_method_2_code, 3, none, 2, 1, 5, 117),
  (⟨"MeshWalk$Grower", "begin", "(I)V"⟩, prog_4_method_3_code, 4, none, 2, 1, 3, 77),
  (⟨"MeshWalk$Grower", "nextOnLine", "(II)I"⟩, prog_4_method_4_code, 5, (some .int), 2, 2, 1, 22),
  (⟨"MeshWalk$Grower", "putLeftRound", "(III)V"⟩, prog_4_method_5_code, 4, none, 2, 3, 2, 54),
  (⟨"MeshWalk$Grower", "reachOut", "(I)V"⟩, prog_4_method_6_code, 6, none, 2, 1, 2, 54),
  (⟨"MeshWalk$Grower", "split", "(II)V"⟩, prog_4_method_7_code, 6, none, 2, 2, 4, 92),
  (⟨"MeshWalk$Grower", "join", "(III)V"⟩, prog_4_method_8_code, 4, none, 2, 3, 3, 69),
  (⟨"MeshWalk$Grower", "splitBeyond", "(III)V"⟩, prog_4_method_9_code, 5, none, 2, 3, 2, 45),
  (⟨"MeshWalk$Grower", "force", "(II)V"⟩, prog_4_method_10_code, 4, none, 2, 2, 5, 117),
  (⟨"MeshWalk$Grower", "listCrossing", "(II)V"⟩, prog_4_method_11_code, 6, none, 2, 2, 3, 78),
  (⟨"MeshWalk$Grower", "firstRight", "(II)I"⟩, prog_4_method_12_code, 5, (some .int), 2, 2, 2, 54),
  (⟨"MeshWalk$Grower", "flipAtPeak", "(II)V"⟩, prog_4_method_13_code, 7, none, 2, 2, 3, 78),
  (⟨"MeshWalk$Grower", "peakOf", "(II)I"⟩, prog_4_method_14_code, 9, (some .int), 2, 2, 1, 31),
  (⟨"MeshWalk$Grower", "canFlip", "(II)Z"⟩, prog_4_method_15_code, 5, (some .boolean), 2, 2, 2, 54),
  (⟨"MeshWalk$Grower", "free", "(II)V"⟩, prog_4_method_16_code, 3, none, 2, 2, 5, 117),
  (⟨"MeshWalk$Links", "<init>", "(LMeshWalk$Plane;)V"⟩, prog_5_method_1_code, 2, none, 3, 1, 1, 20),
  (⟨"MeshWalk$Links", "reset", "()V"⟩, prog_5_method_6_code, 1, none, 3, 0, 1, 24),
  (⟨"MeshWalk$Links", "size", "()I"⟩, prog_5_method_2_code, 1, (some .int), 3, 0, 0, 0),
  (⟨"MeshWalk$Links", "reach", "(I)Z"⟩, prog_5_method_7_code, 4, (some .boolean), 3, 1, 2, 54),
  (⟨"MeshWalk$Links", "has", "(II)Z"⟩, prog_5_method_3_code, 3, (some .boolean), 3, 2, 0, 0),
  (⟨"MeshWalk$Links", "cross", "(II)Z"⟩, prog_5_method_8_code, 5, (some .boolean), 3, 2, 3, 78),
  (⟨"MeshWalk$Links", "doCross", "(IIII)Z"⟩, prog_5_method_9_code, 5, (some .boolean), 3, 4, 2, 54),
  (⟨"MeshWalk$Links", "set", "(II)V"⟩, prog_5_method_4_code, 3, none, 3, 2, 0, 0),
  (⟨"MeshWalk$Links", "drop", "(II)V"⟩, prog_5_method_5_code, 3, none, 3, 2, 0, 0),
  (⟨"MeshWalk$Mesh", "<init>", "(LMeshWalk$Plane;LMeshWalk$Links;)V"⟩, prog_6_method_1_code, 3, none, 4, 2, 1, 23),
  (⟨"MeshWalk$Mesh", "reset", "()V"⟩, prog_6_method_2_code, 1, none, 4, 0, 1, 23),
  (⟨"MeshWalk$Mesh", "size", "()I"⟩, prog_6_method_3_code, 1, (some .int), 4, 0, 0, 0),
  (⟨"MeshWalk$Mesh", "edges", "()I"⟩, prog_6_method_4_code, 1, (some .int), 4, 0, 1, 20),
  (⟨"MeshWalk$Mesh", "hullEdges", "()I"⟩, prog_6_method_5_code, 1, (some .int), 4, 0, 2, 40),
  (⟨"MeshWalk$Mesh", "put", "(III)V"⟩, prog_6_method_14_code, 4, none, 4, 3, 1, 21),
  (⟨"MeshWalk$Mesh", "holding", "(I)I"⟩, prog_6_method_12_code, 3, (some .int), 4, 1, 2, 54),
  (⟨"MeshWalk$Mesh", "holds", "(II)Z"⟩, prog_6_method_13_code, 4, (some .boolean), 4, 2, 1, 31),
  (⟨"MeshWalk$Mesh", "cornerOf", "(II)I"⟩, prog_6_method_6_code, 3, (some .int), 4, 2, 0, 0),
  (⟨"MeshWalk$Mesh", "nextCorner", "(II)I"⟩, prog_6_method_7_code, 3, (some .int), 4, 2, 0, 0),
  (⟨"MeshWalk$Mesh", "thirdOf", "(II)I"⟩, prog_6_method_8_code, 3, (some .int), 4, 2, 1, 21),
  (⟨"MeshWalk$Mesh", "suspect", "(II)V"⟩, prog_6_method_17_code, 5, none, 4, 2, 1, 21),
  (⟨"MeshWalk$Mesh", "take", "(III)V"⟩, prog_6_method_15_code, 4, none, 4, 3, 1, 21),
  (⟨"MeshWalk$Mesh", "settle", "()V"⟩, prog_6_method_18_code, 4, none, 4, 0, 4, 94),
  (⟨"MeshWalk$Mesh", "isGood", "(II)Z"⟩, prog_6_method_19_code, 6, (some .boolean), 4, 2, 3, 69),
  (⟨"MeshWalk$Mesh", "flip", "(II)V"⟩, prog_6_method_16_code, 5, none, 4, 2, 2, 45),
  (⟨"MeshWalk$Mesh", "giveNumbers", "()V"⟩, prog_6_method_20_code, 3, none, 4, 0, 2, 44),
  (⟨"MeshWalk$Mesh", "giveNextNumber", "(III)V"⟩, prog_6_method_21_code, 4, none, 4, 3, 1, 21),
  (⟨"MeshWalk$Mesh", "hasEdge", "(II)Z"⟩, prog_6_method_9_code, 3, (some .boolean), 4, 2, 2, 43),
  (⟨"MeshWalk$Mesh", "beyond", "(II)I"⟩, prog_6_method_10_code, 5, (some .int), 4, 2, 2, 43),
  (⟨"MeshWalk$Mesh", "openBeyond", "(II)I"⟩, prog_6_method_11_code, 4, (some .int), 4, 2, 3, 67),
  (⟨"MeshWalk$Plane", "<init>", "()V"⟩, prog_7_method_1_code, 1, none, 5, 0, 2, 40),
  (⟨"MeshWalk$Plane", "size", "()I"⟩, prog_7_method_2_code, 1, (some .int), 5, 0, 0, 0),
  (⟨"MeshWalk$Plane", "reset", "()V"⟩, prog_7_method_3_code, 1, none, 5, 0, 0, 0),
  (⟨"MeshWalk$Plane", "put", "(III)V"⟩, prog_7_method_4_code, 4, none, 5, 3, 0, 0),
  (⟨"MeshWalk$Plane", "pointAt", "(I)I"⟩, prog_7_method_6_code, 3, (some .int), 5, 1, 0, 0),
  (⟨"MeshWalk$Plane", "isOn", "(III)Z"⟩, prog_7_method_11_code, 4, (some .boolean), 5, 3, 1, 31),
  (⟨"MeshWalk$Plane", "areaOf", "(III)J"⟩, prog_7_method_7_code, 12, (some .long), 5, 3, 0, 0),
  (⟨"MeshWalk$Plane", "keep", "()V"⟩, prog_7_method_5_code, 1, none, 5, 0, 0, 0),
  (⟨"MeshWalk$Plane", "sideOf", "(III)I"⟩, prog_7_method_8_code, 4, (some .int), 5, 3, 1, 31),
  (⟨"MeshWalk$Plane", "isBefore", "(II)Z"⟩, prog_7_method_13_code, 3, (some .boolean), 5, 2, 0, 0),
  (⟨"MeshWalk$Plane", "insideOf", "(IIII)I"⟩, prog_7_method_9_code, 5, (some .int), 5, 4, 2, 45),
  (⟨"MeshWalk$Plane", "squareOf", "(II)J"⟩, prog_7_method_10_code, 7, (some .long), 5, 2, 0, 0),
  (⟨"MeshWalk$Plane", "isCovered", "(II)Z"⟩, prog_7_method_12_code, 4, (some .boolean), 5, 2, 2, 54),
  (⟨"MeshWalk$Walk", "<init>", "(LMeshWalk$Plane;LMeshWalk$Mesh;)V"⟩, prog_8_method_1_code, 3, none, 6, 2, 3, 62),
  (⟨"MeshWalk$Walk", "turnAt", "(I)I"⟩, prog_8_method_3_code, 2, (some .int), 6, 1, 1, 21),
  (⟨"MeshWalk$Walk", "triangleAt", "(I)I"⟩, prog_8_method_2_code, 2, (some .int), 6, 1, 0, 0),
  (⟨"MeshWalk$Walk", "findRow", "(II)Z"⟩, prog_8_method_4_code, 4, (some .boolean), 6, 2, 5, 116),
  (⟨"MeshWalk$Walk", "countSteps", "(I)V"⟩, prog_8_method_5_code, 7, none, 6, 1, 4, 90),
  (⟨"MeshWalk$Walk", "nextAfter", "(I)I"⟩, prog_8_method_6_code, 6, (some .int), 6, 1, 4, 90),
  (⟨"MeshWalk$Walk", "pullTight", "()I"⟩, prog_8_method_7_code, 2, (some .int), 6, 0, 5, 122),
  (⟨"MeshWalk$Walk", "pointOr", "(I)I"⟩, prog_8_method_8_code, 3, (some .int), 6, 1, 1, 22),
  (⟨"MeshWalk$Walk", "passGate", "(II)V"⟩, prog_8_method_9_code, 4, none, 6, 2, 4, 99),
  (⟨"MeshWalk$WideSum", "<init>", "()V"⟩, prog_9_method_1_code, 1, none, 7, 0, 1, 20),
  (⟨"MeshWalk$WideSum", "reset", "()V"⟩, prog_9_method_2_code, 1, none, 7, 0, 0, 0),
  (⟨"MeshWalk$WideSum", "plusProduct", "(JJ)V"⟩, prog_9_method_3_code, 17, none, 7, 2, 0, 0),
  (⟨"MeshWalk$WideSum", "sign", "()I"⟩, prog_9_method_4_code, 5, (some .int), 7, 0, 1, 21),
  (⟨"MeshWalk", "<init>", "()V"⟩, prog_1_method_1_code, 4, none, 8, 0, 4, 84),
  (⟨"MeshWalk", "clear", "()I"⟩, prog_1_method_5_code, 2, (some .int), 8, 0, 2, 44),
  (⟨"MeshWalk", "count", "(I)I"⟩, prog_1_method_6_code, 2, (some .int), 8, 1, 3, 60),
  (⟨"MeshWalk", "turn", "(I)I"⟩, prog_1_method_14_code, 2, (some .int), 8, 1, 2, 42),
  (⟨"MeshWalk", "sleeve", "(I)I"⟩, prog_1_method_15_code, 2, (some .int), 8, 1, 1, 21),
  (⟨"MeshWalk", "add", "(II)I"⟩, prog_1_method_2_code, 4, (some .int), 8, 2, 9, 182),
  (⟨"MeshWalk", "needPlace", "(II)V"⟩, prog_1_method_16_code, 3, none, 8, 2, 8, 160),
  (⟨"MeshWalk", "signOf", "(J)I"⟩, prog_1_method_21_code, 2, (some .int), 8, 1, 0, 0),
  (⟨"MeshWalk", "pair", "(II)I"⟩, prog_1_method_20_code, 2, (some .int), 8, 2, 0, 0),
  (⟨"MeshWalk", "link", "(II)Z"⟩, prog_1_method_3_code, 3, (some .boolean), 8, 2, 10, 203),
  (⟨"MeshWalk", "needPair", "(II)V"⟩, prog_1_method_18_code, 3, none, 8, 2, 9, 181),
  (⟨"MeshWalk", "needPoint", "(I)V"⟩, prog_1_method_17_code, 2, none, 8, 1, 8, 160),
  (⟨"MeshWalk", "unlink", "(II)Z"⟩, prog_1_method_4_code, 3, (some .boolean), 8, 2, 10, 203),
  (⟨"MeshWalk", "corner", "(II)I"⟩, prog_1_method_7_code, 3, (some .int), 8, 2, 9, 182),
  (⟨"MeshWalk", "needCorner", "(II)V"⟩, prog_1_method_19_code, 3, none, 8, 2, 8, 160),
  (⟨"MeshWalk", "across", "(II)I"⟩, prog_1_method_8_code, 3, (some .int), 8, 2, 9, 182),
  (⟨"MeshWalk", "edge", "(II)I"⟩, prog_1_method_9_code, 3, (some .int), 8, 2, 10, 203),
  (⟨"MeshWalk", "side", "(III)I"⟩, prog_1_method_10_code, 4, (some .int), 8, 3, 9, 181),
  (⟨"MeshWalk", "circle", "(IIII)I"⟩, prog_1_method_11_code, 6, (some .int), 8, 4, 9, 181),
  (⟨"MeshWalk", "locate", "(II)I"⟩, prog_1_method_12_code, 3, (some .int), 8, 2, 9, 182),
  (⟨"MeshWalk", "way", "(IIII)I"⟩, prog_1_method_13_code, 7, (some .int), 8, 4, 9, 182),
  (⟨"MeshWalkModel", "<init>", "()V"⟩, prog_11_method_1_code, 1, none, 9, 0, 1, 20),
  (⟨"MeshWalkModel", "thrown", "()I"⟩, prog_11_method_2_code, 1, (some .int), 9, 0, 0, 0),
  (⟨"MeshWalkModel", "add", "(II)I"⟩, prog_11_method_12_code, 6, (some .int), 9, 2, 2, 50),
  (⟨"MeshWalkModel", "isPlace", "(II)Z"⟩, prog_11_method_5_code, 2, (some .boolean), 9, 2, 1, 22),
  (⟨"MeshWalkModel", "isIn", "(III)Z"⟩, prog_11_method_4_code, 3, (some .boolean), 9, 3, 0, 0),
  (⟨"MeshWalkModel", "refused", "(I)Z"⟩, prog_11_method_3_code, 2, (some .boolean), 9, 1, 0, 0),
  (⟨"MeshWalkModel", "isOn", "(III)Z"⟩, prog_11_method_10_code, 6, (some .boolean), 9, 3, 1, 25),
  (⟨"MeshWalkModel", "sideOf", "(III)I"⟩, prog_11_method_7_code, 6, (some .int), 9, 3, 0, 0),
  (⟨"MeshWalkModel", "link", "(II)Z"⟩, prog_11_method_15_code, 3, (some .boolean), 9, 2, 3, 75),
  (⟨"MeshWalkModel", "isPair", "(II)Z"⟩, prog_11_method_13_code, 3, (some .boolean), 9, 2, 2, 43),
  (⟨"MeshWalkModel", "isPoint", "(I)Z"⟩, prog_11_method_6_code, 2, (some .boolean), 9, 1, 1, 22),
  (⟨"MeshWalkModel", "fits", "(II[Z)Z"⟩, prog_11_method_14_code, 6, (some .boolean), 9, 3, 2, 50),
  (⟨"MeshWalkModel", "cross", "(IIII)Z"⟩, prog_11_method_11_code, 5, (some .boolean), 9, 4, 1, 25),
  (⟨"MeshWalkModel", "unlink", "(II)Z"⟩, prog_11_method_16_code, 4, (some .boolean), 9, 2, 3, 65),
  (⟨"MeshWalkModel", "clear", "()I"⟩, prog_11_method_17_code, 3, (some .int), 9, 0, 0, 0),
  (⟨"MeshWalkModel", "count", "(I)I"⟩, prog_11_method_27_code, 7, (some .int), 9, 1, 6, 147),
  (⟨"MeshWalkModel", "mesh", "()V"⟩, prog_11_method_25_code, 5, none, 9, 0, 5, 123),
  (⟨"MeshWalkModel", "isFlat", "()Z"⟩, prog_11_method_22_code, 3, (some .boolean), 9, 0, 1, 25),
  (⟨"MeshWalkModel", "mark", "(IIZ)V"⟩, prog_11_method_18_code, 4, none, 9, 3, 0, 0),
  (⟨"MeshWalkModel", "turn", "(II)Z"⟩, prog_11_method_24_code, 7, (some .boolean), 9, 2, 4, 97),
  (⟨"MeshWalkModel", "apex", "(II)I"⟩, prog_11_method_21_code, 5, (some .int), 9, 2, 3, 73),
  (⟨"MeshWalkModel", "isTriangle", "(III)Z"⟩, prog_11_method_20_code, 4, (some .boolean), 9, 3, 2, 50),
  (⟨"MeshWalkModel", "isEmpty", "(III)Z"⟩, prog_11_method_19_code, 6, (some .boolean), 9, 3, 1, 25),
  (⟨"MeshWalkModel", "inCircle", "(IIII)I"⟩, prog_11_method_9_code, 17, (some .int), 9, 4, 1, 34),
  (⟨"MeshWalkModel", "addProduct", "(JJ)V"⟩, prog_11_method_8_code, 15, none, 9, 2, 0, 0),
  (⟨"MeshWalkModel", "least", "(II)I"⟩, prog_11_method_23_code, 2, (some .int), 9, 2, 0, 0),
  (⟨"MeshWalkModel", "with", "(II)I"⟩, prog_11_method_26_code, 6, (some .int), 9, 2, 0, 0),
  (⟨"MeshWalkModel", "corner", "(II)I"⟩, prog_11_method_29_code, 3, (some .int), 9, 2, 7, 169),
  (⟨"MeshWalkModel", "isCorner", "(II)Z"⟩, prog_11_method_28_code, 3, (some .boolean), 9, 2, 6, 147),
  (⟨"MeshWalkModel", "across", "(II)I"⟩, prog_11_method_30_code, 3, (some .int), 9, 2, 7, 169),
  (⟨"MeshWalkModel", "edge", "(II)I"⟩, prog_11_method_31_code, 3, (some .int), 9, 2, 6, 147),
  (⟨"MeshWalkModel", "side", "(III)I"⟩, prog_11_method_32_code, 4, (some .int), 9, 3, 2, 43),
  (⟨"MeshWalkModel", "circle", "(IIII)I"⟩, prog_11_method_33_code, 6, (some .int), 9, 4, 2, 70),
  (⟨"MeshWalkModel", "locate", "(II)I"⟩, prog_11_method_35_code, 3, (some .int), 9, 2, 6, 147),
  (⟨"MeshWalkModel", "find", "(I)I"⟩, prog_11_method_34_code, 6, (some .int), 9, 1, 1, 25),
  (⟨"MeshWalkModel", "way", "(IIII)I"⟩, prog_11_method_38_code, 7, (some .int), 9, 4, 6, 147),
  (⟨"MeshWalkModel", "measure", "(I)V"⟩, prog_11_method_37_code, 6, none, 9, 1, 2, 49),
  (⟨"MeshWalkModel", "behind", "(II)I"⟩, prog_11_method_36_code, 5, (some .int), 9, 2, 1, 25),
  (⟨"MeshWalkModel", "step", "(I)V"⟩, prog_11_method_39_code, 5, none, 9, 1, 2, 49),
  (⟨"MeshWalkModel", "pull", "()V"⟩, prog_11_method_40_code, 13, none, 9, 0, 2, 50),
  (⟨"MeshWalkModel", "straighten", "()V"⟩, prog_11_method_43_code, 3, none, 9, 0, 2, 58),
  (⟨"MeshWalkModel", "isTurn", "(I)Z"⟩, prog_11_method_42_code, 14, (some .boolean), 9, 1, 1, 25),
  (⟨"MeshWalkModel", "pointAt", "(I)I"⟩, prog_11_method_41_code, 2, (some .int), 9, 1, 0, 0),
  (⟨"MeshWalkModel", "turn", "(I)I"⟩, prog_11_method_44_code, 2, (some .int), 9, 1, 1, 22),
  (⟨"MeshWalkModel", "sleeve", "(I)I"⟩, prog_11_method_45_code, 2, (some .int), 9, 1, 1, 22),
  (⟨"MeshWalkLaw", "add", "(LMeshWalk;II[J)I"⟩, method_3_code, 5, (some .int), 13, 4, 10, 205),
  (⟨"MeshWalkLaw", "link", "(LMeshWalk;II[J)I"⟩, method_4_code, 5, (some .int), 13, 4, 11, 225),
  (⟨"MeshWalkLaw", "unlink", "(LMeshWalk;II[J)I"⟩, method_5_code, 5, (some .int), 13, 4, 11, 225),
  (⟨"MeshWalkLaw", "corner", "(LMeshWalk;II[J)I"⟩, method_6_code, 5, (some .int), 13, 4, 10, 204),
  (⟨"MeshWalkLaw", "across", "(LMeshWalk;II[J)I"⟩, method_7_code, 5, (some .int), 13, 4, 10, 204),
  (⟨"MeshWalkLaw", "edge", "(LMeshWalk;II[J)I"⟩, method_8_code, 5, (some .int), 13, 4, 11, 225),
  (⟨"MeshWalkLaw", "side", "(LMeshWalk;III[J)I"⟩, method_9_code, 6, (some .int), 13, 5, 10, 204),
  (⟨"MeshWalkLaw", "circle", "(LMeshWalk;IIII[J)I"⟩, method_10_code, 7, (some .int), 13, 6, 10, 206),
  (⟨"MeshWalkLaw", "locate", "(LMeshWalk;II[J)I"⟩, method_11_code, 5, (some .int), 13, 4, 10, 204),
  (⟨"MeshWalkLaw", "way", "(LMeshWalk;IIII[J)I"⟩, method_12_code, 7, (some .int), 13, 6, 10, 208),
  (⟨"java/util/Arrays", "fill", "([II)V"⟩, prog_20_method_103_code, 4, none, 14, 2, 0, 0),
  (⟨"java/util/Arrays", "fill", "([JJ)V"⟩, prog_20_method_101_code, 5, none, 14, 2, 0, 0),
  (⟨"java/lang/Math", "min", "(II)I"⟩, prog_16_method_69_code, 2, (some .int), 15, 2, 0, 0),
  (⟨"java/lang/Math", "max", "(II)I"⟩, prog_16_method_65_code, 2, (some .int), 15, 2, 0, 0),
  (⟨"MeshWalkLaw", "law", "([I)Z"⟩, code, 7, (some .boolean), 13, 1, 12, 249)]
def mRow (M : Nat) : MethodName × ByteArray × Nat × Option FieldType × Nat × Nat × Nat × Nat := mTab.getD M (⟨"", "", ""⟩, ⟨#[]⟩, 0, none, 0, 0, 0, 0)
def mName (M : Nat) : MethodName := (mRow M).1
def mCode (M : Nat) : ByteArray := (mRow M).2.1
def mMaxL (M : Nat) : Nat := (mRow M).2.2.1
def mRet (M : Nat) : Option FieldType := (mRow M).2.2.2.1
def mOwn (M : Nat) : Nat := (mRow M).2.2.2.2.1
def mAr (M : Nat) : Nat := (mRow M).2.2.2.2.2.1
def mFr (M : Nat) : Nat := (mRow M).2.2.2.2.2.2.1
def mLo (M : Nat) : Nat := (mRow M).2.2.2.2.2.2.2
def mHand (M : Nat) : List (Nat × Nat × Nat × Nat) := match M with
  | 157 => [(0, 10, 13, 13), (0, 10, 17, 15)]
  | 158 => [(0, 17, 20, 13)]
  | 159 => [(0, 17, 20, 13)]
  | 160 => [(0, 10, 13, 27)]
  | 161 => [(0, 10, 13, 27)]
  | 162 => [(0, 10, 13, 13)]
  | 163 => [(0, 12, 15, 13)]
  | 164 => [(0, 14, 17, 13)]
  | 165 => [(0, 10, 13, 13)]
  | 166 => [(0, 14, 17, 13)]
  | _ => []
def mFldT : List (Nat × Nat × Nat × Nat × Nat) := [(7, 9, 7, 0, 96), (7, 13, 7, 1, 97), (7, 16, 7, 2, 98), (5, 9, 5, 0, 107), (5, 15, 5, 1, 108), (5, 21, 5, 2, 109), (5, 25, 5, 3, 110), (3, 15, 3, 0, 126), (3, 9, 3, 1, 127), (3, 19, 3, 2, 128), (4, 28, 4, 0, 146), (4, 32, 4, 1, 147), (4, 9, 4, 2, 148), (4, 15, 4, 3, 149), (4, 18, 4, 4, 150), (4, 42, 4, 5, 151), (4, 21, 4, 6, 152), (4, 102, 4, 7, 153), (4, 24, 4, 8, 154), (2, 18, 2, 0, 180), (2, 22, 2, 1, 181), (2, 9, 2, 2, 182), (2, 15, 2, 3, 183), (2, 105, 2, 4, 184), (0, 15, 0, 0, 214), (0, 9, 0, 1, 216), (0, 19, 0, 2, 217), (0, 22, 0, 3, 218), (1, 27, 1, 0, 228), (1, 14, 1, 1, 229), (1, 20, 1, 2, 230), (1, 38, 1, 3, 231), (1, 41, 1, 4, 232), (1, 44, 1, 5, 233), (1, 23, 1, 6, 234), (1, 31, 1, 7, 235), (6, 21, 6, 0, 253), (6, 25, 6, 1, 254), (6, 34, 6, 2, 255), (6, 9, 6, 3, 256), (6, 38, 6, 4, 257), (6, 15, 6, 5, 258), (6, 18, 6, 6, 259), (8, 22, 8, 0, 275), (8, 26, 8, 1, 276), (8, 30, 8, 2, 277), (8, 39, 8, 3, 278), (8, 46, 8, 4, 279), (9, 42, 9, 0, 892), (9, 52, 9, 1, 893), (9, 7, 9, 2, 894), (9, 13, 9, 3, 895), (9, 16, 9, 4, 896), (9, 20, 9, 5, 897), (9, 85, 9, 6, 898), (9, 124, 9, 7, 899), (9, 23, 9, 8, 900), (9, 154, 9, 9, 901), (9, 27, 9, 10, 902), (9, 166, 9, 11, 903), (9, 30, 9, 12, 904), (9, 33, 9, 13, 905), (9, 36, 9, 14, 906), (9, 39, 9, 15, 907), (9, 57, 9, 16, 908), (9, 61, 9, 17, 909)]
def mFldNT : List (Nat × Nat × Nat × Nat × Nat) := [(1, 76, 0, 0, 215)]
def mLnkT : List (Nat × Nat × Nat × Nat × Nat × Nat × Nat × Nat × Nat) := [
  (13, 49, 91, 2, 78, 79, 0, 58, 80),
  (8, 11, 65, 5, 86, 87, 0, 59, 88),
  (5, 20, 87, 5, 92, 93, 0, 60, 94),
  (8, 14, 35, 2, 122, 123, 0, 61, 124),
  (8, 19, 44, 2, 139, 140, 0, 62, 141),
  (4, 36, 167, 1, 143, 144, 0, 63, 145),
  (8, 36, 19, 2, 176, 177, 0, 64, 178),
  (8, 45, 78, 2, 198, 199, 0, 65, 200),
  (6, 31, 9, 2, 204, 205, 0, 66, 206),
  (1, 11, 0, 2, 210, 211, 0, 67, 212),
  (13, 69, 92, 0, 291, 292, 293, 58, 294),
  (8, 54, 66, 0, 295, 296, 297, 59, 298),
  (8, 109, 67, 0, 299, 300, 301, 59, 302),
  (8, 112, 36, 0, 303, 304, 305, 61, 306),
  (3, 25, 168, 1, 307, 308, 0, 63, 309),
  (8, 113, 45, 0, 310, 311, 312, 62, 313),
  (13, 73, 93, 0, 314, 315, 316, 58, 317),
  (8, 114, 37, 0, 318, 319, 320, 61, 321),
  (8, 115, 46, 0, 322, 323, 324, 62, 325),
  (8, 116, 47, 0, 326, 327, 328, 62, 329),
  (4, 46, 66, 0, 330, 296, 297, 59, 298),
  (8, 119, 48, 0, 331, 332, 333, 62, 334),
  (4, 51, 47, 0, 335, 327, 328, 62, 329),
  (13, 101, 94, 0, 336, 337, 338, 58, 339),
  (8, 160, 79, 0, 340, 341, 342, 65, 343),
  (6, 42, 10, 0, 344, 345, 346, 66, 347),
  (13, 105, 95, 0, 348, 349, 350, 58, 351),
  (8, 163, 80, 0, 352, 353, 354, 65, 355),
  (13, 53, 157, 1, 356, 357, 0, 57, 358),
  (13, 7, 96, 0, 361, 362, 363, 58, 364),
  (8, 50, 97, 0, 365, 367, 0, 58, 368),
  (8, 65, 68, 0, 455, 456, 457, 59, 458),
  (8, 69, 69, 0, 459, 460, 461, 59, 462),
  (8, 73, 38, 0, 463, 464, 465, 61, 466),
  (3, 31, 66, 0, 467, 296, 297, 59, 298),
  (3, 36, 39, 0, 468, 469, 470, 61, 471),
  (3, 40, 70, 0, 472, 473, 474, 59, 475),
  (5, 29, 71, 0, 476, 477, 478, 59, 479),
  (5, 52, 169, 1, 480, 481, 0, 74, 482),
  (5, 58, 170, 1, 483, 484, 0, 74, 485),
  (8, 77, 72, 0, 486, 487, 488, 59, 489),
  (8, 80, 20, 0, 490, 491, 492, 64, 493),
  (2, 26, 46, 0, 494, 323, 324, 62, 325),
  (2, 32, 21, 0, 495, 497, 2, 64, 498),
  (2, 50, 73, 0, 499, 500, 501, 59, 502),
  (5, 33, 98, 4, 503, 504, 0, 58, 505),
  (2, 56, 22, 0, 506, 508, 3, 64, 509),
  (2, 64, 74, 0, 510, 511, 512, 59, 513),
  (2, 60, 23, 0, 514, 516, 4, 64, 517),
  (2, 68, 49, 0, 518, 519, 520, 62, 521),
  (4, 54, 99, 4, 522, 523, 0, 58, 524),
  (2, 36, 50, 0, 525, 526, 527, 62, 528),
  (4, 76, 51, 0, 529, 531, 5, 62, 532),
  (4, 61, 52, 0, 533, 534, 535, 62, 536),
  (4, 64, 53, 0, 537, 538, 539, 62, 540),
  (4, 79, 71, 0, 541, 477, 478, 59, 479),
  (2, 40, 24, 0, 542, 544, 6, 64, 545),
  (2, 71, 52, 0, 546, 534, 535, 62, 536),
  (2, 74, 53, 0, 547, 538, 539, 62, 540),
  (2, 77, 54, 0, 548, 549, 550, 62, 551),
  (2, 80, 55, 0, 552, 553, 554, 62, 555),
  (4, 94, 169, 1, 556, 481, 0, 74, 482),
  (4, 99, 170, 1, 557, 484, 0, 74, 485),
  (2, 43, 25, 0, 558, 560, 7, 64, 561),
  (2, 83, 56, 0, 562, 563, 564, 62, 565),
  (2, 86, 26, 0, 566, 568, 8, 64, 569),
  (2, 89, 27, 0, 570, 572, 9, 64, 573),
  (2, 47, 57, 0, 574, 575, 576, 62, 577),
  (4, 67, 39, 0, 580, 469, 470, 61, 471),
  (4, 108, 58, 0, 581, 583, 10, 62, 584),
  (4, 58, 54, 0, 585, 549, 550, 62, 551),
  (4, 117, 75, 0, 586, 587, 588, 59, 589),
  (5, 37, 88, 0, 590, 591, 592, 60, 593),
  (5, 40, 76, 0, 594, 596, 11, 59, 597),
  (5, 44, 89, 0, 598, 599, 600, 60, 601),
  (5, 48, 90, 0, 603, 604, 605, 60, 606),
  (7, 21, 98, 4, 607, 504, 0, 58, 505),
  (4, 111, 59, 0, 608, 609, 610, 62, 611),
  (4, 83, 56, 0, 612, 563, 564, 62, 565),
  (4, 87, 49, 0, 613, 519, 520, 62, 521),
  (4, 90, 55, 0, 614, 553, 554, 62, 555),
  (4, 114, 60, 0, 615, 617, 12, 62, 618),
  (4, 121, 61, 0, 619, 621, 13, 62, 622),
  (13, 63, 158, 1, 623, 624, 0, 57, 625),
  (13, 17, 100, 0, 626, 627, 628, 58, 629),
  (8, 84, 101, 0, 630, 632, 14, 58, 633),
  (8, 135, 102, 0, 634, 636, 15, 58, 637),
  (8, 87, 39, 0, 640, 469, 470, 61, 471),
  (8, 91, 77, 0, 641, 642, 643, 59, 644),
  (5, 61, 70, 0, 645, 473, 474, 59, 475),
  (8, 94, 40, 0, 646, 647, 648, 61, 649),
  (3, 44, 41, 0, 650, 652, 16, 61, 653),
  (3, 48, 73, 0, 654, 500, 501, 59, 502),
  (8, 97, 42, 0, 655, 656, 657, 61, 658),
  (8, 100, 28, 0, 659, 660, 661, 64, 662),
  (2, 93, 62, 0, 664, 665, 666, 62, 667),
  (2, 96, 29, 0, 668, 670, 17, 64, 671),
  (2, 102, 30, 0, 672, 674, 18, 64, 675),
  (2, 109, 66, 0, 676, 296, 297, 59, 298),
  (2, 99, 31, 0, 677, 679, 19, 64, 680),
  (2, 110, 32, 0, 681, 683, 20, 64, 684),
  (2, 119, 71, 0, 685, 477, 478, 59, 479),
  (2, 113, 33, 0, 686, 688, 21, 64, 689),
  (2, 116, 59, 0, 690, 609, 610, 62, 611),
  (13, 66, 159, 1, 691, 692, 0, 57, 693),
  (13, 21, 103, 0, 694, 695, 696, 58, 697),
  (8, 103, 43, 0, 698, 699, 700, 61, 701),
  (8, 106, 34, 0, 703, 704, 705, 64, 706),
  (13, 78, 160, 1, 707, 708, 0, 57, 709),
  (13, 24, 104, 0, 711, 712, 713, 58, 714),
  (8, 122, 105, 0, 715, 717, 22, 58, 718),
  (8, 125, 52, 0, 735, 534, 535, 62, 536),
  (13, 81, 161, 1, 736, 737, 0, 57, 738),
  (13, 29, 106, 0, 739, 740, 741, 58, 742),
  (8, 129, 63, 0, 743, 744, 745, 62, 746),
  (13, 84, 162, 1, 747, 748, 0, 57, 749),
  (13, 32, 107, 0, 750, 751, 752, 58, 753),
  (8, 132, 62, 0, 754, 665, 666, 62, 667),
  (13, 87, 163, 1, 755, 756, 0, 57, 757),
  (13, 35, 108, 0, 758, 759, 760, 58, 761),
  (8, 138, 73, 0, 762, 500, 501, 59, 502),
  (13, 91, 164, 1, 763, 764, 0, 57, 765),
  (13, 39, 109, 0, 766, 767, 768, 58, 769),
  (8, 147, 75, 0, 771, 587, 588, 59, 589),
  (13, 95, 165, 1, 772, 773, 0, 57, 774),
  (13, 43, 110, 0, 775, 776, 777, 58, 778),
  (8, 151, 50, 0, 779, 526, 527, 62, 528),
  (13, 98, 166, 1, 780, 781, 0, 57, 782),
  (13, 46, 111, 0, 783, 784, 785, 58, 786),
  (8, 154, 81, 0, 787, 788, 789, 65, 790),
  (6, 46, 82, 0, 791, 793, 23, 65, 794),
  (6, 53, 167, 1, 795, 144, 0, 63, 145),
  (6, 59, 46, 0, 796, 323, 324, 62, 325),
  (6, 65, 64, 0, 797, 798, 799, 62, 800),
  (4, 73, 63, 0, 801, 744, 745, 62, 746),
  (6, 50, 83, 0, 802, 804, 24, 65, 805),
  (8, 157, 84, 0, 806, 807, 808, 65, 809),
  (6, 69, 85, 0, 810, 812, 25, 65, 813),
  (6, 83, 69, 0, 814, 460, 461, 59, 462),
  (6, 72, 11, 0, 815, 816, 817, 66, 818),
  (1, 35, 1, 0, 819, 820, 821, 67, 822),
  (6, 75, 86, 0, 823, 825, 26, 65, 826),
  (6, 88, 53, 0, 827, 538, 539, 62, 540),
  (6, 91, 52, 0, 828, 534, 535, 62, 536),
  (6, 94, 12, 0, 829, 830, 831, 66, 832),
  (1, 47, 13, 0, 833, 835, 27, 66, 836),
  (1, 51, 2, 0, 837, 838, 839, 67, 840),
  (1, 63, 14, 0, 841, 843, 28, 66, 844),
  (1, 79, 3, 0, 845, 846, 847, 67, 848),
  (1, 83, 4, 0, 849, 850, 851, 67, 852),
  (1, 86, 71, 0, 853, 477, 478, 59, 479),
  (1, 67, 5, 0, 854, 855, 856, 67, 857),
  (1, 70, 15, 0, 858, 860, 29, 66, 861),
  (1, 54, 6, 0, 862, 863, 864, 67, 865),
  (1, 57, 16, 0, 866, 868, 30, 66, 869),
  (1, 60, 7, 0, 870, 871, 872, 67, 873),
  (1, 73, 8, 0, 874, 875, 876, 67, 877),
  (6, 79, 17, 0, 878, 879, 880, 66, 881),
  (6, 82, 18, 0, 882, 883, 884, 66, 885),
  (13, 52, 112, 2, 888, 889, 0, 68, 890),
  (13, 59, 113, 0, 948, 949, 950, 68, 951),
  (13, 58, 114, 0, 952, 953, 954, 68, 955),
  (9, 74, 115, 1, 956, 957, 0, 68, 958),
  (9, 48, 116, 1, 961, 962, 0, 68, 963),
  (9, 78, 117, 0, 964, 966, 31, 68, 967),
  (9, 82, 118, 0, 968, 970, 32, 68, 971),
  (9, 70, 119, 0, 972, 974, 33, 68, 975),
  (13, 65, 120, 0, 976, 977, 978, 68, 979),
  (9, 96, 121, 0, 980, 982, 34, 68, 983),
  (9, 89, 122, 0, 984, 986, 35, 68, 987),
  (9, 99, 123, 0, 988, 990, 36, 68, 991),
  (9, 92, 124, 0, 992, 994, 37, 68, 995),
  (13, 68, 125, 0, 996, 997, 998, 68, 999),
  (13, 72, 126, 0, 1000, 1001, 1002, 68, 1003),
  (13, 77, 127, 0, 1004, 1005, 1006, 68, 1007),
  (9, 134, 128, 0, 1008, 1010, 38, 68, 1011),
  (9, 127, 129, 0, 1012, 1014, 39, 68, 1015),
  (9, 120, 130, 0, 1016, 1018, 40, 68, 1019),
  (9, 131, 131, 0, 1020, 1022, 41, 68, 1023),
  (9, 109, 132, 0, 1024, 1026, 42, 68, 1027),
  (9, 106, 133, 0, 1028, 1030, 43, 68, 1031),
  (9, 103, 134, 0, 1032, 1034, 44, 68, 1035),
  (9, 113, 135, 0, 1036, 1038, 45, 68, 1039),
  (9, 66, 136, 0, 1040, 1042, 46, 68, 1043),
  (9, 117, 137, 1, 1046, 1047, 0, 68, 1048),
  (9, 137, 138, 0, 1049, 1051, 47, 68, 1052),
  (13, 80, 139, 0, 1053, 1054, 1055, 68, 1056),
  (9, 140, 140, 0, 1057, 1059, 48, 68, 1060),
  (13, 83, 141, 0, 1061, 1062, 1063, 68, 1064),
  (13, 86, 142, 0, 1065, 1066, 1067, 68, 1068),
  (13, 90, 143, 0, 1069, 1070, 1071, 68, 1072),
  (13, 94, 144, 0, 1073, 1074, 1075, 68, 1076),
  (13, 97, 145, 0, 1077, 1078, 1079, 68, 1080),
  (9, 143, 146, 0, 1081, 1083, 49, 68, 1084),
  (13, 100, 147, 0, 1085, 1086, 1087, 68, 1088),
  (9, 150, 148, 0, 1089, 1091, 50, 68, 1092),
  (9, 147, 149, 0, 1093, 1095, 51, 68, 1096),
  (9, 157, 150, 0, 1097, 1099, 52, 68, 1100),
  (9, 160, 151, 0, 1101, 1103, 53, 68, 1104),
  (9, 163, 152, 0, 1105, 1107, 54, 68, 1108),
  (9, 172, 153, 0, 1109, 1111, 55, 68, 1112),
  (9, 169, 154, 0, 1113, 1115, 56, 68, 1116),
  (13, 104, 155, 0, 1117, 1118, 1119, 68, 1120),
  (13, 108, 156, 0, 1121, 1122, 1123, 68, 1124)]
def mObjT : List (Nat × Nat × Nat) := [(8, 3, 81), (5, 3, 89), (7, 3, 95), (3, 3, 125), (4, 3, 142), (2, 3, 179), (6, 3, 201), (1, 3, 207), (0, 3, 213), (9, 1, 891)]
def mNewT : List (Nat × Nat × Nat × Nat × Nat × Nat) := [(13, 8, 8, 76, 77, 58), (8, 9, 5, 84, 85, 59), (5, 18, 7, 90, 91, 60), (8, 12, 3, 120, 121, 61), (8, 17, 4, 137, 138, 62), (8, 34, 2, 174, 175, 64), (8, 43, 6, 196, 197, 65), (6, 29, 1, 202, 203, 66), (1, 9, 0, 208, 209, 67), (13, 50, 9, 886, 887, 68)]
def mCiT : List (Nat × Nat × Int32 × Nat) := [(8, 166, (-536870911), 369), (8, 167, 536870911, 370), (4, 105, 1000000, 578), (2, 92, 1000000, 663), (9, 46, (-536870911), 959), (9, 47, 536870911, 960)]
def mClT : List (Nat × Nat × Int64 × Nat) := [(4, 106, (-1), 579), (7, 19, 2147483647, 602), (3, 23, (-1), 702), (9, 55, 4294967295, 1044), (9, 64, (-9223372036854775808), 1045)]
def mIs (i : Nat) (w : Cond) : Bool := decide (lw_tbl[i]? = some w) && mGood w
theorem mIs.mem {i : Nat} {w : Cond} (h : mIs i w = true) : w ∈ mTbl := by
  simp only [mIs, Bool.and_eq_true, decide_eq_true_eq] at h
  exact mTbl_of h.1 h.2
def mFldOK (q : Nat × Nat × Nat × Nat × Nat) : Bool := match mcl[q.2.2.1]? with
  | some (C, T, N) => decide (q.2.2.2.1 < N) && (decide ((T q.2.2.2.1).1 = C) && mIs q.2.2.2.2 (.fieldLink (mNmOf q.1) q.2.1 C (T q.2.2.2.1).2.1 (T q.2.2.2.1).2.2.1))
  | none => false
set_option maxRecDepth 20000 in
theorem mFldT_ok : mFldT.all mFldOK = true := by decide +kernel
def mFldNOK (q : Nat × Nat × Nat × Nat × Nat) : Bool := match mcl[q.2.2.1]? with
  | some (C, T, N) => decide (q.2.2.2.1 < N) && (decide ((T q.2.2.2.1).1 = C) && mIs q.2.2.2.2 (.fieldLinkNest (mNmOf q.1) q.2.1 C (T q.2.2.2.1).2.1 (T q.2.2.2.1).2.2.1 "MeshWalk"))
  | none => false
set_option maxRecDepth 20000 in
theorem mFldNT_ok : mFldNT.all mFldNOK = true := by decide +kernel
def mLnkOK (q : Nat × Nat × Nat × Nat × Nat × Nat × Nat × Nat × Nat) : Bool := match q with
  | (own, idx, N, kind, i1, i2, i3, i4, _) =>
    mIs i1 (if kind < 3 then .methodLink (mNmOf own) idx (mName N) else .methodLinkNest (mNmOf own) idx (mName N) "MeshWalk") &&
    (mIs i2 (if kind % 3 = 1 then .static (mName N) else .instanceMethod (mName N)) &&
    ((if kind % 3 = 0 then mIs i3 (.selects (mName N).cls (mName N) (mName N)) else true) &&
    (mIs i4 (.initialized (mName N).cls) &&
    (decide ((mName N).cls ≠ "java/lang/invoke/MethodHandle" ∧ (mName N).cls ≠ "java/lang/invoke/VarHandle") &&
    (decide ((parseMethodDescriptor (mName N).desc).map (fun d => d.parameters.length) = some (mAr N)) &&
    (decide (mNmOf (mOwn N) = (mName N).cls) && (plainFor (mName N) && (if kind % 3 = 2 then decide ((mName N).name = "<init>" ∧ mRet N = none) else true))))))))
set_option maxRecDepth 20000 in
theorem mLnkT_ok : mLnkT.all mLnkOK = true := by decide +kernel
def mObjOK (q : Nat × Nat × Nat) : Bool := mIs q.2.2 (.methodLink (mNmOf q.1) q.2.1 objectInit)
set_option maxRecDepth 20000 in
theorem mObjT_ok : mObjT.all mObjOK = true := by decide +kernel
def mNewOK (q : Nat × Nat × Nat × Nat × Nat × Nat) : Bool := match mcl[q.2.2.1]? with
  | some (C, _, N) => mIs q.2.2.2.1 (.classLink (mNmOf q.1) q.2.1 C) && (mIs q.2.2.2.2.1 (.instantiable C N) && mIs q.2.2.2.2.2 (.initialized C))
  | none => false
set_option maxRecDepth 20000 in
theorem mNewT_ok : mNewT.all mNewOK = true := by decide +kernel
def mCiOK (q : Nat × Nat × Int32 × Nat) : Bool := mIs q.2.2.2 (.constant (mNmOf q.1) q.2.1 q.2.2.1)
set_option maxRecDepth 20000 in
theorem mCiT_ok : mCiT.all mCiOK = true := by decide +kernel
def mClOK (q : Nat × Nat × Int64 × Nat) : Bool := mIs q.2.2.2 (.constantLong (mNmOf q.1) q.2.1 q.2.2.1)
set_option maxRecDepth 20000 in
theorem mClT_ok : mClT.all mClOK = true := by decide +kernel
def mCw (N : Nat) : Cond := if mHand N = [] then .code (mName N) (mCode N) (mMaxL N) (mRet N) else .codeWith (mName N) (mCode N) (mMaxL N) (mRet N) (mHand N)
