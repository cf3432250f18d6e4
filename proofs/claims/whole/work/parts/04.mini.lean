/-! THE SMALL MACHINE. A cell: an array (type of its elements, contents) or an object (number of its class in mcl, its fields). A reference k: k < 16 a cell that was there before (0: the script), else the cell k - 16 of the heap. A frame: pc, locals, operand stack, heap. Runs S M f r: method number M, from the frame f, ends with r (returned or threw; the heap then). -/
abbrev mC : Type := (FieldType × vp_A) ⊕ (Nat × List Value)
abbrev mHp : Type := List mC
abbrev mL : Type := List (Nat × Value)
abbrev mF : Type := Nat × mL × List Value × mHp
abbrev mR : Type := (Option Value ⊕ Nat) × mHp
abbrev mE : Type := Nat × (Nat → Int32)
def mget (h : mHp) (a : Nat) : Option mC := if a < 16 then none else h[a - 16]?
def mput (h : mHp) (a : Nat) (c : mC) : mHp := h.set (a - 16) c
def lget (ls : mL) (i : Nat) : Option Value := match ls with
  | [] => none
  | (j, v) :: t => if j = i then some v else lget t i
def lins (l : mL) (i : Nat) (v : Value) : mL := match l with
  | [] => [(i, v)]
  | (j, w) :: t => if i < j then (i, v) :: (j, w) :: t else (j, w) :: lins t i v
def lset1 (ls : mL) (i : Nat) (v : Value) : mL := lins (ls.filter (fun q => !(q.1 == i) && !(q.1 + 1 == i && q.2.category == 2))) i v
def lset2 (ls : mL) (i : Nat) (v : Value) : mL := lins (ls.filter (fun q => !(q.1 == i) && (!(q.1 == i + 1) && !(q.1 + 1 == i && q.2.category == 2)))) i v
def m_ii (f : Int32 → Int32 → Int32) (ls : mL) (st : List Value) : Option (mL × List Value) := match st with
  | .int y :: .int x :: t => some (ls, .int (f x y) :: t)
  | _ => none
def m_ll (f : Int64 → Int64 → Int64) (ls : mL) (st : List Value) : Option (mL × List Value) := match st with
  | .long y :: .long x :: t => some (ls, .long (f x y) :: t)
  | _ => none
def m_li (f : Int64 → Int32 → Int64) (ls : mL) (st : List Value) : Option (mL × List Value) := match st with
  | .int y :: .long x :: t => some (ls, .long (f x y) :: t)
  | _ => none
def m_il (ls : mL) (i : Nat) (st : List Value) : Option (mL × List Value) := match lget ls i with
  | some (.int x) => some (ls, .int x :: st)
  | _ => none
def m_llo (ls : mL) (i : Nat) (st : List Value) : Option (mL × List Value) := match lget ls i with
  | some (.long x) => some (ls, .long x :: st)
  | _ => none
def m_al (ls : mL) (i : Nat) (st : List Value) : Option (mL × List Value) := match lget ls i with
  | some (.ref x) => some (ls, .ref x :: st)
  | _ => none
def m_is (nL : Nat) (ls : mL) (i : Nat) (st : List Value) : Option (mL × List Value) := match st with
  | .int x :: t => if i < nL then some (lset1 ls i (.int x), t) else none
  | _ => none
def m_lst (nL : Nat) (ls : mL) (i : Nat) (st : List Value) : Option (mL × List Value) := match st with
  | .long x :: t => if i + 1 < nL then some (lset2 ls i (.long x), t) else none
  | _ => none
def m_as (nL : Nat) (ls : mL) (i : Nat) (st : List Value) : Option (mL × List Value) := match st with
  | .ref x :: t => if i < nL then some (lset1 ls i (.ref x), t) else none
  | _ => none
/-- the instructions that touch locals and stack alone -/
def mpure (nL : Nat) (i : Instr) (ls : mL) (st : List Value) : Option (mL × List Value) := match i with
  | .iconst n => some (ls, .int (Int32.ofInt n) :: st)
  | .bipush n => some (ls, .int (Int8.ofInt n).toInt32 :: st)
  | .sipush n => some (ls, .int (Int16.ofInt n).toInt32 :: st)
  | .lconst n => some (ls, .long (Int64.ofNat n.val) :: st)
  | .iload_n k => m_il ls k.val st
  | .iload k => m_il ls k st
  | .lload_n k => m_llo ls k.val st
  | .lload k => m_llo ls k st
  | .aload_n k => m_al ls k.val st
  | .aload k => m_al ls k st
  | .istore_n k => m_is nL ls k.val st
  | .istore k => m_is nL ls k st
  | .lstore_n k => m_lst nL ls k.val st
  | .lstore k => m_lst nL ls k st
  | .astore_n k => m_as nL ls k.val st
  | .astore k => m_as nL ls k st
  | .iinc k n => match lget ls k with
    | some (.int x) => if k < nL then some (lset1 ls k (.int (x + Int32.ofInt n)), st) else none
    | _ => none
  | .iadd => m_ii (fun x y => x + y) ls st
  | .isub => m_ii (fun x y => x - y) ls st
  | .imul => m_ii (fun x y => x * y) ls st
  | .iand => m_ii (fun x y => x &&& y) ls st
  | .idiv => match st with
    | .int y :: .int x :: t => if y = 0 then none else some (ls, .int (x / y) :: t)
    | _ => none
  | .irem => match st with
    | .int y :: .int x :: t => if y = 0 then none else some (ls, .int (x - x / y * y) :: t)
    | _ => none
  | .ladd => m_ll (fun x y => x + y) ls st
  | .lsub => m_ll (fun x y => x - y) ls st
  | .lmul => m_ll (fun x y => x * y) ls st
  | .land => m_ll (fun x y => x &&& y) ls st
  | .lor => m_ll (fun x y => x ||| y) ls st
  | .lxor => m_ll (fun x y => x ^^^ y) ls st
  | .lshl => m_li (fun x y => x <<< (y.toInt64 &&& 63)) ls st
  | .lshr => m_li (fun x y => x >>> (y.toInt64 &&& 63)) ls st
  | .lushr => m_li (fun x y => (x.toUInt64 >>> (y.toInt64.toUInt64 &&& Int64.toUInt64 63)).toInt64) ls st
  | .lcmp => match st with
    | .long y :: .long x :: t => some (ls, .int (lg_cmp x y) :: t)
    | _ => none
  | .i2l => match st with
    | .int x :: t => some (ls, .long x.toInt64 :: t)
    | _ => none
  | .dup => match st with
    | v :: t => if v.category = 1 then some (ls, v :: v :: t) else none
    | _ => none
  | .dup2 => match st with
    | v :: w :: t => if v.category = 1 ∧ w.category = 1 then some (ls, v :: w :: v :: w :: t) else none
    | _ => none
  | .pop => match st with
    | v :: t => if v.category = 1 then some (ls, t) else none
    | _ => none
  | _ => none
def mb1 (b : Prop) [Decidable b] (off : Int) (t : List Value) : Option (Option Int × List Value) := some (if b then some off else none, t)
/-- branches: taken, with its offset, or not -/
def mbr (i : Instr) (st : List Value) : Option (Option Int × List Value) := match i with
  | .goto off => some (some off, st)
  | .ifCond o off => match st with
    | .int x :: t => match o with
      | .eq => mb1 (x = 0) off t
      | .ne => mb1 (¬ x = 0) off t
      | .lt => mb1 (x < 0) off t
      | .ge => mb1 (0 ≤ x) off t
      | .gt => mb1 (0 < x) off t
      | .le => mb1 (x ≤ 0) off t
    | _ => none
  | .if_icmp o off => match st with
    | .int y :: .int x :: t => match o with
      | .eq => mb1 (x = y) off t
      | .ne => mb1 (¬ x = y) off t
      | .lt => mb1 (x < y) off t
      | .ge => mb1 (y ≤ x) off t
      | .gt => mb1 (y < x) off t
      | .le => mb1 (x ≤ y) off t
    | _ => none
  | _ => none
def mzero (ty : FieldType) (n : Nat) : vp_A := if ty = .long then (n, .inr (.inl (fun _ => 0))) else (n, .inl (fun _ => 0))
def mslot (c : mC) : Nat := match c with
  | .inl (_, a) => a.1
  | .inr (ci, _) => if ci < 10 then ((mcl[ci]?).map (fun q => q.2.2)).getD 0 else 6
def msl (h : mHp) : Nat := (h.map mslot).sum
def mprim (ty : FieldType) : Bool := match ty with
  | .int => true
  | .long => true
  | .boolean => true
  | _ => false
def mfin (ci k : Nat) : Bool := ((mcl[ci]?).map (fun q => (q.2.1 k).2.2.2)).getD true
def mdef (ci : Nat) : List Value := (List.range (((mcl[ci]?).map (fun q => q.2.2)).getD 0)).map (fun k => defaultValue (mty ci k))
def mcats (st : List Value) : Nat := (st.map (fun v => v.category)).sum
def mlen (i : Instr) : Nat := match i with
  | .bipush _ => 2
  | .sipush _ => 3
  | .iload _ => 2
  | .lload _ => 2
  | .aload _ => 2
  | .istore _ => 2
  | .lstore _ => 2
  | .astore _ => 2
  | .iinc _ _ => 3
  | _ => 1
def mnn (pc : Nat) (i : Instr) : Bool := match i with
  | .ifCond _ off => decide (0 ≤ (pc : Int) + off)
  | .if_icmp _ off => decide (0 ≤ (pc : Int) + off)
  | _ => true
section Rules
variable (S : mE) (P : Nat → mF → mR → Prop)
def mc_pure : Prop := ∀ (M pc : Nat) (ls : mL) (st : List Value) (h : mHp) (r : mR) (i : Instr) (len : Nat) (ls' : mL) (st' : List Value), decode (mCode M) pc = .ok (i, len) → mlen i = len → mpure (mMaxL M) i ls st = some (ls', st') → P M (pc + len, ls', st', h) r → P M (pc, ls, st, h) r
def mc_br : Prop := ∀ (M pc : Nat) (ls : mL) (st : List Value) (h : mHp) (r : mR) (i : Instr) (off : Int) (st' : List Value) (tgt : Nat), decode (mCode M) pc = .ok (i, 3) → mbr i st = some (some off, st') → (pc : Int) + off = (tgt : Int) → P M (tgt, ls, st', h) r → P M (pc, ls, st, h) r
def mc_nb : Prop := ∀ (M pc : Nat) (ls : mL) (st : List Value) (h : mHp) (r : mR) (i : Instr) (st' : List Value), decode (mCode M) pc = .ok (i, 3) → mnn pc i = true → mbr i st = some (none, st') → P M (pc + 3, ls, st', h) r → P M (pc, ls, st, h) r
def mc_swo : Prop := ∀ (M pc : Nat) (ls : mL) (st : List Value) (h : mHp) (r : mR) (dflt lo hi : Int) (offs : Array Int) (len : Nat) (x : Int32) (tgt : Nat), decode (mCode M) pc = .ok (.tableswitch dflt lo hi offs, len) → (x.toInt < lo ∨ hi < x.toInt) → (pc : Int) + dflt = (tgt : Int) → P M (tgt, ls, st, h) r → P M (pc, ls, .int x :: st, h) r
def mc_swi : Prop := ∀ (M pc : Nat) (ls : mL) (st : List Value) (h : mHp) (r : mR) (dflt lo hi : Int) (offs : Array Int) (len : Nat) (x : Int32) (off : Int) (tgt : Nat), decode (mCode M) pc = .ok (.tableswitch dflt lo hi offs, len) → ¬ x.toInt < lo → ¬ hi < x.toInt → offs[(x.toInt - lo).toNat]? = some off → (pc : Int) + off = (tgt : Int) → P M (tgt, ls, st, h) r → P M (pc, ls, .int x :: st, h) r
def mc_ci : Prop := ∀ (M pc : Nat) (ls : mL) (st : List Value) (h : mHp) (r : mR) (idx : Nat) (v : Int32) (w : Nat), decode (mCode M) pc = .ok (.ldc idx, 2) → (mOwn M, idx, v, w) ∈ mCiT → P M (pc + 2, ls, .int v :: st, h) r → P M (pc, ls, st, h) r
def mc_cl : Prop := ∀ (M pc : Nat) (ls : mL) (st : List Value) (h : mHp) (r : mR) (idx : Nat) (v : Int64) (w : Nat), decode (mCode M) pc = .ok (.ldc2_w idx, 3) → (mOwn M, idx, v, w) ∈ mClT → P M (pc + 3, ls, .long v :: st, h) r → P M (pc, ls, st, h) r
def mc_get : Prop := ∀ (M pc : Nat) (ls : mL) (st : List Value) (h : mHp) (r : mR) (idx ci k w a : Nat) (fs : List Value) (v : Value), decode (mCode M) pc = .ok (.getfield idx, 3) → ((mOwn M, idx, ci, k, w) ∈ mFldT ∨ (mOwn M, idx, ci, k, w) ∈ mFldNT) → mget h a = some (.inr (ci, fs)) → fs[k]? = some v → P M (pc + 3, ls, v :: st, h) r → P M (pc, ls, .ref a :: st, h) r
def mc_put : Prop := ∀ (M pc : Nat) (ls : mL) (st : List Value) (h : mHp) (r : mR) (idx ci k w a : Nat) (fs : List Value) (v : Value), decode (mCode M) pc = .ok (.putfield idx, 3) → (mOwn M, idx, ci, k, w) ∈ mFldT → mget h a = some (.inr (ci, fs)) → k < fs.length → narrow (mty ci k) v = v → fits (mty ci k) v = true → (mfin ci k = false ∨ ((mName M).name = "<init>" ∧ mOwn M = ci)) → P M (pc + 3, ls, st, mput h a (.inr (ci, fs.set k v))) r → P M (pc, ls, v :: .ref a :: st, h) r
def mc_ild : Prop := ∀ (M pc : Nat) (ls : mL) (st : List Value) (h : mHp) (r : mR) (a n : Nat) (f : Nat → Int32) (i : Int32), decode (mCode M) pc = .ok (.iaload, 1) → mget h a = some (.inl (.int, n, .inl f)) → vp_in i n → P M (pc + 1, ls, .int (f i.toNatClampNeg) :: st, h) r → P M (pc, ls, .int i :: .ref a :: st, h) r
def mc_zld : Prop := ∀ (M pc : Nat) (ls : mL) (st : List Value) (h : mHp) (r : mR) (a n : Nat) (f : Nat → Int32) (i : Int32), decode (mCode M) pc = .ok (.baload, 1) → mget h a = some (.inl (.boolean, n, .inl f)) → vp_in i n → P M (pc + 1, ls, .int (f i.toNatClampNeg) :: st, h) r → P M (pc, ls, .int i :: .ref a :: st, h) r
def mc_lld : Prop := ∀ (M pc : Nat) (ls : mL) (st : List Value) (h : mHp) (r : mR) (a n : Nat) (f : Nat → Int64) (i : Int32), decode (mCode M) pc = .ok (.laload, 1) → mget h a = some (.inl (.long, n, .inr (.inl f))) → vp_in i n → P M (pc + 1, ls, .long (f i.toNatClampNeg) :: st, h) r → P M (pc, ls, .int i :: .ref a :: st, h) r
def mc_ist : Prop := ∀ (M pc : Nat) (ls : mL) (st : List Value) (h : mHp) (r : mR) (a n : Nat) (f : Nat → Int32) (i x : Int32), decode (mCode M) pc = .ok (.iastore, 1) → mget h a = some (.inl (.int, n, .inl f)) → vp_in i n → P M (pc + 1, ls, st, mput h a (.inl (.int, n, .inl (upd f i.toNatClampNeg x)))) r → P M (pc, ls, .int x :: .int i :: .ref a :: st, h) r
def mc_zst : Prop := ∀ (M pc : Nat) (ls : mL) (st : List Value) (h : mHp) (r : mR) (a n : Nat) (f : Nat → Int32) (i x : Int32), decode (mCode M) pc = .ok (.bastore, 1) → mget h a = some (.inl (.boolean, n, .inl f)) → vp_in i n → P M (pc + 1, ls, st, mput h a (.inl (.boolean, n, .inl (upd f i.toNatClampNeg (vp_nar .boolean x))))) r → P M (pc, ls, .int x :: .int i :: .ref a :: st, h) r
def mc_lst : Prop := ∀ (M pc : Nat) (ls : mL) (st : List Value) (h : mHp) (r : mR) (a n : Nat) (f : Nat → Int64) (i : Int32) (x : Int64), decode (mCode M) pc = .ok (.lastore, 1) → mget h a = some (.inl (.long, n, .inr (.inl f))) → vp_in i n → P M (pc + 1, ls, st, mput h a (.inl (.long, n, .inr (.inl (vp_updL f i.toNatClampNeg x))))) r → P M (pc, ls, .long x :: .int i :: .ref a :: st, h) r
def mc_len : Prop := ∀ (M pc : Nat) (ls : mL) (st : List Value) (h : mHp) (r : mR) (a : Nat) (ty : FieldType) (x : vp_A), decode (mCode M) pc = .ok (.arraylength, 1) → mget h a = some (.inl (ty, x)) → mprim ty = true → P M (pc + 1, ls, .int (Int32.ofNat x.1) :: st, h) r → P M (pc, ls, .ref a :: st, h) r
def mc_sld : Prop := ∀ (M pc : Nat) (ls : mL) (st : List Value) (h : mHp) (r : mR) (i : Int32), decode (mCode M) pc = .ok (.iaload, 1) → vp_in i S.1 → P M (pc + 1, ls, .int (S.2 i.toNatClampNeg) :: st, h) r → P M (pc, ls, .int i :: .ref 0 :: st, h) r
def mc_sln : Prop := ∀ (M pc : Nat) (ls : mL) (st : List Value) (h : mHp) (r : mR), decode (mCode M) pc = .ok (.arraylength, 1) → P M (pc + 1, ls, .int (Int32.ofNat S.1) :: st, h) r → P M (pc, ls, .ref 0 :: st, h) r
def mc_newa : Prop := ∀ (M pc : Nat) (ls : mL) (st : List Value) (h : mHp) (r : mR) (at_ : ArrayType) (ty : FieldType) (n : Int32) (N : Nat), decode (mCode M) pc = .ok (.newarray at_, 2) → newarray.typeOf at_ = ty → mprim ty = true → ¬ n < 0 → n.toNatClampNeg = N → N ≤ 10000 → P M (pc + 2, ls, .ref (h.length + 16) :: st, h ++ [.inl (ty, mzero ty N)]) r → P M (pc, ls, .int n :: st, h) r
def mc_new : Prop := ∀ (M pc : Nat) (ls : mL) (st : List Value) (h : mHp) (r : mR) (idx ci w1 w2 w3 : Nat), decode (mCode M) pc = .ok (.new idx, 3) → (mOwn M, idx, ci, w1, w2, w3) ∈ mNewT → P M (pc + 3, ls, .ref (h.length + 16) :: st, h ++ [.inr (ci, mdef ci)]) r → P M (pc, ls, st, h) r
def mc_iret : Prop := ∀ (M pc : Nat) (ls : mL) (h : mHp) (v : Int32) (ty : FieldType), decode (mCode M) pc = .ok (.ireturn, 1) → mRet M = some ty → narrow ty (.int v) = .int v → P M (pc, ls, [.int v], h) (.inl (some (.int v)), h)
def mc_lret : Prop := ∀ (M pc : Nat) (ls : mL) (h : mHp) (v : Int64), decode (mCode M) pc = .ok (.lreturn, 1) → mRet M = some .long → P M (pc, ls, [.long v], h) (.inl (some (.long v)), h)
def mc_vret : Prop := ∀ (M pc : Nat) (ls : mL) (h : mHp), decode (mCode M) pc = .ok (.return_, 1) → mRet M = none → P M (pc, ls, [], h) (.inl none, h)
def mc_obj : Prop := ∀ (M pc : Nat) (ls : mL) (st : List Value) (h : mHp) (r : mR) (idx w a : Nat), decode (mCode M) pc = .ok (.invokespecial idx, 3) → (mOwn M, idx, w) ∈ mObjT → 1 ≤ mFr M → mcats st + 12 ≤ mLo M → P M (pc + 3, ls, st, h) r → P M (pc, ls, .ref a :: st, h) r
def mroom (M N : Nat) (st : List Value) : Prop := mFr N + 1 ≤ mFr M ∧ 8 + (mMaxL N + 11) + mLo N ≤ mLo M ∧ mcats st ≤ 8 ∧ mHand N = [] ∧ mCw N ∈ mTbl
/-- a call of a method on an object: 0, 3: invokevirtual; 2, 5: a constructor -/
def mc_cv : Prop := ∀ (M pc : Nat) (ls : mL) (st st0 : List Value) (h h' : mHp) (r : mR) (idx N kind w1 w2 w3 w4 w5 a ci : Nat) (fs As : List Value) (v : Option Value), decode (mCode M) pc = .ok ((if kind % 3 = 2 then .invokespecial idx else .invokevirtual idx), 3) → (mOwn M, idx, N, kind, w1, w2, w3, w4, w5) ∈ mLnkT → (kind % 3 = 2 ∨ kind % 3 = 0) → mroom M N st → st0 = As.reverse ++ .ref a :: st → As.length = mAr N → mcats (.ref a :: As) ≤ mMaxL N → mget h a = some (.inr (ci, fs)) → mOwn N = ci →
  P N (0, lv_args 0 (.ref a :: As), [], h) (.inl v, h') → P M (pc + 3, ls, v.toList ++ st, h') r → P M (pc, ls, st0, h) r
def mc_cs : Prop := ∀ (M pc : Nat) (ls : mL) (st st0 : List Value) (h h' : mHp) (r : mR) (idx N kind w1 w2 w3 w4 w5 : Nat) (As : List Value) (v : Option Value), decode (mCode M) pc = .ok (.invokestatic idx, 3) → (mOwn M, idx, N, kind, w1, w2, w3, w4, w5) ∈ mLnkT → kind % 3 = 1 → mroom M N st → st0 = As.reverse ++ st → As.length = mAr N → mcats As ≤ mMaxL N →
  P N (0, lv_args 0 As, [], h) (.inl v, h') → P M (pc + 3, ls, v.toList ++ st, h') r → P M (pc, ls, st0, h) r
def mClosed : Prop := mc_pure P ∧ mc_br P ∧ mc_nb P ∧ mc_swo P ∧ mc_swi P ∧ mc_ci P ∧ mc_cl P ∧ mc_get P ∧ mc_put P ∧ mc_ild P ∧ mc_zld P ∧ mc_lld P ∧ mc_ist P ∧ mc_zst P ∧ mc_lst P ∧ mc_len P ∧ mc_sld S P ∧ mc_sln S P ∧ mc_newa P ∧ mc_new P ∧ mc_iret P ∧ mc_lret P ∧ mc_vret P ∧ mc_obj P ∧ mc_cv P ∧ mc_cs P
end Rules
def Runs (S : mE) (M : Nat) (f : mF) (r : mR) : Prop := ∀ P : Nat → mF → mR → Prop, mClosed S P → P M f r
