/-! The plain machine: a small interpreter over cells that are numbered from 0 in the order of their making. Its soundness (later parts) says: what it runs, the machine runs. -/
def pv_get : List (Nat × Value) → Nat → Option Value
  | [], _ => none
  | q :: l, i => if q.1 = i then some q.2 else pv_get l i
def pv_put1 (lv : List (Nat × Value)) (i : Nat) (v : Value) : List (Nat × Value) := (i, v) :: lv.filter (fun q => !(q.1 == i) && !(q.1 + 1 == i && q.2.category == 2))
def pv_put2 (lv : List (Nat × Value)) (i : Nat) (v : Value) : List (Nat × Value) := (i, v) :: lv.filter (fun q => !(q.1 == i) && (!(q.1 == i + 1) && !(q.1 + 1 == i && q.2.category == 2)))
def pv_ii (f : Int32 → Int32 → Int32) (st : List Value) : Option (List Value) := match st with
  | .int y :: .int x :: r => some (.int (f x y) :: r)
  | _ => none
def pv_iid (f : Int32 → Int32 → Int32) (st : List Value) : Option (List Value) := match st with
  | .int y :: .int x :: r => if y = 0 then none else some (.int (f x y) :: r)
  | _ => none
def pv_ll (f : Int64 → Int64 → Int64) (st : List Value) : Option (List Value) := match st with
  | .long y :: .long x :: r => some (.long (f x y) :: r)
  | _ => none
def pv_lld (f : Int64 → Int64 → Int64) (st : List Value) : Option (List Value) := match st with
  | .long y :: .long x :: r => if y = 0 then none else some (.long (f x y) :: r)
  | _ => none
def pv_il (f : Int64 → Int32 → Int64) (st : List Value) : Option (List Value) := match st with
  | .int y :: .long x :: r => some (.long (f x y) :: r)
  | _ => none
def pv_llc (f : Int64 → Int64 → Int32) (st : List Value) : Option (List Value) := match st with
  | .long y :: .long x :: r => some (.int (f x y) :: r)
  | _ => none
def pv_1i (f : Int32 → Value) (st : List Value) : Option (List Value) := match st with
  | .int x :: r => some (f x :: r)
  | _ => none
def pv_1l (f : Int64 → Value) (st : List Value) : Option (List Value) := match st with
  | .long x :: r => some (f x :: r)
  | _ => none
def pv_dup (st : List Value) : Option (List Value) := match st with
  | v :: r => if v.category = 1 then some (v :: v :: r) else none
  | _ => none
def pv_pop (st : List Value) : Option (List Value) := match st with
  | v :: r => if v.category = 1 then some r else none
  | _ => none
def pv_dup2 (st : List Value) : Option (List Value) := match st with
  | v :: w :: r => if v.category = 2 then some (v :: v :: w :: r) else if w.category = 1 then some (v :: w :: v :: w :: r) else none
  | _ => none
/-- what turns the operand stack alone -/
def pv_s1 (ins : Instr) (st : List Value) : Option (List Value) := match ins with
  | .iconst n => some (.int (Int32.ofInt n) :: st)
  | .bipush n => some (.int (Int8.ofInt n).toInt32 :: st)
  | .sipush n => some (.int (Int16.ofInt n).toInt32 :: st)
  | .lconst n => some (.long (Int64.ofNat (n : Nat)) :: st)
  | .aconst_null => some (.null :: st)
  | .iadd => pv_ii (fun x y => x + y) st
  | .isub => pv_ii (fun x y => x - y) st
  | .imul => pv_ii (fun x y => x * y) st
  | .iand => pv_ii (fun x y => x &&& y) st
  | .ior => pv_ii (fun x y => x ||| y) st
  | .ixor => pv_ii (fun x y => x ^^^ y) st
  | .ishl => pv_ii (fun x y => x <<< (y &&& 31)) st
  | .ishr => pv_ii (fun x y => x >>> (y &&& 31)) st
  | .idiv => pv_iid (fun x y => x / y) st
  | .irem => pv_iid (fun x y => x - x / y * y) st
  | .ladd => pv_ll (fun x y => x + y) st
  | .lsub => pv_ll (fun x y => x - y) st
  | .lmul => pv_ll (fun x y => x * y) st
  | .land => pv_ll (fun x y => x &&& y) st
  | .lor => pv_ll (fun x y => x ||| y) st
  | .ldiv => pv_lld (fun x y => x / y) st
  | .lrem => pv_lld (fun x y => x - x / y * y) st
  | .lshl => pv_il (fun x y => x <<< (y.toInt64 &&& 63)) st
  | .lshr => pv_il (fun x y => x >>> (y.toInt64 &&& 63)) st
  | .lushr => pv_il (fun x y => (x.toUInt64 >>> (y.toInt64.toUInt64 &&& Int64.toUInt64 63)).toInt64) st
  | .lcmp => pv_llc lg_cmp st
  | .lneg => pv_1l (fun x => .long (-x)) st
  | .l2i => pv_1l (fun x => .int x.toInt32) st
  | .i2l => pv_1i (fun x => .long x.toInt64) st
  | .i2b => pv_1i (fun x => .int x.toInt8.toInt32) st
  | .dup => pv_dup st
  | .pop => pv_pop st
  | .dup2 => pv_dup2 st
  | _ => none
def pv_ldi (lv : List (Nat × Value)) (i : Nat) (st : List Value) : Option (List (Nat × Value) × List Value) := match pv_get lv i with
  | some (.int x) => some (lv, .int x :: st)
  | _ => none
def pv_ldl (lv : List (Nat × Value)) (i : Nat) (st : List Value) : Option (List (Nat × Value) × List Value) := match pv_get lv i with
  | some (.long x) => some (lv, .long x :: st)
  | _ => none
def pv_lda (lv : List (Nat × Value)) (i : Nat) (st : List Value) : Option (List (Nat × Value) × List Value) := match pv_get lv i with
  | some (.ref x) => some (lv, .ref x :: st)
  | some (.retAddr x) => some (lv, .retAddr x :: st)
  | some .null => some (lv, .null :: st)
  | _ => none
def pv_sti (nL : Nat) (lv : List (Nat × Value)) (i : Nat) (st : List Value) : Option (List (Nat × Value) × List Value) := match st with
  | .int x :: r => if i < nL then some (pv_put1 lv i (.int x), r) else none
  | _ => none
def pv_stl (nL : Nat) (lv : List (Nat × Value)) (i : Nat) (st : List Value) : Option (List (Nat × Value) × List Value) := match st with
  | .long x :: r => if i + 1 < nL then some (pv_put2 lv i (.long x), r) else none
  | _ => none
def pv_sta (nL : Nat) (lv : List (Nat × Value)) (i : Nat) (st : List Value) : Option (List (Nat × Value) × List Value) := match st with
  | .ref x :: r => if i < nL then some (pv_put1 lv i (.ref x), r) else none
  | .retAddr x :: r => if i < nL then some (pv_put1 lv i (.retAddr x), r) else none
  | .null :: r => if i < nL then some (pv_put1 lv i .null, r) else none
  | _ => none
def pv_inc (nL : Nat) (lv : List (Nat × Value)) (i : Nat) (n : Int) (st : List Value) : Option (List (Nat × Value) × List Value) := match pv_get lv i with
  | some (.int x) => if i < nL then some (pv_put1 lv i (.int (x + Int32.ofInt n)), st) else none
  | _ => none
/-- what turns locals too -/
def pv_s2 (nL : Nat) (ins : Instr) (lv : List (Nat × Value)) (st : List Value) : Option (List (Nat × Value) × List Value) := match ins with
  | .iload i => pv_ldi lv i st
  | .iload_n i => pv_ldi lv (i : Nat) st
  | .lload i => pv_ldl lv i st
  | .lload_n i => pv_ldl lv (i : Nat) st
  | .aload i => pv_lda lv i st
  | .aload_n i => pv_lda lv (i : Nat) st
  | .istore i => pv_sti nL lv i st
  | .istore_n i => pv_sti nL lv (i : Nat) st
  | .lstore i => pv_stl nL lv i st
  | .lstore_n i => pv_stl nL lv (i : Nat) st
  | .astore i => pv_sta nL lv i st
  | .astore_n i => pv_sta nL lv (i : Nat) st
  | .iinc i n => pv_inc nL lv i n st
  | _ => none
def pv_cmp (c : ClassFile.Cond) (x y : Int32) : Bool := match c with
  | .eq => decide (x = y)
  | .ne => !decide (x = y)
  | .lt => decide (x < y)
  | .ge => decide (y ≤ x)
  | .gt => decide (y < x)
  | .le => decide (x ≤ y)
/-- jumps: taken or not, the way, the stack -/
def pv_j (ins : Instr) (st : List Value) : Option (Bool × Int × List Value) := match ins with
  | .goto off => some (true, off, st)
  | .ifCond c off => match st with
    | .int x :: r => some (pv_cmp c x 0, off, r)
    | _ => none
  | .if_icmp c off => match st with
    | .int y :: .int x :: r => some (pv_cmp c x y, off, r)
    | _ => none
  | .ifnull off => match st with
    | .null :: r => some (true, off, r)
    | .ref _ :: r => some (false, off, r)
    | .retAddr _ :: r => some (false, off, r)
    | _ => none
  | .ifnonnull off => match st with
    | .null :: r => some (false, off, r)
    | .ref _ :: r => some (true, off, r)
    | .retAddr _ :: r => some (true, off, r)
    | _ => none
  | .tableswitch d lo hi offs => match st with
    | .int x :: r => if x.toInt < lo ∨ hi < x.toInt then some (true, d, r) else match offs[(x.toInt - lo).toNat]? with
      | some off => some (true, off, r)
      | none => none
    | _ => none
  | .lookupswitch d ps => match st with
    | .int x :: r => if (ps.toList.zip (ps.toList.drop 1)).all (fun (a, next) => a.1 < next.1) = true then some (true, Op.lookupswitch.offset ps.toList d x.toInt, r) else none
    | _ => none
  | _ => none
/-- the instruction's length; 0: it never goes on behind itself -/
def pv_len (ins : Instr) : Nat := match ins with
  | .iconst _ | .lconst _ | .aconst_null | .iadd | .isub | .imul | .iand | .ior | .ixor | .ishl | .ishr | .idiv | .irem => 1
  | .ladd | .lsub | .lmul | .land | .lor | .ldiv | .lrem | .lshl | .lshr | .lushr | .lcmp | .lneg | .l2i | .i2l | .i2b | .dup | .pop | .dup2 => 1
  | .iload_n _ | .lload_n _ | .aload_n _ | .istore_n _ | .lstore_n _ | .astore_n _ => 1
  | .iaload | .laload | .baload | .aaload | .iastore | .lastore | .bastore | .aastore | .arraylength => 1
  | .ireturn | .lreturn | .areturn | .return_ | .athrow => 1
  | .bipush _ | .iload _ | .lload _ | .aload _ | .istore _ | .lstore _ | .astore _ | .newarray _ | .ldc _ => 2
  | .sipush _ | .iinc _ _ | .goto _ | .ifCond _ _ | .if_icmp _ _ | .ifnull _ | .ifnonnull _ | .getfield _ | .putfield _ | .new _ | .anewarray _ => 3
  | .invokevirtual _ | .invokespecial _ | .invokestatic _ | .ldc2_w _ | .ldc_w _ => 3
  | _ => 0
/-! cells: (kind of array, length, contents) or (class, fields); a heap is whatever can be asked and set -/
abbrev pv_E : Type := (Nat × vp_A) ⊕ (Nat × List Value)
def pv_idx (j : Int32) (n : Nat) : Option Nat := if j < 0 ∨ n ≤ j.toNatClampNeg then none else some j.toNatClampNeg
def pv_akind (t : ArrayType) : Nat := match t with
  | .int => 0
  | .long => 1
  | .byte => 2
  | .boolean => 3
  | _ => 9
def pv_anew (t : ArrayType) (n : Nat) : vp_A := match t with
  | .long => (n, .inr (.inl fun _ => 0))
  | _ => (n, .inl fun _ => 0)
section PVM
variable {HT : Type} (G : HT → Nat → Option pv_E) (S : HT → Nat → pv_E → HT) (P : HT → pv_E → HT) (N : HT → Nat) (M : HT → Nat) (sc : Nat × (Nat → Int32)) (capC capS : Nat) (ar : Nat → Bool) (nw : Nat → List Value)
/-- a cell comes: where there is room -/
def pv_mk (h : HT) (x : pv_E) (n : Nat) (st : List Value) : Option (HT × List Value) := if N h < capC ∧ M h + n ≤ capS then some (P h x, .ref (N h) :: st) else none
def pv_getf (a1 a2 : Nat) (h : HT) (st : List Value) : Option (HT × List Value) := match st with
  | .ref i :: r => match G h i with
    | some (.inr (ci, fs)) => if ci = a1 then match fs[a2]? with
      | some v => some (h, v :: r)
      | none => none
      else none
    | _ => none
  | _ => none
def pv_putf (T : FieldType) (a1 a2 : Nat) (h : HT) (st : List Value) : Option (HT × List Value) := match st with
  | v :: .ref i :: r => match G h i with
    | some (.inr (ci, fs)) => if ci = a1 ∧ a2 < fs.length ∧ fs.length = (nw ci).length ∧ narrow T v = v ∧ fits T v = true then some (S h i (.inr (ci, fs.set a2 v)), r) else none
    | _ => none
  | _ => none
def pv_aldi (kd : Nat) (h : HT) (st : List Value) : Option (HT × List Value) := match st with
  | .int j :: .ref i :: r => match G h i with
    | some (.inl (k, n, .inl f)) => if k = kd then match pv_idx j n with
      | some q => some (h, .int (f q) :: r)
      | none => none
      else none
    | _ => none
  | .int j :: .retAddr 0 :: r => if kd = 0 then match pv_idx j sc.1 with
      | some q => some (h, .int (sc.2 q) :: r)
      | none => none
      else none
  | _ => none
def pv_aldb (h : HT) (st : List Value) : Option (HT × List Value) := match st with
  | .int j :: .ref i :: r => match G h i with
    | some (.inl (k, n, .inl f)) => if k = 2 ∨ k = 3 then match pv_idx j n with
      | some q => some (h, .int (f q) :: r)
      | none => none
      else none
    | _ => none
  | _ => none
def pv_aldl (h : HT) (st : List Value) : Option (HT × List Value) := match st with
  | .int j :: .ref i :: r => match G h i with
    | some (.inl (k, n, .inr (.inl f))) => if k = 1 then match pv_idx j n with
      | some q => some (h, .long (f q) :: r)
      | none => none
      else none
    | _ => none
  | _ => none
def pv_alda (h : HT) (st : List Value) : Option (HT × List Value) := match st with
  | .int j :: .ref i :: r => match G h i with
    | some (.inl (k, n, .inr (.inr (.inr (.inr f))))) => if 10 ≤ k ∧ ar (k - 10) = true then match pv_idx j n with
      | some q => some (h, va_rf (f q) :: r)
      | none => none
      else none
    | _ => none
  | _ => none
def pv_asti (h : HT) (st : List Value) : Option (HT × List Value) := match st with
  | .int x :: .int j :: .ref i :: r => match G h i with
    | some (.inl (k, n, .inl f)) => if k = 0 then match pv_idx j n with
      | some q => some (S h i (.inl (k, n, .inl (upd f q x))), r)
      | none => none
      else none
    | _ => none
  | _ => none
def pv_astb (h : HT) (st : List Value) : Option (HT × List Value) := match st with
  | .int x :: .int j :: .ref i :: r => match G h i with
    | some (.inl (k, n, .inl f)) => if k = 2 then match pv_idx j n with
      | some q => some (S h i (.inl (k, n, .inl (upd f q x.toInt8.toInt32))), r)
      | none => none
      else if k = 3 then match pv_idx j n with
      | some q => some (S h i (.inl (k, n, .inl (upd f q (x &&& 1)))), r)
      | none => none
      else none
    | _ => none
  | _ => none
def pv_astl (h : HT) (st : List Value) : Option (HT × List Value) := match st with
  | .long x :: .int j :: .ref i :: r => match G h i with
    | some (.inl (k, n, .inr (.inl f))) => if k = 1 then match pv_idx j n with
      | some q => some (S h i (.inl (k, n, .inr (.inl (vp_updL f q x)))), r)
      | none => none
      else none
    | _ => none
  | _ => none
def pv_asta (h : HT) (st : List Value) : Option (HT × List Value) := match st with
  | .ref v :: .int j :: .ref i :: r => match G h i with
    | some (.inl (k, n, .inr (.inr (.inr (.inr f))))) => match G h v with
      | some (.inr (ci, _)) => if k = 10 + ci ∧ ci < 90 ∧ ar ci = true then match pv_idx j n with
        | some q => some (S h i (.inl (k, n, .inr (.inr (.inr (.inr (va_up f q (some v))))))), r)
        | none => none
        else none
      | _ => none
    | _ => none
  | _ => none
def pv_alen (h : HT) (st : List Value) : Option (HT × List Value) := match st with
  | .ref i :: r => match G h i with
    | some (.inl (k, n, _)) => if k < 4 ∨ (10 ≤ k ∧ ar (k - 10) = true) then some (h, .int (Int32.ofNat n) :: r) else none
    | _ => none
  | .retAddr 0 :: r => some (h, .int (Int32.ofNat sc.1) :: r)
  | _ => none
def pv_newa (t : ArrayType) (h : HT) (st : List Value) : Option (HT × List Value) := match st with
  | .int n :: r => if n < 0 ∨ 10000000 < n.toNatClampNeg ∨ pv_akind t = 9 then none else pv_mk P N M capC capS h (.inl (pv_akind t, pv_anew t n.toNatClampNeg)) n.toNatClampNeg r
  | _ => none
def pv_newr (a1 : Nat) (h : HT) (st : List Value) : Option (HT × List Value) := match st with
  | .int n :: r => if n < 0 ∨ 10000000 < n.toNatClampNeg then none else pv_mk P N M capC capS h (.inl (10 + a1, n.toNatClampNeg, .inr (.inr (.inr (.inr fun _ => none))))) n.toNatClampNeg r
  | _ => none
/-- what asks or turns the heap; (a1, a2): what the instruction's link says -/
def pv_h (fty : Nat → Nat → FieldType) (ins : Instr) (a1 a2 : Nat) (h : HT) (st : List Value) : Option (HT × List Value) := match ins with
  | .getfield _ => pv_getf G a1 a2 h st
  | .putfield _ => pv_putf G S nw (fty a1 a2) a1 a2 h st
  | .iaload => pv_aldi G sc 0 h st
  | .baload => pv_aldb G h st
  | .laload => pv_aldl G h st
  | .aaload => pv_alda G ar h st
  | .iastore => pv_asti G S h st
  | .bastore => pv_astb G S h st
  | .lastore => pv_astl G S h st
  | .aastore => pv_asta G S ar h st
  | .arraylength => pv_alen G sc ar h st
  | .newarray t => pv_newa P N M capC capS t h st
  | .anewarray _ => pv_newr P N M capC capS a1 h st
  | .new _ => if a1 < 90 then pv_mk P N M capC capS h (.inr (a1, nw a1)) (nw a1).length st else none
  | _ => none
end PVM
