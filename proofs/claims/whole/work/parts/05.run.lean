/-! The plain machine's run: fuel, depth, heap, method, pc, locals, stack; its answer: a value or a cell thrown -/
def pv_catch (hs : List (Nat × Nat × Nat × Nat)) (pc x : Nat) : Option Nat := match hs with
  | [] => none
  | q :: t => if q.1 ≤ pc ∧ pc < q.2.1 ∧ q.2.2.2 = x then some q.2.2.1 else pv_catch t pc x
abbrev pv_O : Type := Option Value ⊕ Nat
section PVR
variable {HT : Type} (G : HT → Nat → Option pv_E) (S : HT → Nat → pv_E → HT) (P : HT → pv_E → HT) (N : HT → Nat) (M : HT → Nat) (sc : Nat × (Nat → Int32)) (capC capS : Nat) (ar : Nat → Bool) (nw : Nat → List Value) (fty : Nat → Nat → FieldType)
variable (co : Nat → Nat → Option Instr) (ax : Nat → Instr → Nat × Nat × Nat) (nL : Nat → Nat) (cst : Nat → Instr → Option Value) (rt : Nat → Option FieldType) (hs : Nat → List (Nat × Nat × Nat × Nat)) (rc : Nat → Nat) (xt : Nat → Nat → Nat → Nat → HT → List Value → Option (HT × List Value))
/-- the method is over with this answer -/
def pv_ret (ret : Option FieldType) (i : Instr) (st : List Value) : Option (Option Value) := match i with
  | .ireturn => match st with
    | [.int v] => match ret with
      | some t => if narrow t (.int v) = .int v then some (some (.int v)) else none
      | none => none
    | _ => none
  | .lreturn => match st with
    | [.long v] => if ret = some .long then some (some (.long v)) else none
    | _ => none
  | .areturn => match st with
    | [.ref a] => match ret with
      | some (.object _) => some (some (.ref a))
      | some (.array _) => some (some (.ref a))
      | _ => none
    | [.null] => match ret with
      | some (.object _) => some (some .null)
      | some (.array _) => some (some .null)
      | _ => none
    | [.retAddr a] => match ret with
      | some (.object _) => some (some (.retAddr a))
      | _ => none
    | _ => none
  | .return_ => match st with
    | [] => if ret = none then some none else none
    | _ => none
  | _ => none
def pv_isld (i : Instr) : Bool := match i with
  | .ldc _ | .ldc_w _ | .ldc2_w _ => true
  | _ => false
/-- an exception comes, and is thrown: new, dup, ldc, invokespecial, athrow in one step -/
def pv_isth (i : Instr) (a1 : Nat) : Bool := match i with
  | .new _ => Nat.ble 90 a1
  | _ => false
def pv_isiv (i : Instr) : Bool := match i with
  | .invokevirtual _ | .invokespecial _ | .invokestatic _ => true
  | _ => false
/-- a class of a thrown cell -/
def pv_exc (h : HT) (a : Nat) : Option Nat := match G h a with
  | some (.inr (x, _)) => if 90 ≤ x then some x else none
  | _ => none
/-- whom a call calls: the receiver is as it must be -/
def pv_recv (kd z : Nat) (h : HT) (as : List Value) : Bool := match kd with
  | 0 => true
  | 1 => match as with
    | .ref _ :: _ => true
    | _ => false
  | 2 => match as with
    | .ref i :: _ => match G h i with
      | some (.inr (ci, _)) => ci == rc z && Nat.blt ci 90
      | _ => false
    | _ => false
  | _ => false
/-- one instruction, and how the run goes on -/
def pv_body (ih : Nat → Nat → HT → Nat → Nat → List (Nat × Value) → List Value → Option (HT × pv_O)) (fr lo : Nat) (h : HT) (y pc : Nat) (lv : List (Nat × Value)) (st : List Value) : Option (HT × pv_O) := match co y pc with
  | none => none
  | some i => match pv_s2 (nL y) i lv st with
    | some (lv', st') => ih fr lo h y (pc + pv_len i) lv' st'
    | none => match pv_s1 i st with
      | some st' => ih fr lo h y (pc + pv_len i) lv st'
      | none => match pv_j i st with
        | some (tk, off, st') => if 0 ≤ (pc : Int) + off then (if tk = true then ih fr lo h y ((pc : Int) + off).toNat lv st' else ih fr lo h y (pc + 3) lv st') else none
        | none => match pv_h G S P N M sc capC capS ar nw fty i (ax y i).1 (ax y i).2.1 h st with
          | some (h', st') => ih fr lo h' y (pc + pv_len i) lv st'
          | none => match pv_ret (rt y) i st with
            | some v => some (h, .inl v)
            | none => match pv_isld i with
              | true => match cst y i with
                | some v => ih fr lo h y (pc + pv_len i) lv (v :: st)
                | none => none
              | false => match pv_isth i (ax y i).1 with
                | true => match hs y with
                  | [] => if N h < capC ∧ M h + (nw (ax y i).1).length ≤ capS ∧ 6 ≤ fr ∧ (st.map Value.category).sum + 82 ≤ lo then some (P h (.inr ((ax y i).1, nw (ax y i).1)), .inr (N h)) else none
                  | _ => none
                | false => match pv_isiv i with
                  | true => if 3 ≤ (ax y i).1 then (match xt (ax y i).1 (ax y i).2.1 fr lo h st with
                        | some (h', st') => ih fr lo h' y (pc + 3) lv st'
                        | none => none)
                    else if st.length < (ax y i).2.2 then none
                    else if pv_recv G rc (ax y i).1 (ax y i).2.1 h (st.take (ax y i).2.2).reverse = true ∧ ((st.drop (ax y i).2.2).map Value.category).sum + (nL (ax y i).2.1 + 11) ≤ lo ∧ (lg_sl (st.take (ax y i).2.2).reverse).length ≤ nL (ax y i).2.1 then (match fr with
                      | 0 => none
                      | fr' + 1 => match ih fr' (lo - (((st.drop (ax y i).2.2).map Value.category).sum + (nL (ax y i).2.1 + 11))) h (ax y i).2.1 0 (lv_args 0 (st.take (ax y i).2.2).reverse) [] with
                        | some (h', .inl v) => ih (fr' + 1) lo h' y (pc + 3) lv (v.toList ++ st.drop (ax y i).2.2)
                        | some (h', .inr a) => (match pv_exc G h' a with
                          | some x => match pv_catch (hs y) pc x with
                            | some pc' => ih (fr' + 1) lo h' y pc' lv [.ref a]
                            | none => match hs y with
                              | [] => some (h', .inr a)
                              | _ => none
                          | none => none)
                        | none => none)
                    else none
                  | false => none
def pv_run (n : Nat) : Nat → Nat → HT → Nat → Nat → List (Nat × Value) → List Value → Option (HT × pv_O) :=
  Nat.rec (motive := fun _ => Nat → Nat → HT → Nat → Nat → List (Nat × Value) → List Value → Option (HT × pv_O)) (fun _ _ _ _ _ _ _ => none) (fun _ ih => pv_body G S P N M sc capC capS ar nw fty co ax nL cst rt hs rc xt ih) n
end PVR
