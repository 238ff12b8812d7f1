/-! the typed machine: ints and places as Int, a flat memory; what refers where is known -/
abbrev tV : Type := Nat × Int
abbrev tD : Type := Int → Int → Int
def wr (D : tD) (a i v : Int) : tD := fun b j => if b = a ∧ j = i then v else D b j
def tcy (D : tD) (a sp d dp n : Int) : tD := fun b j => if b = d ∧ dp ≤ j ∧ j < dp + n then D a (sp + (j - dp)) else D b j
def w32 (x : Int) : Int := (x + 2147483648) % 4294967296 - 2147483648
def w64 (x : Int) : Int := (x + 9223372036854775808) % 18446744073709551616 - 9223372036854775808
def w8 (x : Int) : Int := (x + 128) % 256 - 128
def tia (x y : Int) : Int := (Int32.ofInt x &&& Int32.ofInt y).toInt
def tio (x y : Int) : Int := (Int32.ofInt x ||| Int32.ofInt y).toInt
def tix (x y : Int) : Int := (Int32.ofInt x ^^^ Int32.ofInt y).toInt
def tsl (x y : Int) : Int := (Int32.ofInt x <<< (Int32.ofInt y &&& 31)).toInt
def tsr (x y : Int) : Int := (Int32.ofInt x >>> (Int32.ofInt y &&& 31)).toInt
def tla (x y : Int) : Int := (Int64.ofInt x &&& Int64.ofInt y).toInt
def tlo (x y : Int) : Int := (Int64.ofInt x ||| Int64.ofInt y).toInt
def tlsl (x y : Int) : Int := (Int64.ofInt x <<< ((Int32.ofInt y).toInt64 &&& 63)).toInt
def tlsr (x y : Int) : Int := (Int64.ofInt x >>> ((Int32.ofInt y).toInt64 &&& 63)).toInt
def tlus (x y : Int) : Int := ((Int64.ofInt x).toUInt64 >>> ((Int32.ofInt y).toInt64.toUInt64 &&& Int64.toUInt64 63)).toInt64.toInt
def tlc (x y : Int) : Int := if x < y then -1 else if x = y then 0 else 1
/-- array lengths, strings, the script -/
noncomputable def ln (a : Int) : Int := (tln a.toNat : Nat)
def tstr (s : Int) : List Int32 := match pt_str[s.toNat]? with
  | some q => q.2.2
  | none => []
def tsn (s : Int) : Int := ((tstr s).length : Nat)
def tsc (s x : Int) : Int := ((tstr s).getD x.toNat 0).toInt
def tsv (sc : Nat × (Nat → Int32)) (x : Int) : Int := (sc.2 x.toNat).toInt
/-- locals, by rising numbers -/
def tget (l : List (Nat × tV)) (i : Nat) : Option tV := match l with
  | [] => none
  | q :: t => bif Nat.beq q.1 i then some q.2 else tget t i
def tins (i : Nat) (v : tV) (l : List (Nat × tV)) : List (Nat × tV) := match l with
  | [] => [(i, v)]
  | q :: t => bif Nat.blt q.1 i then q :: tins i v t else (bif Nat.beq q.1 i then (i, v) :: t else (i, v) :: q :: t)
def tdel (i : Nat) (l : List (Nat × tV)) : List (Nat × tV) := match l with
  | [] => []
  | q :: t => bif Nat.beq q.1 i then tdel i t else q :: tdel i t
def tput (i : Nat) (v : tV) (l : List (Nat × tV)) : List (Nat × tV) := match tget l (i - 1) with
  | some (1, _) => tins i v (tdel (i - 1) l)
  | _ => tins i v l
def thas (ks : List Nat) (i : Nat) : Bool := match ks with
  | [] => false
  | k :: t => bif Nat.beq k i then true else thas t i
def tkeep (ks : List Nat) (l : List (Nat × tV)) : List (Nat × tV) := match l with
  | [] => []
  | q :: t => bif thas ks q.1 then q :: tkeep ks t else tkeep ks t
def targs (n : Nat) (l : List tV) : List (Nat × tV) := match l with
  | [] => []
  | t :: r => (n, t) :: targs (bif Nat.beq t.1 1 then n + 2 else n + 1) r
def tcut (cs : List (Nat × List Nat)) (pc : Nat) : Option (List Nat) := match cs with
  | [] => none
  | q :: t => bif Nat.beq q.1 pc then some q.2 else tcut t pc
/-- a value is as a typed one says: 0 int, 1 long, 2 null, 3 the script, 4 a String, 5 a thrown cell, from 1000 on a cell of a kind -/
def vr (t : tV) (v : Value) : Prop := match t.1 with
  | 0 => -2147483648 ≤ t.2 ∧ t.2 ≤ 2147483647 ∧ v = .int (Int32.ofInt t.2)
  | 1 => -9223372036854775808 ≤ t.2 ∧ t.2 ≤ 9223372036854775807 ∧ v = .long (Int64.ofInt t.2)
  | 2 => v = .null
  | 3 => v = .retAddr 0
  | 4 => 0 ≤ t.2 ∧ t.2.toNat < pt_str.length ∧ v = .retAddr (t.2.toNat + 1)
  | 5 => ∃ b, v = .ref b
  | k + 6 => 0 ≤ t.2 ∧ t.2 < 2018 ∧ v = .ref t.2.toNat ∧ tkd t.2.toNat + 1000 = k + 6
def lr (lv : List (Nat × tV)) (lv' : List (Nat × Value)) : Prop := ∀ i t, tget lv i = some t → ∃ v, pv_get lv' i = some v ∧ vr t v
def sr (st : List tV) (st' : List Value) : Prop := match st, st' with
  | [], [] => True
  | t :: r, v :: r' => vr t v ∧ sr r r'
  | _, _ => False
/-- a field is as the memory says -/
def fdr (m : Nat × Int × Nat) (a d : Int) (v : Value) : Prop := match m.1 with
  | 0 => vr (0, d) v
  | 1 => vr (0, d) v ∧ 0 ≤ d ∧ d ≤ 1
  | 2 => vr (1, d) v
  | 3 => vr (m.2.2, a + m.2.1) v ∧ 1000 ≤ m.2.2
  | 4 => ((d = -1 ∧ v = .null) ∨ vr (m.2.2, d) v) ∧ 1000 ≤ m.2.2
  | 5 => vr (m.2.2, d) v ∧ 1000 ≤ m.2.2
  | _ => False
/-- a cell is as the memory says -/
def cer (x : Option pv_E) (D : tD) (a : Nat) : Prop := match tkd a with
  | 0 => ∃ f, x = some (.inl (0, tln a, .inl f)) ∧ ∀ j, j < tln a → vr (0, D a j) (.int (f j))
  | 1 => ∃ f, x = some (.inl (1, tln a, .inr (.inl f))) ∧ ∀ j, j < tln a → vr (1, D a j) (.long (f j))
  | 2 => ∃ f, x = some (.inl (2, tln a, .inl f)) ∧ ∀ j, j < tln a → vr (0, D a j) (.int (f j)) ∧ -128 ≤ D a j ∧ D a j ≤ 127
  | 3 => ∃ f, x = some (.inl (3, tln a, .inl f)) ∧ ∀ j, j < tln a → vr (0, D a j) (.int (f j)) ∧ 0 ≤ D a j ∧ D a j ≤ 1
  | k + 4 => if k + 4 < 200 then (∃ f, x = some (.inl (k + 4, tln a, .inr (.inr (.inr (.inr f))))) ∧ 10 ≤ k + 4 ∧ pt_ar (k + 4 - 10) = true ∧ ∀ j, j < tln a → vr (1190 + (k + 4), a + 1 + tsd (k + 4 - 10) * (j : Nat)) (va_rf (f j)))
    else ∃ fs, x = some (.inr (k + 4 - 200, fs)) ∧ fs.length = (pt_nw (k + 4 - 200)).length ∧ k + 4 - 200 < 90 ∧ ∀ i v, fs[i]? = some v → fdr (tfm (k + 4 - 200) i) a (D a (i : Nat)) v
/-- the heap is as the memory says; (-1, 0) counts what was thrown -/
def hr (h : List pv_E) (D : tD) : Prop := (0 ≤ D (-1) 0 ∧ h.length = 2018 + (D (-1) 0).toNat ∧ pv_M h = 96149 + 6 * (D (-1) 0).toNat) ∧ ∀ a, a < 2018 → cer (pv_G h a) D a
def rrl (c : Nat) (o : Option Value) (x : Int) : Prop := match c with
  | 9 => o = none ∧ x = 0
  | 6 => ∃ v, o = some v ∧ vr (0, x) v ∧ 0 ≤ x ∧ x ≤ 1
  | k => ∃ v, o = some v ∧ ((x = -1 ∧ v = .null ∧ 1000 ≤ k) ∨ vr (k, x) v)
def tpost (y : Nat) (h' : List pv_E) (o : pv_O) (K : Int → Prop) (E : Nat → Prop) : Prop := match o with
  | .inl v => ∃ x, rrl (trt y) v x ∧ K x
  | .inr b => ∃ e, pv_exc pv_G h' b = some e ∧ E e
section TWP
variable (sc : Nat × (Nat → Int32))
/-- from here the method comes to an end as said -/
def WP (y pc : Nat) (D : tD) (lv : List (Nat × tV)) (st : List tV) (K : tD → Int → Prop) (E : tD → Nat → Prop) : Prop :=
  sc.1 ≤ 2560 → ∀ (fr lo : Nat) (h : List pv_E) (lv' : List (Nat × Value)) (st' : List Value), tnf y ≤ fr → tnl y ≤ lo → hr h D → lr lv lv' → sr st st' →
    ∃ (n : Nat) (h' : List pv_E) (o : pv_O) (D' : tD), pr sc n fr lo h y pc lv' st' = some (h', o) ∧ hr h' D' ∧ tpost y h' o (K D') (E D')
def tbl (x : Int) (P : Prop) : Prop := if x = 0 then P else if x = 1 then P else False
def tk0 (pc : Nat) (off : Int) (P : Prop) : Prop := bif decide (0 ≤ (pc : Int) + off) then P else False
def tk (lo hi n : Int) (P : Prop) : Prop := bif decide (lo ≤ n) && decide (n ≤ hi) then P else False
def t_ii (f : Int → Int → Int) (st : List tV) (k : List tV → Prop) : Prop := match st with
  | (0, y) :: (0, x) :: r => k ((0, f x y) :: r)
  | _ => False
def t_ll (f : Int → Int → Int) (st : List tV) (k : List tV → Prop) : Prop := match st with
  | (1, y) :: (1, x) :: r => k ((1, f x y) :: r)
  | _ => False
def t_iid (f : Int → Int → Int) (st : List tV) (k : List tV → Prop) : Prop := match st with
  | (0, y) :: (0, x) :: r => if y = 0 then False else k ((0, f x y) :: r)
  | _ => False
def t_lld (f : Int → Int → Int) (st : List tV) (k : List tV → Prop) : Prop := match st with
  | (1, y) :: (1, x) :: r => if y = 0 then False else k ((1, f x y) :: r)
  | _ => False
def t_il (f : Int → Int → Int) (st : List tV) (k : List tV → Prop) : Prop := match st with
  | (0, y) :: (1, x) :: r => k ((1, f x y) :: r)
  | _ => False
def t_lcm (st : List tV) (k : List tV → Prop) : Prop := match st with
  | (1, y) :: (1, x) :: r => k ((0, tlc x y) :: r)
  | _ => False
def t_1i (t : Nat) (f : Int → Int) (st : List tV) (k : List tV → Prop) : Prop := match st with
  | (0, x) :: r => k ((t, f x) :: r)
  | _ => False
def t_1l (t : Nat) (f : Int → Int) (st : List tV) (k : List tV → Prop) : Prop := match st with
  | (1, x) :: r => k ((t, f x) :: r)
  | _ => False
def t_dup (st : List tV) (k : List tV → Prop) : Prop := match st with
  | t :: r => bif Nat.beq t.1 1 then False else k (t :: t :: r)
  | _ => False
def t_pop (st : List tV) (k : List tV → Prop) : Prop := match st with
  | t :: r => bif Nat.beq t.1 1 then False else k r
  | _ => False
def t_dup2 (st : List tV) (k : List tV → Prop) : Prop := match st with
  | t :: u :: r => bif Nat.beq t.1 1 then k (t :: t :: u :: r) else bif Nat.beq u.1 1 then False else k (t :: u :: t :: u :: r)
  | _ => False
def t_ldi (lv : List (Nat × tV)) (i : Nat) (k : tV → Prop) : Prop := match tget lv i with
  | some (0, x) => k (0, x)
  | _ => False
def t_ldl (lv : List (Nat × tV)) (i : Nat) (k : tV → Prop) : Prop := match tget lv i with
  | some (1, x) => k (1, x)
  | _ => False
def t_lda (lv : List (Nat × tV)) (i : Nat) (k : tV → Prop) : Prop := match tget lv i with
  | some (t, x) => bif Nat.blt 1 t then k (t, x) else False
  | _ => False
def t_sti (nL : Nat) (lv : List (Nat × tV)) (i : Nat) (st : List tV) (k : List (Nat × tV) → List tV → Prop) : Prop := match st with
  | (0, x) :: r => bif Nat.blt i nL then k (tput i (0, x) lv) r else False
  | _ => False
def t_stl (nL : Nat) (lv : List (Nat × tV)) (i : Nat) (st : List tV) (k : List (Nat × tV) → List tV → Prop) : Prop := match st with
  | (1, x) :: r => bif Nat.blt (i + 1) nL then k (tput i (1, x) (tdel (i + 1) lv)) r else False
  | _ => False
def t_sta (nL : Nat) (lv : List (Nat × tV)) (i : Nat) (st : List tV) (k : List (Nat × tV) → List tV → Prop) : Prop := match st with
  | (t, x) :: r => bif Nat.blt 1 t && Nat.blt i nL then k (tput i (t, x) lv) r else False
  | _ => False
def t_inc (nL : Nat) (lv : List (Nat × tV)) (i : Nat) (n : Int) (k : List (Nat × tV) → Prop) : Prop := match tget lv i with
  | some (0, x) => bif Nat.blt i nL then k (tput i (0, w32 (x + n)) lv) else False
  | _ => False
def tif (c : ClassFile.Cond) (x y : Int) (A B : Prop) : Prop := match c with
  | .eq => if x = y then A else B
  | .ne => if x = y then B else A
  | .lt => if x < y then A else B
  | .ge => if x < y then B else A
  | .gt => if y < x then A else B
  | .le => if y < x then B else A
def t_if (c : ClassFile.Cond) (st : List tV) (J F : List tV → Prop) : Prop := match st with
  | (0, x) :: r => tif c x 0 (J r) (F r)
  | _ => False
def t_icmp (c : ClassFile.Cond) (st : List tV) (J F : List tV → Prop) : Prop := match st with
  | (0, y) :: (0, x) :: r => tif c x y (J r) (F r)
  | _ => False
def t_null (st : List tV) (J F : List tV → Prop) : Prop := match st with
  | (t, _) :: r => bif Nat.beq t 2 then J r else bif Nat.blt 2 t then F r else False
  | _ => False
def t_sw (x k : Int) (l : List Int) (J : Int → Prop) (z : Prop) : Prop := match l with
  | [] => z
  | off :: t => if x = k then J off else t_sw x (k + 1) t J z
def t_lk (x : Int) (l : List (Int × Int)) (J : Int → Prop) (z : Prop) : Prop := match l with
  | [] => z
  | q :: t => if x = q.1 then J q.2 else t_lk x t J z
noncomputable def t_get (m : Nat × Int × Nat) (c i : Nat) (D : tD) (st : List tV) (k : List tV → Prop) : Prop := match st with
  | (t, a) :: r => bif Nat.beq t (1200 + c) && Nat.blt c 12 && Nat.blt i (tfn c) then (match m with
    | (0, _, _) => k ((0, D a i) :: r)
    | (1, _, _) => (0 ≤ D a i ∧ D a i ≤ 1 → k ((0, D a i) :: r))
    | (2, _, _) => k ((1, D a i) :: r)
    | (3, off, tg) => k ((tg, a + off) :: r)
    | (4, _, tg) => if D a i = -1 then k ((2, 0) :: r) else k ((tg, D a i) :: r)
    | (5, _, tg) => k ((tg, D a i) :: r)
    | _ => False) else False
  | _ => False
noncomputable def t_put (m : Nat × Int × Nat) (c i : Nat) (D : tD) (st : List tV) (k : tD → List tV → Prop) : Prop := match st with
  | (u, x) :: (t, a) :: r => bif Nat.beq t (1200 + c) && Nat.blt c 12 && Nat.blt i (tfn c) then (match m with
    | (0, _, _) => bif Nat.beq u 0 then k (wr D a i x) r else False
    | (1, _, _) => bif Nat.beq u 0 then tbl x (k (wr D a i x) r) else False
    | (2, _, _) => bif Nat.beq u 1 then k (wr D a i x) r else False
    | (4, _, tg) => bif Nat.beq u 2 then k (wr D a i (-1)) r else bif Nat.beq u tg then k (wr D a i x) r else False
    | _ => False) else False
  | _ => False
def t_ild (D : tD) (st : List tV) (k : List tV → Prop) : Prop := match st with
  | (0, x) :: (t, a) :: r => bif Nat.beq t 1000 then (0 ≤ x ∧ x < ln a) ∧ k ((0, D a x) :: r) else bif Nat.beq t 3 then (0 ≤ x ∧ x < (sc.1 : Nat)) ∧ (-2147483648 ≤ tsv sc x ∧ tsv sc x ≤ 2147483647 → k ((0, tsv sc x) :: r)) else False
  | _ => False
def t_bld (D : tD) (st : List tV) (k : List tV → Prop) : Prop := match st with
  | (0, x) :: (t, a) :: r => bif Nat.beq t 1002 then (0 ≤ x ∧ x < ln a) ∧ (-128 ≤ D a x ∧ D a x ≤ 127 → k ((0, D a x) :: r)) else bif Nat.beq t 1003 then (0 ≤ x ∧ x < ln a) ∧ (0 ≤ D a x ∧ D a x ≤ 1 → k ((0, D a x) :: r)) else False
  | _ => False
def t_lld8 (D : tD) (st : List tV) (k : List tV → Prop) : Prop := match st with
  | (0, x) :: (t, a) :: r => bif Nat.beq t 1001 then (0 ≤ x ∧ x < ln a) ∧ k ((1, D a x) :: r) else False
  | _ => False
def t_ald (D : tD) (st : List tV) (k : List tV → Prop) : Prop := match st with
  | (0, x) :: (t, a) :: r => bif Nat.ble 1010 t && Nat.blt t 1200 then (0 ≤ x ∧ x < ln a) ∧ k ((t + 190, a + 1 + tsd (t - 1010) * x) :: r) else False
  | _ => False
def t_ist (D : tD) (st : List tV) (k : tD → List tV → Prop) : Prop := match st with
  | (0, v) :: (0, x) :: (t, a) :: r => bif Nat.beq t 1000 then (0 ≤ x ∧ x < ln a) ∧ k (wr D a x v) r else False
  | _ => False
def t_bst (D : tD) (st : List tV) (k : tD → List tV → Prop) : Prop := match st with
  | (0, v) :: (0, x) :: (t, a) :: r => bif Nat.beq t 1002 then (0 ≤ x ∧ x < ln a) ∧ k (wr D a x (w8 v)) r else bif Nat.beq t 1003 then (0 ≤ x ∧ x < ln a) ∧ tbl v (k (wr D a x v) r) else False
  | _ => False
def t_lst (D : tD) (st : List tV) (k : tD → List tV → Prop) : Prop := match st with
  | (1, v) :: (0, x) :: (t, a) :: r => bif Nat.beq t 1001 then (0 ≤ x ∧ x < ln a) ∧ k (wr D a x v) r else False
  | _ => False
def t_len (st : List tV) (k : List tV → Prop) : Prop := match st with
  | (t, a) :: r => bif Nat.ble 1000 t && Nat.blt t 1200 then k ((0, ln a) :: r) else bif Nat.beq t 3 then k ((0, (sc.1 : Nat)) :: r) else False
  | _ => False
def t_ret (rt : Option FieldType) (c : Nat) (i : Instr) (st : List tV) (K : Int → Prop) : Prop := match i with
  | .return_ => match st with
    | [] => match rt with
      | none => bif Nat.beq c 9 then K 0 else False
      | _ => False
    | _ => False
  | .ireturn => match st with
    | [(0, x)] => match rt with
      | some .boolean => bif Nat.beq c 6 then tbl x (K x) else False
      | some .int => bif Nat.beq c 0 then K x else False
      | _ => False
    | _ => False
  | .lreturn => match st with
    | [(1, x)] => match rt with
      | some .long => bif Nat.beq c 1 then K x else False
      | _ => False
    | _ => False
  | .areturn => match st with
    | [(t, x)] => match rt with
      | some (.object _) => bif Nat.beq t 2 && Nat.ble 1000 c then K (-1) else bif Nat.beq t c && (Nat.beq c 4 || Nat.ble 1000 c) then K x else False
      | _ => False
    | _ => False
  | _ => False
def t_cst (v : Option Value) (k : tV → Prop) : Prop := match v with
  | some (.int x) => k (0, x.toInt)
  | some (.long x) => k (1, x.toInt)
  | some (.retAddr (n + 1)) => bif Nat.blt n 62 then k (4, (n : Nat)) else False
  | _ => False
def tcat1 (st : List tV) : Nat := match st with
  | [] => 0
  | t :: r => (bif Nat.beq t.1 1 then 2 else 1) + tcat1 r
/-- what comes back from a call -/
def t_bk (c : Nat) (x : Int) (k : List tV → Prop) : Prop := match c with
  | 9 => k []
  | 0 => k [(0, x)]
  | 6 => k [(0, x)]
  | 1 => k [(1, x)]
  | 4 => k [(4, x)]
  | c + 10 => if x = -1 then k [(2, 0)] else k [(c + 10, x)]
  | _ => False
def t_hnd (hs : List (Nat × Nat × Nat × Nat)) (pc e : Nat) (k : Nat → Prop) (z : Prop) : Prop := match hs with
  | [] => z
  | q :: t => bif Nat.ble q.1 pc && Nat.blt pc q.2.1 then (if e = q.2.2.2 then k q.2.2.1 else t_hnd t pc e k z) else t_hnd t pc e k z
def t_no (hs : List (Nat × Nat × Nat × Nat)) (z : Prop) : Prop := match hs with
  | [] => z
  | _ => False
noncomputable def t_rcv (kd z : Nat) (as : List tV) : Bool := match kd with
  | 0 => true
  | 1 => match as with
    | t :: _ => Nat.ble 1000 t.1
    | _ => false
  | 2 => match as with
    | t :: _ => Nat.beq t.1 (1200 + pt_rc z) && Nat.blt (pt_rc z) 90
    | _ => false
  | _ => false
/-- a call of one of our methods -/
def t_call (y pc kd z k : Nat) (D : tD) (lv : List (Nat × tV)) (st : List tV) (ih : tD → Nat → List (Nat × tV) → List tV → Prop) (E : tD → Nat → Prop) : Prop :=
  bif Nat.blt st.length k then False else bif t_rcv kd z (st.take k).reverse && Nat.ble (tnf z + 1) (tnf y) && Nat.ble (tcat1 (st.drop k) + (pt_nL z + 11) + tnl z) (tnl y) && Nat.ble (tcat1 (st.take k)) (pt_nL z) then
    WP sc z 0 D (targs 0 (st.take k).reverse) [] (fun D' x => t_bk (trt z) x (fun b => ih D' (pc + 3) lv (b ++ st.drop k))) (fun D' e => t_hnd (pt_hs y) pc e (fun pc' => ih D' pc' lv [(5, 0)]) (t_no (pt_hs y) (E D' e))) else False
/-- what the JDK's own do -/
def t_ext (y kd : Nat) (D : tD) (st : List tV) (k : tD → List tV → Prop) : Prop := match kd with
  | 5 => match st with
    | (4, s) :: r => bif Nat.ble 2 (tnf y) && Nat.ble (tcat1 r) 8 && Nat.ble 40 (tnl y) then k D ((0, tsn s) :: r) else False
    | _ => False
  | 6 => match st with
    | (0, x) :: (4, s) :: r => bif Nat.ble 4 (tnf y) && Nat.ble (tcat1 r) 8 && Nat.ble 85 (tnl y) then (0 ≤ x ∧ x < tsn s) ∧ (0 ≤ tsc s x ∧ tsc s x ≤ 127 → k D ((0, tsc s x) :: r)) else False
    | _ => False
  | 7 => match st with
    | (0, n) :: (0, dp) :: (t, d) :: (0, sp) :: (u, a) :: r => bif Nat.beq t 1002 && Nat.beq u 1002 && Nat.ble 1 (tnf y) && Nat.ble (tcat1 r + 40) (tnl y) then (0 ≤ n ∧ 0 ≤ sp ∧ 0 ≤ dp ∧ sp + n ≤ ln a ∧ dp + n ≤ ln d) ∧ k (tcy D a sp d dp n) r else False
    | _ => False
  | _ => False
def t_thr (y x : Nat) (D : tD) (st : List tV) (E : tD → Nat → Prop) : Prop := match pt_hs y with
  | [] => bif Nat.ble 90 x && Nat.ble x 93 && Nat.ble 6 (tnf y) && Nat.ble (tcat1 st + 82) (tnl y) then D (-1) 0 < 599000 ∧ E (wr D (-1) 0 (D (-1) 0 + 1)) x else False
  | _ => False
/-- a jump -/
def t_jmp (pc : Nat) (off : Int) (D : tD) (lv : List (Nat × tV)) (ih : tD → Nat → List (Nat × tV) → List tV → Prop) (st : List tV) : Prop :=
  bif decide (0 ≤ (pc : Int) + off) then ih D ((pc : Int) + off).toNat lv st else False
/-- one instruction -/
def tb (y : Nat) (K : tD → Int → Prop) (E : tD → Nat → Prop) (ih : tD → Nat → List (Nat × tV) → List tV → Prop) (D : tD) (pc : Nat) (lv : List (Nat × tV)) (st : List tV) : Prop := match pt_cox y pc with
  | none => False
  | some i => match i with
    | .iconst n => tk (-2147483648) 2147483647 n (ih D (pc + 1) lv ((0, n) :: st))
    | .bipush n => tk (-128) 127 n (ih D (pc + 2) lv ((0, n) :: st))
    | .sipush n => tk (-32768) 32767 n (ih D (pc + 3) lv ((0, n) :: st))
    | .lconst n => ih D (pc + 1) lv ((1, (n.val : Nat)) :: st)
    | .aconst_null => ih D (pc + 1) lv ((2, 0) :: st)
    | .iadd => t_ii (fun x y => w32 (x + y)) st (ih D (pc + 1) lv)
    | .isub => t_ii (fun x y => w32 (x - y)) st (ih D (pc + 1) lv)
    | .imul => t_ii (fun x y => w32 (x * y)) st (ih D (pc + 1) lv)
    | .iand => t_ii tia st (ih D (pc + 1) lv)
    | .ior => t_ii tio st (ih D (pc + 1) lv)
    | .ixor => t_ii tix st (ih D (pc + 1) lv)
    | .ishl => t_ii tsl st (ih D (pc + 1) lv)
    | .ishr => t_ii tsr st (ih D (pc + 1) lv)
    | .idiv => t_iid (fun x y => w32 (x.tdiv y)) st (ih D (pc + 1) lv)
    | .irem => t_iid (fun x y => x.tmod y) st (ih D (pc + 1) lv)
    | .ladd => t_ll (fun x y => w64 (x + y)) st (ih D (pc + 1) lv)
    | .lsub => t_ll (fun x y => w64 (x - y)) st (ih D (pc + 1) lv)
    | .lmul => t_ll (fun x y => w64 (x * y)) st (ih D (pc + 1) lv)
    | .land => t_ll tla st (ih D (pc + 1) lv)
    | .lor => t_ll tlo st (ih D (pc + 1) lv)
    | .ldiv => t_lld (fun x y => w64 (x.tdiv y)) st (ih D (pc + 1) lv)
    | .lrem => t_lld (fun x y => x.tmod y) st (ih D (pc + 1) lv)
    | .lshl => t_il tlsl st (ih D (pc + 1) lv)
    | .lshr => t_il tlsr st (ih D (pc + 1) lv)
    | .lushr => t_il tlus st (ih D (pc + 1) lv)
    | .lcmp => t_lcm st (ih D (pc + 1) lv)
    | .lneg => t_1l 1 (fun x => w64 (-x)) st (ih D (pc + 1) lv)
    | .l2i => t_1l 0 (fun x => w32 x) st (ih D (pc + 1) lv)
    | .i2l => t_1i 1 (fun x => x) st (ih D (pc + 1) lv)
    | .i2b => t_1i 0 (fun x => w8 x) st (ih D (pc + 1) lv)
    | .dup => t_dup st (ih D (pc + 1) lv)
    | .pop => t_pop st (ih D (pc + 1) lv)
    | .dup2 => t_dup2 st (ih D (pc + 1) lv)
    | .iload n => t_ldi lv n (fun t => ih D (pc + 2) lv (t :: st))
    | .iload_n n => t_ldi lv n.val (fun t => ih D (pc + 1) lv (t :: st))
    | .lload n => t_ldl lv n (fun t => ih D (pc + 2) lv (t :: st))
    | .lload_n n => t_ldl lv n.val (fun t => ih D (pc + 1) lv (t :: st))
    | .aload n => t_lda lv n (fun t => ih D (pc + 2) lv (t :: st))
    | .aload_n n => t_lda lv n.val (fun t => ih D (pc + 1) lv (t :: st))
    | .istore n => t_sti (pt_nL y) lv n st (ih D (pc + 2))
    | .istore_n n => t_sti (pt_nL y) lv n.val st (ih D (pc + 1))
    | .lstore n => t_stl (pt_nL y) lv n st (ih D (pc + 2))
    | .lstore_n n => t_stl (pt_nL y) lv n.val st (ih D (pc + 1))
    | .astore n => t_sta (pt_nL y) lv n st (ih D (pc + 2))
    | .astore_n n => t_sta (pt_nL y) lv n.val st (ih D (pc + 1))
    | .iinc i n => tk (-32768) 32767 n (t_inc (pt_nL y) lv i n (fun lv' => ih D (pc + 3) lv' st))
    | .goto off => t_jmp pc off D lv ih st
    | .ifCond c off => tk0 pc off (t_if c st (t_jmp pc off D lv ih) (ih D (pc + 3) lv))
    | .if_icmp c off => tk0 pc off (t_icmp c st (t_jmp pc off D lv ih) (ih D (pc + 3) lv))
    | .ifnull off => tk0 pc off (t_null st (t_jmp pc off D lv ih) (ih D (pc + 3) lv))
    | .ifnonnull off => tk0 pc off (t_null st (ih D (pc + 3) lv) (t_jmp pc off D lv ih))
    | .tableswitch d lo hi offs => match st with
      | (0, x) :: r => bif decide (hi = lo + (offs.toList.length : Nat) - 1) then t_sw x lo offs.toList (fun off => t_jmp pc off D lv ih r) (t_jmp pc d D lv ih r) else False
      | _ => False
    | .lookupswitch d ps => match st with
      | (0, x) :: r => bif (ps.toList.zip (ps.toList.drop 1)).all (fun (a, next) => a.1 < next.1) then t_lk x ps.toList (fun off => t_jmp pc off D lv ih r) (t_jmp pc d D lv ih r) else False
      | _ => False
    | .getfield q => t_get (tfm (pt_ax y (.getfield q)).1 (pt_ax y (.getfield q)).2.1) (pt_ax y (.getfield q)).1 (pt_ax y (.getfield q)).2.1 D st (ih D (pc + 3) lv)
    | .putfield q => t_put (tfm (pt_ax y (.putfield q)).1 (pt_ax y (.putfield q)).2.1) (pt_ax y (.putfield q)).1 (pt_ax y (.putfield q)).2.1 D st (fun D' st' => ih D' (pc + 3) lv st')
    | .iaload => t_ild sc D st (ih D (pc + 1) lv)
    | .baload => t_bld D st (ih D (pc + 1) lv)
    | .laload => t_lld8 D st (ih D (pc + 1) lv)
    | .aaload => t_ald D st (ih D (pc + 1) lv)
    | .iastore => t_ist D st (fun D' st' => ih D' (pc + 1) lv st')
    | .bastore => t_bst D st (fun D' st' => ih D' (pc + 1) lv st')
    | .lastore => t_lst D st (fun D' st' => ih D' (pc + 1) lv st')
    | .arraylength => t_len sc st (ih D (pc + 1) lv)
    | .ireturn => t_ret (pt_rt y) (trt y) .ireturn st (K D)
    | .lreturn => t_ret (pt_rt y) (trt y) .lreturn st (K D)
    | .areturn => t_ret (pt_rt y) (trt y) .areturn st (K D)
    | .return_ => t_ret (pt_rt y) (trt y) .return_ st (K D)
    | .ldc q => t_cst (pt_cst y (.ldc q)) (fun t => ih D (pc + 2) lv (t :: st))
    | .ldc_w q => t_cst (pt_cst y (.ldc_w q)) (fun t => ih D (pc + 3) lv (t :: st))
    | .ldc2_w q => t_cst (pt_cst y (.ldc2_w q)) (fun t => ih D (pc + 3) lv (t :: st))
    | .new q => t_thr y (pt_ax y (.new q)).1 D st E
    | .invokevirtual q => bif Nat.blt (pt_ax y (.invokevirtual q)).1 3 then t_call sc y pc (pt_ax y (.invokevirtual q)).1 (pt_ax y (.invokevirtual q)).2.1 (pt_ax y (.invokevirtual q)).2.2 D lv st ih E else t_ext y (pt_ax y (.invokevirtual q)).1 D st (fun D' st' => ih D' (pc + 3) lv st')
    | .invokespecial q => bif Nat.blt (pt_ax y (.invokespecial q)).1 3 then t_call sc y pc (pt_ax y (.invokespecial q)).1 (pt_ax y (.invokespecial q)).2.1 (pt_ax y (.invokespecial q)).2.2 D lv st ih E else False
    | .invokestatic q => bif Nat.blt (pt_ax y (.invokestatic q)).1 3 then t_call sc y pc (pt_ax y (.invokestatic q)).1 (pt_ax y (.invokestatic q)).2.1 (pt_ax y (.invokestatic q)).2.2 D lv st ih E else t_ext y (pt_ax y (.invokestatic q)).1 D st (fun D' st' => ih D' (pc + 3) lv st')
    | _ => False
/-- so many instructions, up to the cuts -/
def tw (y : Nat) (cs : List (Nat × List Nat)) (K : tD → Int → Prop) (E : tD → Nat → Prop) (n : Nat) : tD → Nat → List (Nat × tV) → List tV → Prop :=
  Nat.rec (motive := fun _ => tD → Nat → List (Nat × tV) → List tV → Prop) (fun _ _ _ _ => False) (fun _ ih D pc lv st => match tcut cs pc with
    | some ks => WP sc y pc D (tkeep ks lv) st K E
    | none => tb sc y K E ih D pc lv st) n
end TWP
