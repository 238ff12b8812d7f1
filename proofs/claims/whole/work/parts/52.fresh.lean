/-! the fresh heap: what the three constructors of the law leave -/
def D0 : tD := fun a i => if a = 1993 then 24 else if a = 1957 ∧ i = 3 then -1 else if a = 1968 ∧ i = 3 then -1 else if a = 1977 ∧ i = 46 then -1 else if a = 1955 ∧ i = 1 then -1 else if a = 1956 ∧ (i = 5 ∨ i = 6) then -1 else if a = 1957 ∧ i = 0 then 1 else if a = 1968 ∧ i = 0 then 1966 else 0
noncomputable def okv (m : Nat × Int × Nat) (a i : Nat) (v : Value) : Bool := match m.1 with
  | 0 => match v with
    | .int x => decide (x.toInt = D0 a i)
    | _ => false
  | 1 => match v with
    | .int x => decide (x.toInt = D0 a i) && decide (0 ≤ D0 a i) && decide (D0 a i ≤ 1)
    | _ => false
  | 2 => match v with
    | .long x => decide (x.toInt = D0 a i)
    | _ => false
  | 3 => match v with
    | .ref b => decide ((b : Int) = a + m.2.1) && Nat.blt b 2018 && Nat.beq (tkd b + 1000) m.2.2 && Nat.ble 1000 m.2.2
    | _ => false
  | 4 => match v with
    | .null => decide (D0 a i = -1) && Nat.ble 1000 m.2.2
    | _ => false
  | 5 => match v with
    | .ref b => decide ((b : Int) = D0 a i) && Nat.blt b 2018 && Nat.beq (tkd b + 1000) m.2.2 && Nat.ble 1000 m.2.2
    | _ => false
  | _ => false
noncomputable def okf (c a : Nat) (fs : List Value) : Nat → Bool := List.rec (motive := fun _ => Nat → Bool) (fun _ => true) (fun v _ ih i => okv (tfm c i) a i v && ih (i + 1)) fs
noncomputable def okz (a : Nat) : Int32 := bif Nat.beq a 1993 then 24 else 0
noncomputable def okc (el : Bool) (x : Option pv_E) (a : Nat) : Bool := match tkd a with
  | 0 => match x with
    | some (.inl (0, n, .inl f)) => Nat.beq n (tln a) && (bif el then (List.range n).all (fun j => decide (f j = okz a)) else true)
    | _ => false
  | 1 => match x with
    | some (.inl (1, n, .inr (.inl f))) => Nat.beq n (tln a) && (bif el then (List.range n).all (fun j => decide (f j = 0)) else true) && !Nat.beq a 1993
    | _ => false
  | 2 => match x with
    | some (.inl (2, n, .inl f)) => Nat.beq n (tln a) && (bif el then (List.range n).all (fun j => decide (f j = 0)) else true) && !Nat.beq a 1993
    | _ => false
  | 3 => match x with
    | some (.inl (3, n, .inl f)) => Nat.beq n (tln a) && (bif el then (List.range n).all (fun j => decide (f j = 0)) else true) && !Nat.beq a 1993
    | _ => false
  | k + 4 => bif Nat.blt (k + 4) 200 then (match x with
      | some (.inl (k2, n, .inr (.inr (.inr (.inr f))))) => bif el then true else Nat.beq k2 (k + 4) && Nat.beq n (tln a) && Nat.ble 10 (k + 4) && pt_ar (k + 4 - 10) && (List.range n).all (fun j => match f j with
        | some b => decide ((b : Int) = a + 1 + tsd (k + 4 - 10) * (j : Nat)) && Nat.blt b 2018 && Nat.beq (tkd b + 1000) (1190 + (k + 4))
        | none => false)
      | _ => false)
    else match x with
      | some (.inr (c, fs)) => bif el then true else Nat.beq c (k + 4 - 200) && Nat.beq fs.length (pt_nw c).length && Nat.blt c 90 && okf c a fs 0
      | _ => false
noncomputable def frun (n fr lo : Nat) (T : TH) (y : Nat) (lv : List (Nat × Value)) : Option (TH × pv_O) := pv_run TG TS TP TN TM (0, fun _ => 0) 601024 7293034 pt_ar pt_nw pt_fty ci1 pt_ax pt_nL pt_cst pt_rt pt_hs pt_rc (pt_xtA TG TS) n fr lo T y 0 lv []
noncomputable def fokA (el : Bool) (lo m : Nat) : Bool := match frun 20000 12 300 (TP (tz 12 0, 0, 0) (.inr (0, pt_nw 0))) 0 [(0, .ref 0)] with
  | some (T1, .inl none) => Nat.beq T1.2.1 1977 && Nat.beq T1.2.2 41708 && (List.range m).all (fun a => okc el (TG T1 (lo + a)) (lo + a))
  | _ => false
noncomputable def fokC : Bool := match frun 2000 12 300 (TP (tz 12 0, 1977, 41708) (.inr (11, pt_nw 11))) 165 [(0, .ref 1977)] with
  | some (T2, .inl none) => Nat.beq T2.2.1 2017 && Nat.beq T2.2.2 96148 && (List.range 40).all (fun a => okc true (TG T2 (a + 1977)) (a + 1977) && okc false (TG T2 (a + 1977)) (a + 1977))
  | _ => false
