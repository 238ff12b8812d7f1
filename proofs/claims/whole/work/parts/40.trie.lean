/-! a heap that reduces well in the kernel: a binary tree with its cells counted -/
noncomputable def tz (d : Nat) : Nat → Lean.RArray (Option pv_E) := Nat.rec (motive := fun _ => Nat → Lean.RArray (Option pv_E)) (fun _ => .leaf none) (fun k ih lo => .branch (lo + 2 ^ k) (ih lo) (ih (lo + 2 ^ k))) d
noncomputable def tg (t : Lean.RArray (Option pv_E)) (i : Nat) : Option pv_E := Lean.RArray.rec (motive := fun _ => Option pv_E) (fun v => v) (fun p _ _ l r => bif Nat.blt i p then l else r) t
noncomputable def ts (t : Lean.RArray (Option pv_E)) (i : Nat) (x : pv_E) : Lean.RArray (Option pv_E) := Lean.RArray.rec (motive := fun _ => Lean.RArray (Option pv_E)) (fun _ => .leaf (some x)) (fun p l r l' r' => bif Nat.blt i p then .branch p l' r else .branch p l r') t
abbrev TH : Type := Lean.RArray (Option pv_E) × Nat × Nat
noncomputable def TG (h : TH) (i : Nat) : Option pv_E := tg h.1 i
noncomputable def TS (h : TH) (i : Nat) (x : pv_E) : TH := (ts h.1 i x, h.2.1, h.2.2)
noncomputable def TP (h : TH) (x : pv_E) : TH := (ts h.1 h.2.1 x, h.2.1 + 1, h.2.2 + pv_sz x)
def pq_ok (o : Option (TH × pv_O)) : Nat := match o with
  | some (_, .inl (some (.int x))) => if x = 1 then 1 else 2
  | some (_, .inl _) => 3
  | some (_, .inr _) => 4
  | none => 0
