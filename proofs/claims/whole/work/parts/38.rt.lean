/-! runs, put together -/
/-- the run over the list heap -/
noncomputable def pr (sc : Nat × (Nat → Int32)) (n : Nat) : Nat → Nat → List pv_E → Nat → Nat → List (Nat × Value) → List Value → Option (List pv_E × pv_O) := pv_run pv_G pv_S pv_P pv_N pv_M sc 601024 7293034 pt_ar pt_nw pt_fty pt_cox pt_ax pt_nL pt_cst pt_rt pt_hs pt_rc (pt_xtA pv_G pv_S) n
/-- the run comes to this answer -/
def rn (sc : Nat × (Nat → Int32)) (fr lo : Nat) (h : List pv_E) (y pc : Nat) (lv : List (Nat × Value)) (st : List Value) (h' : List pv_E) (o : pv_O) : Prop := ∃ n, pr sc n fr lo h y pc lv st = some (h', o)
theorem pr_more {sc : Nat × (Nat → Int32)} {n n2 fr lo fr2 lo2 : Nat} {h h' : List pv_E} {y pc : Nat} {lv : List (Nat × Value)} {st : List Value} {o : pv_O} (hn : n ≤ n2) (hf : fr ≤ fr2) (hl : lo ≤ lo2) (hr : pr sc n fr lo h y pc lv st = some (h', o)) : pr sc n2 fr2 lo2 h y pc lv st = some (h', o) := ph_more hn hf hl hr
theorem rn_more {sc : Nat × (Nat → Int32)} {fr lo fr2 lo2 : Nat} {h h' : List pv_E} {y pc : Nat} {lv : List (Nat × Value)} {st : List Value} {o : pv_O} (hf : fr ≤ fr2) (hl : lo ≤ lo2) (hr : rn sc fr lo h y pc lv st h' o) : rn sc fr2 lo2 h y pc lv st h' o := hr.elim fun n e => ⟨n, pr_more (Nat.le_refl _) hf hl e⟩
/-- a straight piece, and what follows it -/
theorem rn_go {sc : Nat × (Nat → Int32)} {fr lo : Nat} {h h1 h' : List pv_E} {y pc pc1 : Nat} {lv lv1 : List (Nat × Value)} {st st1 : List Value} {o : pv_O} (k : Nat) (e : ∀ n, pr sc (n + k) fr lo h y pc lv st = pr sc n fr lo h1 y pc1 lv1 st1) (hr : rn sc fr lo h1 y pc1 lv1 st1 h' o) : rn sc fr lo h y pc lv st h' o := hr.elim fun n e1 => ⟨n + k, (e n).trans e1⟩
/-- a call that comes back, and what follows it -/
theorem rn_call {sc : Nat × (Nat → Int32)} {fr lo : Nat} {h h1 h' : List pv_E} {y pc : Nat} {lv : List (Nat × Value)} {st : List Value} {v : Option Value} {o : pv_O} {lo1 z : Nat} {as : List Value} {rest : List Value}
    (e : ∀ n, pr sc (n + 1) (fr + 1) lo h y pc lv st = (match pr sc n fr lo1 h z 0 (lv_args 0 as) [] with
      | some (h2, .inl w) => pr sc n (fr + 1) lo h2 y (pc + 3) lv (w.toList ++ rest)
      | some (h2, .inr a) => (match pv_exc pv_G h2 a with
        | some x => match pv_catch (pt_hs y) pc x with
          | some pc' => pr sc n (fr + 1) lo h2 y pc' lv [.ref a]
          | none => match pt_hs y with
            | [] => some (h2, .inr a)
            | _ => none
        | none => none)
      | none => none))
    (hc : rn sc fr lo1 h z 0 (lv_args 0 as) [] h1 (.inl v)) (hr : rn sc (fr + 1) lo h1 y (pc + 3) lv (v.toList ++ rest) h' o) : rn sc (fr + 1) lo h y pc lv st h' o := by
  obtain ⟨n1, e1⟩ := hc
  obtain ⟨n2, e2⟩ := hr
  refine ⟨n1 + n2 + 1, ?_⟩
  rw [e (n1 + n2), pr_more (Nat.le_add_right n1 n2) (Nat.le_refl _) (Nat.le_refl _) e1]
  exact pr_more (Nat.le_add_left n2 n1) (Nat.le_refl _) (Nat.le_refl _) e2
