/-! a heap that reduces well in the kernel: a binary tree, its leaves with their places, its cells counted -/
abbrev TL : Type := Lean.RArray (Option (Nat × pv_E))
noncomputable def tz (d : Nat) : Nat → TL := Nat.rec (motive := fun _ => Nat → TL) (fun _ => .leaf none) (fun k ih lo => .branch (lo + 2 ^ k) (ih lo) (ih (lo + 2 ^ k))) d
noncomputable def tg (t : TL) (i : Nat) : Option (Nat × pv_E) := Lean.RArray.rec (motive := fun _ => Option (Nat × pv_E)) (fun v => v) (fun p _ _ l r => bif Nat.blt i p then l else r) t
noncomputable def ts (t : TL) (i : Nat) (x : pv_E) : TL := Lean.RArray.rec (motive := fun _ => TL) (fun _ => .leaf (some (i, x))) (fun p l r l' r' => bif Nat.blt i p then .branch p l' r else .branch p l r') t
abbrev TH : Type := TL × Nat × Nat
noncomputable def TG (h : TH) (i : Nat) : Option pv_E := match tg h.1 i with
  | some q => bif Nat.beq q.1 i then some q.2 else none
  | none => none
noncomputable def TS (h : TH) (i : Nat) (x : pv_E) : TH := (ts h.1 i x, h.2.1, h.2.2)
noncomputable def TP (h : TH) (x : pv_E) : TH := (ts h.1 h.2.1 x, h.2.1 + 1, h.2.2 + pv_sz x)
def TN (h : TH) : Nat := h.2.1
def TM (h : TH) : Nat := h.2.2
theorem ts_self (t : TL) (i : Nat) (x : pv_E) : tg (ts t i x) i = some (i, x) := by
  induction t with
  | leaf v => rfl
  | branch p l r ihl ihr =>
    show tg (bif Nat.blt i p then .branch p (ts l i x) r else .branch p l (ts r i x)) i = _
    cases hb : Nat.blt i p with
    | true => show (bif Nat.blt i p then tg (ts l i x) i else tg r i) = _; rw [hb]; exact ihl
    | false => show (bif Nat.blt i p then tg l i else tg (ts r i x) i) = _; rw [hb]; exact ihr
theorem ts_other (t : TL) (i j : Nat) (x : pv_E) : tg (ts t i x) j = some (i, x) ∨ tg (ts t i x) j = tg t j := by
  induction t with
  | leaf v => exact Or.inl rfl
  | branch p l r ihl ihr =>
    have e0 : tg (.branch p l r) j = (bif Nat.blt j p then tg l j else tg r j) := rfl
    rw [e0]
    show tg (bif Nat.blt i p then .branch p (ts l i x) r else .branch p l (ts r i x)) j = _ ∨ tg (bif Nat.blt i p then .branch p (ts l i x) r else .branch p l (ts r i x)) j = _
    cases hb : Nat.blt i p with
    | true =>
      show (bif Nat.blt j p then tg (ts l i x) j else tg r j) = _ ∨ (bif Nat.blt j p then tg (ts l i x) j else tg r j) = _
      cases hc : Nat.blt j p with
      | true => exact ihl
      | false => exact Or.inr rfl
    | false =>
      show (bif Nat.blt j p then tg l j else tg (ts r i x) j) = _ ∨ (bif Nat.blt j p then tg l j else tg (ts r i x) j) = _
      cases hc : Nat.blt j p with
      | true => exact Or.inr rfl
      | false => exact ihr
theorem TG_set {t : TL} {n m n2 m2 i j : Nat} {x y : pv_E} (h : TG (ts t i x, n, m) j = some y) : (j = i ∧ y = x) ∨ (j ≠ i ∧ TG (t, n2, m2) j = some y) := by
  by_cases hj : j = i
  · subst hj
    unfold TG at h
    dsimp only at h
    rw [ts_self] at h
    have h2 : (bif Nat.beq j j then some x else none) = some y := h
    rw [show Nat.beq j j = true from Nat.beq_refl j] at h2
    exact Or.inl ⟨rfl, (Option.some.inj h2).symm⟩
  · refine Or.inr ⟨hj, ?_⟩
    unfold TG at h ⊢
    dsimp only at h ⊢
    rcases ts_other t i j x with e | e
    · rw [e] at h
      have h2 : (bif Nat.beq i j then some x else none) = some y := h
      cases hb : Nat.beq i j with
      | true => exact absurd (Nat.eq_of_beq_eq_true hb).symm hj
      | false => rw [hb] at h2; cases h2
    · rw [e] at h
      exact h
/-- the tree shows nothing but what the list has -/
def tr (a : TH) (h : List pv_E) : Prop := a.2.1 = pv_N h ∧ a.2.2 = pv_M h ∧ ∀ (i : Nat) (x : pv_E), TG a i = some x → pv_G h i = some x
theorem tr_R : ph_R TG TS TP TN TM pv_G pv_S pv_P pv_N pv_M tr := by
  refine ⟨fun a b i x hr hg => hr.2.2 i x hg, fun a b i x e hr hg hz => ?_, fun a b e hr => ?_, fun a b hr => hr.1, fun a b hr => hr.2.1⟩
  · have hb := hr.2.2 i x hg
    have hlt : i < b.length := (List.getElem?_eq_some_iff.mp hb).1
    refine ⟨?_, ?_, fun j y hj => ?_⟩
    · show a.2.1 = (b.set i e).length
      rw [List.length_set]; exact hr.1
    · show a.2.2 = pv_M (b.set i e)
      have h1 : pv_ct { frames := 0, cells := pv_N b, slots := pv_M b, locals := 0 } 0 0 (pv_S b i e) (pv_N b) (pv_M b) := pv_ct.set ⟨rfl, rfl, Nat.le_refl _, Nat.le_refl _⟩ hb hz
      have h2 := h1.2.1
      rw [hr.2.1]
      exact h2
    · rcases TG_set (n2 := a.2.1) (m2 := a.2.2) hj with ⟨rfl, rfl⟩ | ⟨hne, hg2⟩
      · show (b.set j y)[j]? = some y
        rw [List.getElem?_set]
        simp [hlt]
      · show (b.set i e)[j]? = some y
        rw [List.getElem?_set_ne (Ne.symm hne)]
        exact hr.2.2 j y hg2
  · have hn : a.2.1 = b.length := hr.1
    refine ⟨?_, ?_, fun j y hj => ?_⟩
    · show a.2.1 + 1 = (b ++ [e]).length
      rw [hn]; simp
    · show a.2.2 + pv_sz e = pv_M (pv_P b e)
      rw [pv_M_push, hr.2.1]
    · rcases TG_set (n2 := a.2.1) (m2 := a.2.2) hj with ⟨rfl, rfl⟩ | ⟨hne, hg2⟩
      · show (b ++ [y])[a.2.1]? = some y
        rw [hn]; simp
      · have h3 := hr.2.2 j y hg2
        have h4 : b[j]? = some y := h3
        show (b ++ [e])[j]? = some y
        rw [List.getElem?_append_left (List.getElem?_eq_some_iff.mp h4).1]
        exact h4
