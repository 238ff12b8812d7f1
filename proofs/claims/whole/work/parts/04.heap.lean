/-! The plain machine's heap against the machine's: cell number i lies at b + i -/
def pv_emA (b : Nat) (a : vp_A) : vp_A := match a.2 with
  | .inl f => (a.1, .inl f)
  | .inr (.inl f) => (a.1, .inr (.inl f))
  | .inr (.inr (.inl f)) => (a.1, .inr (.inr (.inl f)))
  | .inr (.inr (.inr (.inl f))) => (a.1, .inr (.inr (.inr (.inl f))))
  | .inr (.inr (.inr (.inr f))) => (a.1, .inr (.inr (.inr (.inr fun j => (f j).map (b + ·)))))
/-- the tables' numbers: array kinds, exceptions, classes and their slots -/
abbrev pv_T : Type := (Nat → ClassId) × (Nat → ClassId) × va_G
def pv_at1 (Z : pv_T) (b : Nat) (X : Nat → Nat) (q : Nat) (x : pv_E) (H : Heap) : Prop := match x with
  | .inl (k, a) => H[q]? = some (vp_cell (Z.1 k) (pv_emA b a))
  | .inr (ci, fs) => if ci < 90 then t_OB q (Z.2.2.1 ci) fs.length (Z.2.2.2 ci) H (vp_V (fs.map (pv_em b X))) else ∃ cell : Cell, H[q]? = some cell ∧ cell.cls = Z.2.1 ci ∧ cell.vm = .none
theorem pv_at1.kept {Z : pv_T} {b : Nat} {X : Nat → Nat} {q : Nat} {x : pv_E} {H H1 : Heap} (h : pv_at1 Z b X q x H) (e : H1[q]? = H[q]?) : pv_at1 Z b X q x H1 := by
  unfold pv_at1 at h ⊢
  split
  · rw [e]; exact h
  · rename_i ci fs
    dsimp only at h
    split
    · rename_i hc
      rw [if_pos hc] at h
      exact h.kept e
    · rename_i hc
      rw [if_neg hc] at h
      rw [e]; exact h
/-- the two heaps, and what lay below b -/
def pv_R (Z : pv_T) (b : Nat) (X : Nat → Nat) (Hb : Heap) (h : List pv_E) (H : Heap) : Prop := H.size = b + h.length ∧ (∀ (i : Nat) (x : pv_E), h[i]? = some x → pv_at1 Z b X (b + i) x H) ∧ ∀ q, q < b → H[q]? = Hb[q]?
theorem pv_R.lt {Z : pv_T} {b : Nat} {X : Nat → Nat} {Hb H : Heap} {h : List pv_E} {i : Nat} {x : pv_E} (hx : h[i]? = some x) : i < h.length := (List.getElem?_eq_some_iff.mp hx).1
theorem pv_R.set {Z : pv_T} {b : Nat} {X : Nat → Nat} {Hb H H1 : Heap} {h : List pv_E} (hR : pv_R Z b X Hb h H) {i : Nat} {x x' : pv_E} (hi : h[i]? = some x) (z : H1.size = H.size) (o : ∀ q : Nat, q ≠ b + i → H1[q]? = H[q]?) (hx : pv_at1 Z b X (b + i) x' H1) : pv_R Z b X Hb (h.set i x') H1 := by
  have hlt : i < h.length := (List.getElem?_eq_some_iff.mp hi).1
  refine ⟨by rw [z, hR.1, List.length_set], fun j y hj => ?_, fun q hq => (o q (by omega)).trans (hR.2.2 q hq)⟩
  by_cases hji : j = i
  · subst hji
    rw [List.getElem?_set_self hlt] at hj
    cases hj
    exact hx
  · rw [List.getElem?_set_ne (Ne.symm hji)] at hj
    exact (hR.2.1 j y hj).kept (o _ (by omega))
theorem pv_R.push {Z : pv_T} {b : Nat} {X : Nat → Nat} {Hb H H1 : Heap} {h : List pv_E} (hR : pv_R Z b X Hb h H) {x : pv_E} (z : H1.size = H.size + 1) (o : ∀ q : Nat, q < H.size → H1[q]? = H[q]?) (hx : pv_at1 Z b X H.size x H1) : pv_R Z b X Hb (h ++ [x]) H1 := by
  refine ⟨by rw [z, hR.1, List.length_append]; rfl, fun j y hj => ?_, fun q hq => (o q (by rw [hR.1]; omega)).trans (hR.2.2 q hq)⟩
  by_cases hl : j < h.length
  · rw [List.getElem?_append_left hl] at hj
    exact (hR.2.1 j y hj).kept (o _ (by rw [hR.1]; omega))
  · rw [List.getElem?_append_right (by omega)] at hj
    have hz : j - h.length < 1 := (List.getElem?_eq_some_iff.mp hj).1
    have hj0 : j = h.length := by omega
    subst hj0
    rw [Nat.sub_self] at hj
    cases hj
    rw [← hR.1]
    exact hx
/-- the list of cells as a heap -/
def pv_G (h : List pv_E) (i : Nat) : Option pv_E := h[i]?
def pv_S (h : List pv_E) (i : Nat) (x : pv_E) : List pv_E := h.set i x
def pv_P (h : List pv_E) (x : pv_E) : List pv_E := h ++ [x]
def pv_N (h : List pv_E) : Nat := h.length
def pv_sz (x : pv_E) : Nat := match x with
  | .inl a => a.2.1
  | .inr o => o.2.length
def pv_M (h : List pv_E) : Nat := (h.map pv_sz).sum
theorem pv_M_push (h : List pv_E) (x : pv_E) : pv_M (pv_P h x) = pv_M h + pv_sz x := by simp [pv_M, pv_P]
theorem pv_M_set {h : List pv_E} {i : Nat} {x x' : pv_E} (hi : pv_G h i = some x) (hs : pv_sz x' = pv_sz x) : pv_M (pv_S h i x') = pv_M h := by
  unfold pv_G at hi
  unfold pv_M pv_S
  rw [List.map_set, hs]
  have e : (h.map pv_sz)[i]? = some (pv_sz x) := by rw [List.getElem?_map, hi]; rfl
  obtain ⟨hl, he⟩ := List.getElem?_eq_some_iff.mp e
  rw [← he, List.set_getElem_self]
theorem pv_N_set (h : List pv_E) (i : Nat) (x : pv_E) : pv_N (pv_S h i x) = pv_N h := by simp [pv_N, pv_S]
theorem pv_N_push (h : List pv_E) (x : pv_E) : pv_N (pv_P h x) = pv_N h + 1 := by simp [pv_N, pv_P]
/-- what the invocation has made so far, and its room -/
def pv_ct (R : Room) (n0 m0 : Nat) (h : List pv_E) (cells slots : Nat) : Prop := cells + n0 = pv_N h ∧ slots + m0 = pv_M h ∧ cells ≤ R.cells ∧ slots ≤ R.slots
theorem pv_ct.set {R : Room} {n0 m0 cells slots : Nat} {h : List pv_E} (hc : pv_ct R n0 m0 h cells slots) {i : Nat} {x x' : pv_E} (hi : pv_G h i = some x) (hs : pv_sz x' = pv_sz x) : pv_ct R n0 m0 (pv_S h i x') cells slots := by
  refine ⟨?_, ?_, hc.2.2⟩
  · rw [pv_N_set]; exact hc.1
  · rw [pv_M_set hi hs]; exact hc.2.1
theorem pv_ct.push {R : Room} {n0 m0 cells slots capC capS n : Nat} {h : List pv_E} (hc : pv_ct R n0 m0 h cells slots) {x : pv_E} (hn : pv_sz x = n) (h1 : pv_N h < capC) (h2 : pv_M h + n ≤ capS) (hcC : capC ≤ R.cells + n0) (hcS : capS ≤ R.slots + m0) : cells + 1 ≤ R.cells ∧ slots + n ≤ R.slots ∧ pv_ct R n0 m0 (pv_P h x) (cells + 1) (slots + n) := by
  obtain ⟨q1, q2, q3, q4⟩ := hc
  refine ⟨by omega, by omega, by rw [pv_N_push]; omega, by rw [pv_M_push, hn]; omega, by omega, by omega⟩
theorem pv_idx_some {j : Int32} {n q : Nat} (h : pv_idx j n = some q) : ¬ (j < 0 ∨ n ≤ j.toNatClampNeg) ∧ q = j.toNatClampNeg ∧ q < n := by
  unfold pv_idx at h
  split at h
  · cases h
  · rename_i hc
    cases h
    exact ⟨hc, rfl, Nat.not_le.mp fun q => hc (Or.inr q)⟩
section PVH
variable (p : Program) (l : Launch) (e : Env) (R : Room) (s : State) (m : MethodId) (args : Array Value) (below : List Frame) (meth : Method) (c : Code)
def pv_rG (pc : Nat) (cC : ClassId) (sl : Nat) : Prop := ∀ (H : Heap) (locs : List Loc) (cells slots : Nat) (Q : State → Prop) (ls : Array Slot) (rest : List Value) (a : Nat) (cell : Cell) (v : Value),
  H[a]? = some cell → cell.cls = cC → cell.vm = .none → cell.slots[sl]? = some v → W p l e R s m args below meth c H locs cells slots Q (F0 m (pc + 3) ls (v :: rest)) → W p l e R s m args below meth c H locs cells slots Q (F0 m pc ls (.ref a :: rest))
def pv_rP (pc : Nat) (cC : ClassId) (sl : Nat) (ty : FieldType) : Prop := ∀ (H : Heap) (locs : List Loc) (cells slots : Nat) (Q : State → Prop) (ls : Array Slot) (rest : List Value) (a : Nat) (cell : Cell) (v : Value),
  H[a]? = some cell → cell.cls = cC → cell.vm = .none → sl < cell.slots.size → narrow ty v = v → fits ty v = true →
  (∀ H' : Heap, H'[a]? = some (cell.setSlot sl v) → H'.size = H.size → (∀ q, q ≠ a → H'[q]? = H[q]?) → W p l e R s m args below meth c H' (locs ++ [⟨a, sl⟩]) cells slots Q (F0 m (pc + 3) ls rest)) →
  W p l e R s m args below meth c H locs cells slots Q (F0 m pc ls (v :: .ref a :: rest))
def pv_rN (pc n : Nat) (K : Nat → Heap → Prop) : Prop := ∀ (H : Heap) (locs : List Loc) (cells slots : Nat) (Q : State → Prop) (ls : Array Slot) (rest : List Value), cells + 1 ≤ R.cells → slots + n ≤ R.slots →
  (∀ H' : Heap, H'.size = H.size + 1 → (∀ q, q < H.size → H'[q]? = H[q]?) → K H.size H' → W p l e R s m args below meth c H' locs (cells + 1) (slots + n) Q (F0 m (pc + 3) ls (.ref H.size :: rest))) →
  W p l e R s m args below meth c H locs cells slots Q (F0 m pc ls rest)
/-- an array comes: its kind's number in the tables -/
def pv_rA (pc len : Nat) (cA : ClassId) (dv : Value) : Prop := ∀ (H : Heap) (locs : List Loc) (cells slots : Nat) (Q : State → Prop) (ls : Array Slot) (rest : List Value) (n : Int32), ¬ n < 0 → n.toNatClampNeg ≤ 10000000 → cells + 1 ≤ R.cells → slots + n.toNatClampNeg ≤ R.slots →
  (∀ H' : Heap, H'.size = H.size + 1 → (∀ q, q < H.size → H'[q]? = H[q]?) → H'[H.size]? = some (arrV cA n.toNatClampNeg (fun _ => dv)) → W p l e R s m args below meth c H' locs (cells + 1) (slots + n.toNatClampNeg) Q (F0 m (pc + len) ls (.ref H.size :: rest))) →
  W p l e R s m args below meth c H locs cells slots Q (F0 m pc ls (.int n :: rest))
/-- what the instruction at pc needs of the tables -/
def pv_row (Z : pv_T) (b : Nat) (X : Nat → Nat) (fty : Nat → Nat → FieldType) (nw : Nat → List Value) (pc : Nat) (ins : Instr) (a1 a2 : Nat) : Prop := match ins with
  | .getfield _ => a1 < 90 ∧ pv_rG p l e R s m args below meth c pc (Z.2.2.1 a1) (Z.2.2.2 a1 a2)
  | .putfield _ => a1 < 12 ∧ pv_rP p l e R s m args below meth c pc (Z.2.2.1 a1) (Z.2.2.2 a1 a2) (fty a1 a2)
  | .new _ => a1 < 90 → pv_rN p l e R s m args below meth c pc (nw a1).length (fun q H => pv_at1 Z b X q (.inr (a1, nw a1)) H)
  | .newarray t => pv_rA p l e R s m args below meth c pc 2 (Z.1 (pv_akind t)) (defaultValue (newarray.typeOf t))
  | .anewarray _ => pv_rA p l e R s m args below meth c pc 3 (Z.1 (10 + a1)) .null
  | _ => True
end PVH
def pv_aty (k : Nat) : FieldType := if k = 0 then .int else if k = 1 then .long else if k = 2 then .byte else .boolean
/-- what the tables say of the classes: the slots of a class are apart; array classes -/
def pv_tab (Z : pv_T) (nm : Nat → String) (ar : Nat → Bool) (nw : Nat → List Value) (s : State) : Prop :=
  (∀ k, k < 4 → ArrOfT s (Z.1 k) (pv_aty k)) ∧
  (∀ ci i j, ci < 12 → i < (nw ci).length → j < (nw ci).length → i ≠ j → Z.2.2.2 ci i ≠ Z.2.2.2 ci j) ∧
  ∀ ci, ar ci = true → ArrOfT s (Z.1 (10 + ci)) (.object (nm ci)) ∧ ∃ (kA kC : Class), s.vm.classes[Z.1 (10 + ci)]? = some kA ∧ kA.kind = .array (Z.2.2.1 ci) (.object (nm ci)) ∧ s.vm.classes[Z.2.2.1 ci]? = some kC ∧ s.vm.assignable (Z.2.2.1 ci) (Z.2.2.1 ci) = true
section PVI
variable {p : Program} {l : Launch} {e : Env} {R : Room} {s : State} {m : MethodId} {args : Array Value} {below : List Frame} {meth : Method} {c : Code} {H : Heap} {locs : List Loc} {cells slots : Nat} {Q : State → Prop}
variable {cc : ByteArray} {pc : Nat} {ls : Array Slot} {b : Nat} {X : Nat → Nat} {Z : pv_T} {Hb : Heap} {nm : Nat → String} {ar : Nat → Bool} {nw : Nat → List Value} {sc : Nat × (Nat → Int32)} {capC capS n0 m0 : Nat}
/-- how the walk goes on behind an instruction: the heap's picture is h', the frame stands at pc', the stack is st' -/
def pv_on (p : Program) (l : Launch) (e : Env) (R : Room) (s : State) (m : MethodId) (args : Array Value) (below : List Frame) (meth : Method) (c : Code) (Q : State → Prop) (Z : pv_T) (b : Nat) (X : Nat → Nat) (Hb : Heap) (n0 m0 : Nat) (ls : Array Slot) (pc' : Nat) (h' : List pv_E) (st' : List Value) : Prop :=
  ∀ (H' : Heap) (locs' : List Loc) (cells' slots' : Nat), pv_R Z b X Hb h' H' → (∀ q ∈ locs', b ≤ q.base) → pv_ct R n0 m0 h' cells' slots' → W p l e R s m args below meth c H' locs' cells' slots' Q (F0 m pc' ls (st'.map (pv_em b X)))
theorem pv_locs {b a i : Nat} {locs : List Loc} (h : ∀ q ∈ locs, b ≤ q.base) (ha : b ≤ a) : ∀ q ∈ locs ++ [(⟨a, i⟩ : Loc)], b ≤ q.base := by
  intro q hq
  rcases List.mem_append.mp hq with h1 | h1
  · exact h q h1
  · rw [List.mem_singleton.mp h1]; exact ha
/-- a cell comes -/
theorem pv_mk_some {h h' : List pv_E} {x : pv_E} {n : Nat} {st st' : List Value} (hh : pv_mk pv_P pv_N pv_M capC capS h x n st = some (h', st')) : pv_N h < capC ∧ pv_M h + n ≤ capS ∧ h' = pv_P h x ∧ st' = .ref (pv_N h) :: st := by
  unfold pv_mk at hh
  split at hh
  · rename_i hc
    cases hh
    exact ⟨hc.1, hc.2, rfl, rfl⟩
  · cases hh
theorem pv_getf_ok {a1 a2 : Nat} {h h' : List pv_E} {st st' : List Value} (hh : pv_getf pv_G a1 a2 h st = some (h', st')) (hR : pv_R Z b X Hb h H) (hlt : a1 < 90) (row : pv_rG p l e R s m args below meth c pc (Z.2.2.1 a1) (Z.2.2.2 a1 a2)) (hlo : ∀ q ∈ locs, b ≤ q.base) (hc : pv_ct R n0 m0 h cells slots)
    (k : pv_on p l e R s m args below meth c Q Z b X Hb n0 m0 ls (pc + 3) h' st') : W p l e R s m args below meth c H locs cells slots Q (F0 m pc ls (st.map (pv_em b X))) := by
  unfold pv_getf at hh
  split at hh
  · rename_i i r
    split at hh
    · rename_i ci fs hg
      split at hh
      · rename_i hci
        subst hci
        split at hh
        · rename_i v hv
          cases hh
          have h1 := hR.2.1 i _ hg
          unfold pv_at1 at h1
          dsimp only at h1
          rw [if_pos hlt] at h1
          obtain ⟨cell, q1, q2, q3, q4⟩ := h1
          have hl : a2 < fs.length := (List.getElem?_eq_some_iff.mp hv).1
          have q5 := q4 a2 hl
          have e5 : vp_V (fs.map (pv_em b X)) a2 = pv_em b X v := by
            unfold vp_V
            rw [List.getD_eq_getElem?_getD, List.getElem?_map, hv]
            rfl
          rw [e5] at q5
          exact row H locs cells slots Q ls (r.map (pv_em b X)) (b + i) cell (pv_em b X v) q1 q2 q3 q5 (k H locs cells slots hR hlo hc)
        · cases hh
      · cases hh
    · cases hh
  · cases hh
theorem pv_em_narrow {T : FieldType} {v : Value} (h : narrow T v = v) : narrow T (pv_em b X v) = pv_em b X v := by
  cases v <;> first | exact h | (cases T <;> rfl)
theorem pv_em_fits {T : FieldType} {v : Value} (h : fits T v = true) : fits T (pv_em b X v) = true := by
  cases v <;> first | exact h | (cases T <;> first | rfl | (exact absurd h (by simp [fits])))
theorem pv_putf_ok {T : FieldType} {a1 a2 : Nat} {h h' : List pv_E} {st st' : List Value} (hh : pv_putf pv_G pv_S nw T a1 a2 h st = some (h', st')) (hR : pv_R Z b X Hb h H) (hT : pv_tab Z nm ar nw s) (hlt0 : a1 < 12) (row : pv_rP p l e R s m args below meth c pc (Z.2.2.1 a1) (Z.2.2.2 a1 a2) T) (hlo : ∀ q ∈ locs, b ≤ q.base) (hc : pv_ct R n0 m0 h cells slots)
    (k : pv_on p l e R s m args below meth c Q Z b X Hb n0 m0 ls (pc + 3) h' st') : W p l e R s m args below meth c H locs cells slots Q (F0 m pc ls (st.map (pv_em b X))) := by
  unfold pv_putf at hh
  split at hh
  · rename_i v i r
    split at hh
    · rename_i ci fs hg
      split at hh
      · rename_i hcd
        obtain ⟨hci, hl, hlen, hn, hf⟩ := hcd
        subst hci
        cases hh
        have hlt : ci < 90 := by omega
        have h1 := hR.2.1 i _ hg
        unfold pv_at1 at h1
        dsimp only at h1
        rw [if_pos hlt] at h1
        obtain ⟨cell, q1, q2, q3, q4⟩ := h1
        have q5 := q4 a2 hl
        refine row H locs cells slots Q ls (st'.map (pv_em b X)) (b + i) cell (pv_em b X v) q1 q2 q3 (k2_hasslot q5) (pv_em_narrow hn) (pv_em_fits hf) fun H' e1 e2 e3 => ?_
        refine k H' _ cells slots (hR.set hg e2 e3 ?_) (pv_locs hlo (by omega)) (hc.set hg (by simp [pv_sz]))
        unfold pv_at1
        dsimp only
        rw [if_pos hlt, List.length_set]
        have hap : ∀ x y, x < fs.length → y < fs.length → x ≠ y → Z.2.2.2 ci x ≠ Z.2.2.2 ci y := fun x y hx hy => hT.2.1 ci x y hlt0 (by rw [← hlen]; exact hx) (by rw [← hlen]; exact hy)
        refine t_OB.to (V := updV (vp_V (fs.map (pv_em b X))) a2 (pv_em b X v)) ⟨_, e1, q2, q3, t_set q4 hap hl _⟩ (fun j _ => ?_)
        rw [vp_updV_set (by rw [List.length_map]; exact hl), List.map_set]
      · cases hh
    · cases hh
  · cases hh
theorem pv_acell {k n : Nat} {f : Nat → Int32} {h : List pv_E} {i : Nat} (hR : pv_R Z b X Hb h H) (hg : pv_G h i = some (.inl (k, n, .inl f))) : H[b + i]? = some (arrV (Z.1 k) n (fun j => .int (f j))) := hR.2.1 i _ hg
theorem pv_lcell {k n : Nat} {f : Nat → Int64} {h : List pv_E} {i : Nat} (hR : pv_R Z b X Hb h H) (hg : pv_G h i = some (.inl (k, n, .inr (.inl f)))) : H[b + i]? = some (arrV (Z.1 k) n (fun j => .long (f j))) := hR.2.1 i _ hg
theorem pv_rcell {k n : Nat} {f : Nat → Option Nat} {h : List pv_E} {i : Nat} (hR : pv_R Z b X Hb h H) (hg : pv_G h i = some (.inl (k, n, .inr (.inr (.inr (.inr f)))))) : H[b + i]? = some (arrV (Z.1 k) n (fun j => va_rf ((f j).map (b + ·)))) := hR.2.1 i _ hg
theorem pv_rf_em (r : Option Nat) : pv_em b X (va_rf r) = va_rf (r.map (b + ·)) := by cases r <;> rfl
theorem pv_aldi_ok {h h' : List pv_E} {st st' : List Value} (hx : p.tables.exec = Jvm.exec) (hb : c.code = cc) (hdg : decode cc pc = .ok (.iaload, 1)) (hh : pv_aldi pv_G sc 0 h st = some (h', st')) (hR : pv_R Z b X Hb h H) (hT : pv_tab Z nm ar nw s) (hsc : va_X (X 0) sc.1 sc.2 s Hb ∧ X 0 < b) (hlo : ∀ q ∈ locs, b ≤ q.base) (hc : pv_ct R n0 m0 h cells slots)
    (k : pv_on p l e R s m args below meth c Q Z b X Hb n0 m0 ls (pc + 1) h' st') : W p l e R s m args below meth c H locs cells slots Q (F0 m pc ls (st.map (pv_em b X))) := by
  unfold pv_aldi at hh
  split at hh
  · rename_i j i r
    split at hh
    · rename_i kd n f hg
      split at hh
      · rename_i hk
        subst hk
        split at hh
        · rename_i q hq
          cases hh
          obtain ⟨g1, rfl, g3⟩ := pv_idx_some hq
          exact W.iald (v := .int (f j.toNatClampNeg)) hx hb (pv_acell hR hg) (hT.1 0 (by omega) n (fun j => .int (f j))) (fun q => by cases q) (by rw [arrV_size]; exact g1) (by rw [arrV_read _ _ g3]) rfl rfl hdg (k H locs cells slots hR hlo hc)
        · cases hh
      · cases hh
    · cases hh
  · rename_i j r
    rw [if_pos rfl] at hh
    split at hh
    · rename_i q hq
      cases hh
      obtain ⟨g1, rfl, g3⟩ := pv_idx_some hq
      obtain ⟨⟨scr, s1, s2, s3, s4, s5⟩, hlt⟩ := hsc
      have s1' : H[X 0]? = some scr := (hR.2.2 _ hlt).trans s1
      exact W.iald (v := .int (sc.2 j.toNatClampNeg)) hx hb s1' s2 s3 (by rw [s4]; exact g1) (s5 _ g3) rfl rfl hdg (k H locs cells slots hR hlo hc)
    · cases hh
  · cases hh
theorem pv_aldb_ok {h h' : List pv_E} {st st' : List Value} (hx : p.tables.exec = Jvm.exec) (hb : c.code = cc) (hdg : decode cc pc = .ok (.baload, 1)) (hh : pv_aldb pv_G h st = some (h', st')) (hR : pv_R Z b X Hb h H) (hT : pv_tab Z nm ar nw s) (hlo : ∀ q ∈ locs, b ≤ q.base) (hc : pv_ct R n0 m0 h cells slots)
    (k : pv_on p l e R s m args below meth c Q Z b X Hb n0 m0 ls (pc + 1) h' st') : W p l e R s m args below meth c H locs cells slots Q (F0 m pc ls (st.map (pv_em b X))) := by
  unfold pv_aldb at hh
  split at hh
  · rename_i j i r
    split at hh
    · rename_i kd n f hg
      split at hh
      · rename_i hk
        split at hh
        · rename_i q hq
          cases hh
          obtain ⟨g1, rfl, g3⟩ := pv_idx_some hq
          rcases hk with rfl | rfl
          · exact W.bald (v := .int (f j.toNatClampNeg)) hx hb (pv_acell hR hg) (hT.1 2 (by omega) n (fun j => .int (f j))) (fun q => by cases q) (by rw [arrV_size]; exact g1) (by rw [arrV_read _ _ g3]) rfl rfl hdg (k H locs cells slots hR hlo hc)
          · exact W.zald (v := .int (f j.toNatClampNeg)) hx hb (pv_acell hR hg) (hT.1 3 (by omega) n (fun j => .int (f j))) (fun q => by cases q) (by rw [arrV_size]; exact g1) (by rw [arrV_read _ _ g3]) rfl rfl hdg (k H locs cells slots hR hlo hc)
        · cases hh
      · cases hh
    · cases hh
  · cases hh
theorem pv_aldl_ok {h h' : List pv_E} {st st' : List Value} (hx : p.tables.exec = Jvm.exec) (hb : c.code = cc) (hdg : decode cc pc = .ok (.laload, 1)) (hh : pv_aldl pv_G h st = some (h', st')) (hR : pv_R Z b X Hb h H) (hT : pv_tab Z nm ar nw s) (hlo : ∀ q ∈ locs, b ≤ q.base) (hc : pv_ct R n0 m0 h cells slots)
    (k : pv_on p l e R s m args below meth c Q Z b X Hb n0 m0 ls (pc + 1) h' st') : W p l e R s m args below meth c H locs cells slots Q (F0 m pc ls (st.map (pv_em b X))) := by
  unfold pv_aldl at hh
  split at hh
  · rename_i j i r
    split at hh
    · rename_i kd n f hg
      split at hh
      · rename_i hk
        subst hk
        split at hh
        · rename_i q hq
          cases hh
          obtain ⟨g1, rfl, g3⟩ := pv_idx_some hq
          exact W.lald (v := .long (f j.toNatClampNeg)) hx hb (pv_lcell hR hg) (hT.1 1 (by omega) n (fun j => .long (f j))) (fun q => by cases q) (by rw [arrV_size]; exact g1) (by rw [arrV_read _ _ g3]) rfl rfl hdg (k H locs cells slots hR hlo hc)
        · cases hh
      · cases hh
    · cases hh
  · cases hh
theorem pv_alda_ok {h h' : List pv_E} {st st' : List Value} (hx : p.tables.exec = Jvm.exec) (hb : c.code = cc) (hdg : decode cc pc = .ok (.aaload, 1)) (hh : pv_alda pv_G ar h st = some (h', st')) (hR : pv_R Z b X Hb h H) (hT : pv_tab Z nm ar nw s) (hlo : ∀ q ∈ locs, b ≤ q.base) (hc : pv_ct R n0 m0 h cells slots)
    (k : pv_on p l e R s m args below meth c Q Z b X Hb n0 m0 ls (pc + 1) h' st') : W p l e R s m args below meth c H locs cells slots Q (F0 m pc ls (st.map (pv_em b X))) := by
  unfold pv_alda at hh
  split at hh
  · rename_i j i r
    split at hh
    · rename_i kd n f hg
      split at hh
      · rename_i hk
        split at hh
        · rename_i q hq
          cases hh
          obtain ⟨g1, rfl, g3⟩ := pv_idx_some hq
          obtain ⟨ci, rfl⟩ : ∃ ci, kd = 10 + ci := ⟨kd - 10, by omega⟩
          rw [Nat.add_sub_cancel_left] at hk
          have w := k H locs cells slots hR hlo hc
          rw [List.map_cons, pv_rf_em] at w
          exact W.aald (v := va_rf ((f j.toNatClampNeg).map (b + ·))) (ty := .object (nm ci)) hx hb (pv_rcell hR hg) ((hT.2.2 ci hk.2).1 n (fun j => va_rf ((f j).map (b + ·)))) rfl (fun q => by cases q) (by rw [arrV_size]; exact g1) (by rw [arrV_read _ _ g3]) rfl rfl hdg w
        · cases hh
      · cases hh
    · cases hh
  · cases hh
theorem pv_alen_ok {h h' : List pv_E} {st st' : List Value} (hx : p.tables.exec = Jvm.exec) (hb : c.code = cc) (hdg : decode cc pc = .ok (.arraylength, 1)) (hh : pv_alen pv_G sc ar h st = some (h', st')) (hR : pv_R Z b X Hb h H) (hT : pv_tab Z nm ar nw s) (hsc : va_X (X 0) sc.1 sc.2 s Hb ∧ X 0 < b) (hlo : ∀ q ∈ locs, b ≤ q.base) (hc : pv_ct R n0 m0 h cells slots)
    (k : pv_on p l e R s m args below meth c Q Z b X Hb n0 m0 ls (pc + 1) h' st') : W p l e R s m args below meth c H locs cells slots Q (F0 m pc ls (st.map (pv_em b X))) := by
  unfold pv_alen at hh
  split at hh
  · rename_i i r
    split at hh
    · rename_i kd n z hg
      split at hh
      · rename_i hk
        cases hh
        have w := k H locs cells slots hR hlo hc
        have h1 : H[b + i]? = some (vp_cell (Z.1 kd) (pv_emA b (n, z))) := hR.2.1 i _ hg
        obtain ⟨V, hV⟩ : ∃ V, vp_cell (Z.1 kd) (pv_emA b (n, z)) = arrV (Z.1 kd) n V := by
          rcases z with f | f | f | f | f
          · exact ⟨fun j => .int (f j), rfl⟩
          · exact ⟨fun j => .long (f j), rfl⟩
          · exact ⟨fun j => .float (f j), rfl⟩
          · exact ⟨fun j => .double (f j), rfl⟩
          · exact ⟨fun j => va_rf ((f j).map (b + ·)), rfl⟩
        rw [hV] at h1
        rcases hk with hk | hk
        · exact W.alen hx hb h1 (hT.1 kd hk n V) (by rw [arrV_size]) rfl rfl hdg w
        · obtain ⟨ci, rfl⟩ : ∃ ci, kd = 10 + ci := ⟨kd - 10, by omega⟩
          rw [Nat.add_sub_cancel_left] at hk
          exact W.alen hx hb h1 ((hT.2.2 ci hk.2).1 n V) (by rw [arrV_size]) rfl rfl hdg w
      · cases hh
    · cases hh
  · rename_i r
    cases hh
    obtain ⟨⟨scr, s1, s2, s3, s4, s5⟩, hlt⟩ := hsc
    have s1' : H[X 0]? = some scr := (hR.2.2 _ hlt).trans s1
    exact W.alen hx hb s1' s2 (by rw [s4]) rfl rfl hdg (k H locs cells slots hR hlo hc)
  · cases hh
theorem pv_asti_ok {h h' : List pv_E} {st st' : List Value} (hx : p.tables.exec = Jvm.exec) (hb : c.code = cc) (hdg : decode cc pc = .ok (.iastore, 1)) (hh : pv_asti pv_G pv_S h st = some (h', st')) (hR : pv_R Z b X Hb h H) (hT : pv_tab Z nm ar nw s) (hlo : ∀ q ∈ locs, b ≤ q.base) (hc : pv_ct R n0 m0 h cells slots)
    (k : pv_on p l e R s m args below meth c Q Z b X Hb n0 m0 ls (pc + 1) h' st') : W p l e R s m args below meth c H locs cells slots Q (F0 m pc ls (st.map (pv_em b X))) := by
  unfold pv_asti at hh
  split at hh
  · rename_i x j i r
    split at hh
    · rename_i kd n f hg
      split at hh
      · rename_i hk
        subst hk
        split at hh
        · rename_i q hq
          cases hh
          obtain ⟨g1, rfl, g3⟩ := pv_idx_some hq
          refine W.iast hx hb (pv_acell hR hg) (hT.1 0 (by omega) n _) (fun q => by cases q) (by rw [arrV_size]; exact g1) rfl rfl hdg fun H' e1 e2 e3 => ?_
          refine k H' _ cells slots (hR.set hg e2 e3 ?_) (pv_locs hlo (by omega)) (hc.set hg (by simp [pv_sz]))
          show H'[b + i]? = some (arrV (Z.1 0) n (fun q => .int (upd f j.toNatClampNeg x q)))
          rw [e1, arrV_store]
          congr 2
          funext q
          by_cases hq : q = j.toNatClampNeg
          · subst hq
            simp [updV, upd, narrow]
          · simp [updV, upd, hq]
        · cases hh
      · cases hh
    · cases hh
  · cases hh
theorem pv_astl_ok {h h' : List pv_E} {st st' : List Value} (hx : p.tables.exec = Jvm.exec) (hb : c.code = cc) (hdg : decode cc pc = .ok (.lastore, 1)) (hh : pv_astl pv_G pv_S h st = some (h', st')) (hR : pv_R Z b X Hb h H) (hT : pv_tab Z nm ar nw s) (hlo : ∀ q ∈ locs, b ≤ q.base) (hc : pv_ct R n0 m0 h cells slots)
    (k : pv_on p l e R s m args below meth c Q Z b X Hb n0 m0 ls (pc + 1) h' st') : W p l e R s m args below meth c H locs cells slots Q (F0 m pc ls (st.map (pv_em b X))) := by
  unfold pv_astl at hh
  split at hh
  · rename_i x j i r
    split at hh
    · rename_i kd n f hg
      split at hh
      · rename_i hk
        subst hk
        split at hh
        · rename_i q hq
          cases hh
          obtain ⟨g1, rfl, g3⟩ := pv_idx_some hq
          refine W.last hx hb (pv_lcell hR hg) (hT.1 1 (by omega) n _) (fun q => by cases q) (by rw [arrV_size]; exact g1) rfl rfl hdg fun H' e1 e2 e3 => ?_
          refine k H' _ cells slots (hR.set hg e2 e3 ?_) (pv_locs hlo (by omega)) (hc.set hg (by simp [pv_sz]))
          show H'[b + i]? = some (arrV (Z.1 1) n (fun q => .long (vp_updL f j.toNatClampNeg x q)))
          rw [e1, arrV_store]
          congr 2
          funext q
          by_cases hq : q = j.toNatClampNeg
          · subst hq
            simp [updV, vp_updL, narrow]
          · simp [updV, vp_updL, hq]
        · cases hh
      · cases hh
    · cases hh
  · cases hh
theorem pv_astb_ok {h h' : List pv_E} {st st' : List Value} (hx : p.tables.exec = Jvm.exec) (hb : c.code = cc) (hdg : decode cc pc = .ok (.bastore, 1)) (hh : pv_astb pv_G pv_S h st = some (h', st')) (hR : pv_R Z b X Hb h H) (hT : pv_tab Z nm ar nw s) (hlo : ∀ q ∈ locs, b ≤ q.base) (hc : pv_ct R n0 m0 h cells slots)
    (k : pv_on p l e R s m args below meth c Q Z b X Hb n0 m0 ls (pc + 1) h' st') : W p l e R s m args below meth c H locs cells slots Q (F0 m pc ls (st.map (pv_em b X))) := by
  unfold pv_astb at hh
  split at hh
  · rename_i x j i r
    split at hh
    · rename_i kd n f hg
      split at hh
      · rename_i hk
        subst hk
        split at hh
        · rename_i q hq
          cases hh
          obtain ⟨g1, rfl, g3⟩ := pv_idx_some hq
          refine W.bast hx hb (pv_acell hR hg) (hT.1 2 (by omega) n _) (fun q => by cases q) (by rw [arrV_size]; exact g1) rfl rfl hdg fun H' e1 e2 e3 => ?_
          refine k H' _ cells slots (hR.set hg e2 e3 ?_) (pv_locs hlo (by omega)) (hc.set hg (by simp [pv_sz]))
          show H'[b + i]? = some (arrV (Z.1 2) n (fun q => .int (upd f j.toNatClampNeg x.toInt8.toInt32 q)))
          rw [e1, arrV_store]
          congr 2
          funext q
          by_cases hq : q = j.toNatClampNeg
          · subst hq
            simp [updV, upd, narrow]
          · simp [updV, upd, hq]
        · cases hh
      · split at hh
        · rename_i hk
          subst hk
          split at hh
          · rename_i q hq
            cases hh
            obtain ⟨g1, rfl, g3⟩ := pv_idx_some hq
            refine W.zast hx hb (pv_acell hR hg) (hT.1 3 (by omega) n _) (fun q => by cases q) (by rw [arrV_size]; exact g1) rfl rfl hdg fun H' e1 e2 e3 => ?_
            refine k H' _ cells slots (hR.set hg e2 e3 ?_) (pv_locs hlo (by omega)) (hc.set hg (by simp [pv_sz]))
            show H'[b + i]? = some (arrV (Z.1 3) n (fun q => .int (upd f j.toNatClampNeg (x &&& 1) q)))
            rw [e1, arrV_store]
            congr 2
            funext q
            by_cases hq : q = j.toNatClampNeg
            · subst hq
              simp [updV, upd, narrow]
            · simp [updV, upd, hq]
          · cases hh
        · cases hh
    · cases hh
  · cases hh
theorem pv_asta_ok {h h' : List pv_E} {st st' : List Value} (hx : p.tables.exec = Jvm.exec) (hb : c.code = cc) (hdg : decode cc pc = .ok (.aastore, 1)) (hh : pv_asta pv_G pv_S ar h st = some (h', st')) (hR : pv_R Z b X Hb h H) (hT : pv_tab Z nm ar nw s) (hlo : ∀ q ∈ locs, b ≤ q.base) (hc : pv_ct R n0 m0 h cells slots)
    (k : pv_on p l e R s m args below meth c Q Z b X Hb n0 m0 ls (pc + 1) h' st') : W p l e R s m args below meth c H locs cells slots Q (F0 m pc ls (st.map (pv_em b X))) := by
  unfold pv_asta at hh
  split at hh
  · rename_i v j i r
    split at hh
    · rename_i kd n f hg
      split at hh
      · rename_i ci fs hv
        split at hh
        · rename_i hk
          obtain ⟨rfl, hlt, har⟩ := hk
          split at hh
          · rename_i q hq
            cases hh
            obtain ⟨g1, rfl, g3⟩ := pv_idx_some hq
            obtain ⟨-, kA, kC, t1, t2, t3, t4⟩ := hT.2.2 ci har
            have h1 := hR.2.1 v _ hv
            unfold pv_at1 at h1
            dsimp only at h1
            rw [if_pos hlt] at h1
            obtain ⟨cell, q1, q2, q3, q4⟩ := h1
            refine W.aast hx hb (pv_rcell hR hg) (fun q h => by cases h) (fun h => by cases h) t1 t2 rfl t3 ⟨fun q => g1 (Or.inl q), by rw [arrV_size]; exact g3⟩ q1 (fun q h => by rw [q3] at h; cases h) (by rw [q2]; exact t3) (by rw [q2]; exact t4) rfl rfl hdg fun H' e1 e2 e3 => ?_
            refine k H' _ cells slots (hR.set hg e2 e3 ?_) (pv_locs hlo (by omega)) (hc.set hg (by simp [pv_sz]))
            show H'[b + i]? = some (arrV (Z.1 (10 + ci)) n (fun q => va_rf ((va_up f j.toNatClampNeg (some v) q).map (b + ·))))
            rw [e1, arrV_store]
            congr 2
            funext q
            by_cases hq : q = j.toNatClampNeg
            · subst hq
              simp [updV, va_up, va_rf]
            · simp [updV, va_up, hq]
          · cases hh
        · cases hh
      · cases hh
    · cases hh
  · cases hh
theorem pv_newa_ok {t : ArrayType} {h h' : List pv_E} {st st' : List Value} (hh : pv_newa pv_P pv_N pv_M capC capS t h st = some (h', st')) (hR : pv_R Z b X Hb h H) (row : pv_rA p l e R s m args below meth c pc 2 (Z.1 (pv_akind t)) (defaultValue (newarray.typeOf t))) (hlo : ∀ q ∈ locs, b ≤ q.base) (hc : pv_ct R n0 m0 h cells slots) (hcC : capC ≤ R.cells + n0) (hcS : capS ≤ R.slots + m0)
    (k : pv_on p l e R s m args below meth c Q Z b X Hb n0 m0 ls (pc + 2) h' st') : W p l e R s m args below meth c H locs cells slots Q (F0 m pc ls (st.map (pv_em b X))) := by
  unfold pv_newa at hh
  split at hh
  · rename_i n r
    split at hh
    · cases hh
    · rename_i hcd
      obtain ⟨m1, m2, rfl, rfl⟩ := pv_mk_some hh
      obtain ⟨z1, z2, z3⟩ := hc.push (x := .inl (pv_akind t, pv_anew t n.toNatClampNeg)) (n := n.toNatClampNeg) (by cases t <;> rfl) m1 m2 hcC hcS
      refine row H locs cells slots Q ls (r.map (pv_em b X)) n (fun q => hcd (Or.inl q)) (Nat.not_lt.mp fun q => hcd (Or.inr (Or.inl q))) z1 z2 fun H' e1 e2 e3 => ?_
      have hat : pv_at1 Z b X H.size (.inl (pv_akind t, pv_anew t n.toNatClampNeg)) H' := by
        show H'[H.size]? = some (vp_cell _ _)
        rw [e3]
        cases t <;> first | rfl | (exact absurd (Or.inr (Or.inr rfl)) hcd)
      have w := k H' locs (cells + 1) (slots + n.toNatClampNeg) (hR.push e1 e2 hat) hlo z3
      rw [List.map_cons] at w
      have e4 : pv_em b X (.ref (pv_N h)) = .ref H.size := by rw [hR.1]; rfl
      rw [e4] at w
      exact w
  · cases hh
theorem pv_newr_ok {a1 : Nat} {h h' : List pv_E} {st st' : List Value} (hh : pv_newr pv_P pv_N pv_M capC capS a1 h st = some (h', st')) (hR : pv_R Z b X Hb h H) (row : pv_rA p l e R s m args below meth c pc 3 (Z.1 (10 + a1)) .null) (hlo : ∀ q ∈ locs, b ≤ q.base) (hc : pv_ct R n0 m0 h cells slots) (hcC : capC ≤ R.cells + n0) (hcS : capS ≤ R.slots + m0)
    (k : pv_on p l e R s m args below meth c Q Z b X Hb n0 m0 ls (pc + 3) h' st') : W p l e R s m args below meth c H locs cells slots Q (F0 m pc ls (st.map (pv_em b X))) := by
  unfold pv_newr at hh
  split at hh
  · rename_i n r
    split at hh
    · cases hh
    · rename_i hcd
      obtain ⟨m1, m2, rfl, rfl⟩ := pv_mk_some hh
      obtain ⟨z1, z2, z3⟩ := hc.push (x := .inl (10 + a1, n.toNatClampNeg, .inr (.inr (.inr (.inr fun _ => none))))) (n := n.toNatClampNeg) rfl m1 m2 hcC hcS
      refine row H locs cells slots Q ls (r.map (pv_em b X)) n (fun q => hcd (Or.inl q)) (Nat.not_lt.mp fun q => hcd (Or.inr q)) z1 z2 fun H' e1 e2 e3 => ?_
      have w := k H' locs (cells + 1) (slots + n.toNatClampNeg) (hR.push (x := .inl (10 + a1, n.toNatClampNeg, .inr (.inr (.inr (.inr fun _ => none))))) e1 e2 e3) hlo z3
      rw [List.map_cons] at w
      have e4 : pv_em b X (.ref (pv_N h)) = .ref H.size := by rw [hR.1]; rfl
      rw [e4] at w
      exact w
  · cases hh
theorem pv_new_ok {a1 : Nat} {h h' : List pv_E} {st st' : List Value} (hh : pv_mk pv_P pv_N pv_M capC capS h (.inr (a1, nw a1)) (nw a1).length st = some (h', st')) (hR : pv_R Z b X Hb h H) (row : pv_rN p l e R s m args below meth c pc (nw a1).length (fun q H => pv_at1 Z b X q (.inr (a1, nw a1)) H)) (hlo : ∀ q ∈ locs, b ≤ q.base) (hc : pv_ct R n0 m0 h cells slots) (hcC : capC ≤ R.cells + n0) (hcS : capS ≤ R.slots + m0)
    (k : pv_on p l e R s m args below meth c Q Z b X Hb n0 m0 ls (pc + 3) h' st') : W p l e R s m args below meth c H locs cells slots Q (F0 m pc ls (st.map (pv_em b X))) := by
  obtain ⟨m1, m2, rfl, rfl⟩ := pv_mk_some hh
  obtain ⟨z1, z2, z3⟩ := hc.push (x := .inr (a1, nw a1)) (n := (nw a1).length) rfl m1 m2 hcC hcS
  refine row H locs cells slots Q ls (st.map (pv_em b X)) z1 z2 fun H' e1 e2 e3 => ?_
  have w := k H' locs (cells + 1) (slots + (nw a1).length) (hR.push e1 e2 e3) hlo z3
  rw [List.map_cons] at w
  have e4 : pv_em b X (.ref (pv_N h)) = .ref H.size := by rw [hR.1]; rfl
  rw [e4] at w
  exact w
set_option maxHeartbeats 1000000 in
/-- what asks or turns the heap, all of it -/
theorem pv_h_ok {fty : Nat → Nat → FieldType} {ins : Instr} {a1 a2 : Nat} {h h' : List pv_E} {st st' : List Value} (hx : p.tables.exec = Jvm.exec) (hb : c.code = cc) (hdg : decode cc pc = .ok (ins, pv_len ins)) (hh : pv_h pv_G pv_S pv_P pv_N pv_M sc capC capS ar nw fty ins a1 a2 h st = some (h', st')) (hR : pv_R Z b X Hb h H) (hT : pv_tab Z nm ar nw s) (hsc : va_X (X 0) sc.1 sc.2 s Hb ∧ X 0 < b)
    (row : pv_row p l e R s m args below meth c Z b X fty nw pc ins a1 a2) (hlo : ∀ q ∈ locs, b ≤ q.base) (hc : pv_ct R n0 m0 h cells slots) (hcC : capC ≤ R.cells + n0) (hcS : capS ≤ R.slots + m0)
    (k : pv_on p l e R s m args below meth c Q Z b X Hb n0 m0 ls (pc + pv_len ins) h' st') : W p l e R s m args below meth c H locs cells slots Q (F0 m pc ls (st.map (pv_em b X))) := by
  unfold pv_h at hh
  split at hh
  · exact pv_getf_ok hh hR row.1 row.2 hlo hc k
  · exact pv_putf_ok hh hR hT row.1 row.2 hlo hc k
  · exact pv_aldi_ok hx hb hdg hh hR hT hsc hlo hc k
  · exact pv_aldb_ok hx hb hdg hh hR hT hlo hc k
  · exact pv_aldl_ok hx hb hdg hh hR hT hlo hc k
  · exact pv_alda_ok hx hb hdg hh hR hT hlo hc k
  · exact pv_asti_ok hx hb hdg hh hR hT hlo hc k
  · exact pv_astb_ok hx hb hdg hh hR hT hlo hc k
  · exact pv_astl_ok hx hb hdg hh hR hT hlo hc k
  · exact pv_asta_ok hx hb hdg hh hR hT hlo hc k
  · exact pv_alen_ok hx hb hdg hh hR hT hsc hlo hc k
  · exact pv_newa_ok hh hR row hlo hc hcC hcS k
  · exact pv_newr_ok hh hR row hlo hc hcC hcS k
  · split at hh
    · rename_i h9
      exact pv_new_ok hh hR (row h9) hlo hc hcC hcS k
    · cases hh
  · cases hh
end PVI
