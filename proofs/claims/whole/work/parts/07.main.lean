/-! The plain machine is sound: the induction over its fuel -/
def pv_rm (fr lo : Nat) (R : Room) : Prop := fr ≤ R.frames ∧ lo ≤ R.locals
section PVX
variable {p : Program} {l : Launch} {e : Env} {sc : Nat × (Nat → Int32)} {capC capS : Nat} {ar : Nat → Bool} {nw : Nat → List Value} {fty : Nat → Nat → FieldType} {co : Nat → Nat → Option Instr} {ax : Nat → Instr → Nat × Nat × Nat} {nL : Nat → Nat} {cst : Nat → Instr → Option Value} {rt : Nat → Option FieldType} {hs : Nat → List (Nat × Nat × Nat × Nat)} {rc : Nat → Nat}
  {xt : Nat → Nat → Nat → Nat → List pv_E → List Value → Option (List pv_E × List Value)} {by_ : Nat → ByteArray} {yn : Nat → MethodName} {nm : Nat → String} {zN : Nat} {Z : pv_T} {b : Nat} {X : Nat → Nat} {Hb : Heap} {s0 : State}
/-- what the sentence is for a frame and the rest of its run -/
def pv_say (p : Program) (l : Launch) (e : Env) (sc : Nat × (Nat → Int32)) (capC capS : Nat) (ar : Nat → Bool) (nw : Nat → List Value) (fty : Nat → Nat → FieldType) (co : Nat → Nat → Option Instr) (ax : Nat → Instr → Nat × Nat × Nat) (nL : Nat → Nat) (cst : Nat → Instr → Option Value) (rt : Nat → Option FieldType) (hs : Nat → List (Nat × Nat × Nat × Nat)) (rc : Nat → Nat)
    (xt : Nat → Nat → Nat → Nat → List pv_E → List Value → Option (List pv_E × List Value)) (by_ : Nat → ByteArray) (yn : Nat → MethodName) (nm : Nat → String) (zN : Nat) (Z : pv_T) (b : Nat) (X : Nat → Nat) (Hb : Heap) (s0 : State) (run : Nat → Nat → List pv_E → Nat → Nat → List (Nat × Value) → List Value → Option (List pv_E × pv_O)) : Prop :=
  ∀ (fr lo : Nat) (h : List pv_E) (y pc : Nat) (lv : List (Nat × Value)) (st : List Value) (h' : List pv_E) (o : pv_O), run fr lo h y pc lv st = some (h', o) →
  ∀ (R : Room) (s : State) (m : MethodId) (args : Array Value) (below : List Frame) (meth : Method) (c : Code) (n0 m0 : Nat) (H : Heap) (locs : List Loc) (cells slots : Nat) (ls : Array Slot),
    pv_Cx p l e sc ar nw fty co ax nL cst rt hs rc xt by_ yn nm zN Z b X Hb s0 y R s m args below meth c → pv_rm fr lo R → capC ≤ R.cells + n0 → capS ≤ R.slots + m0 → pv_R Z b X Hb h H → lv_has ls (nL y) (lv.map (pv_em2 b X)) → (∀ q ∈ locs, b ≤ q.base) → pv_ct R n0 m0 h cells slots → (∀ q, b ≤ q → ∀ cell : Cell, s.heap[q]? = some cell → cell.vm = .none) → s.heap.size = b + n0 →
    W p l e R s m args below meth c H locs cells slots (pv_Q R below s Z b X Hb n0 m0 h' o) (F0 m pc ls (st.map (pv_em b X)))
theorem pv_exc_some {h : List pv_E} {a x : Nat} (hx : pv_exc pv_G h a = some x) : 90 ≤ x ∧ ∃ fs, pv_G h a = some (.inr (x, fs)) := by
  unfold pv_exc at hx
  split at hx
  · rename_i hg
    split at hx
    · rename_i h9
      cases hx
      exact ⟨h9, _, hg⟩
    · cases hx
  · cases hx
theorem pv_R.vm {h : List pv_E} {H : Heap} (hR : pv_R Z b X Hb h H) {q : Nat} (hq : b ≤ q) {cell : Cell} (hcell : H[q]? = some cell) : cell.vm = .none := by
  have hlt : q < H.size := (Array.getElem?_eq_some_iff.mp hcell).1
  rw [hR.1] at hlt
  obtain ⟨i, rfl⟩ : ∃ i, q = b + i := ⟨q - b, by omega⟩
  have hi : i < h.length := by omega
  have h1 := hR.2.1 i _ (List.getElem?_eq_getElem hi)
  generalize h[i] = x at h1
  unfold pv_at1 at h1
  split at h1
  · rw [hcell] at h1
    rw [Option.some.inj h1]
    rename_i k a
    rcases a with ⟨n, f | f | f | f | f⟩ <;> rfl
  · split at h1
    · obtain ⟨c2, k1, -, k3, -⟩ := h1
      rw [hcell] at k1
      rw [Option.some.inj k1]; exact k3
    · obtain ⟨c2, k1, -, k3⟩ := h1
      rw [hcell] at k1
      rw [Option.some.inj k1]; exact k3
set_option maxHeartbeats 4000000 in
theorem pv_call_ok (hXb : X 0 < b)
    (hcx : ∀ (z : Nat) (R : Room) (U : State) (mk : MethodId) (a : Array Value) (bl : List Frame) (methk : Method) (ck : Code), pv_who yn nL zN s0 z U mk methk ck → pv_Cx p l e sc ar nw fty co ax nL cst rt hs rc xt by_ yn nm zN Z b X Hb s0 z R U mk a bl methk ck)
    {run : Nat → Nat → List pv_E → Nat → Nat → List (Nat × Value) → List Value → Option (List pv_E × pv_O)}
    (ih : pv_say p l e sc capC capS ar nw fty co ax nL cst rt hs rc xt by_ yn nm zN Z b X Hb s0 run)
    {fr lo : Nat} {h : List pv_E} {y pc : Nat} {lv : List (Nat × Value)} {st : List Value} {h' : List pv_E} {o : pv_O} {i : Instr} (hi : pv_isiv i = true) (hco : co y pc = some i)
    {h1 : List pv_E} {o1 : pv_O} (hk3 : (ax y i).1 < 3) (hlen : ¬ st.length < (ax y i).2.2) (hrecv : pv_recv pv_G rc (ax y i).1 (ax y i).2.1 h (st.take (ax y i).2.2).reverse = true) (hw : ((st.drop (ax y i).2.2).map Value.category).sum + (nL (ax y i).2.1 + 11) ≤ lo) (hsl : (lg_sl (st.take (ax y i).2.2).reverse).length ≤ nL (ax y i).2.1)
    (hcal : run fr (lo - (((st.drop (ax y i).2.2).map Value.category).sum + (nL (ax y i).2.1 + 11))) h (ax y i).2.1 0 (lv_args 0 (st.take (ax y i).2.2).reverse) [] = some (h1, o1))
    (hret : ∀ v, o1 = .inl v → run (fr + 1) lo h1 y (pc + 3) lv (v.toList ++ st.drop (ax y i).2.2) = some (h', o))
    (hthr : ∀ a, o1 = .inr a → ∃ x, pv_exc pv_G h1 a = some x ∧ ((∃ pc', pv_catch (hs y) pc x = some pc' ∧ run (fr + 1) lo h1 y pc' lv [.ref a] = some (h', o)) ∨ (hs y = [] ∧ h' = h1 ∧ o = .inr a)))
    {R : Room} {s : State} {m : MethodId} {args : Array Value} {below : List Frame} {meth : Method} {c : Code} {n0 m0 : Nat} {H : Heap} {locs : List Loc} {cells slots : Nat} {ls : Array Slot}
    (Cx : pv_Cx p l e sc ar nw fty co ax nL cst rt hs rc xt by_ yn nm zN Z b X Hb s0 y R s m args below meth c) (hrm : pv_rm (fr + 1) lo R) (hcC : capC ≤ R.cells + n0) (hcS : capS ≤ R.slots + m0) (hR : pv_R Z b X Hb h H) (hl : lv_has ls (nL y) (lv.map (pv_em2 b X))) (hlo : ∀ q ∈ locs, b ≤ q.base) (hc : pv_ct R n0 m0 h cells slots) (hsv : ∀ q, b ≤ q → ∀ cell : Cell, s.heap[q]? = some cell → cell.vm = .none) (hsn : s.heap.size = b + n0) :
    W p l e R s m args below meth c H locs cells slots (pv_Q R below s Z b X Hb n0 m0 h' o) (F0 m pc ls (st.map (pv_em b X))) := by
  obtain ⟨⟨hx, hb, hml, hr, hlk, hno⟩, hT, hsc, hrows⟩ := id Cx
  obtain ⟨⟨len, hdg, hlen2⟩, -, -, -, hlink, -, hcatch⟩ := hrows pc i hco
  have hlink := hlink hi hk3
  have hlen3 : len = 3 := by
    cases i <;> simp [pv_isiv] at hi <;> exact (by simpa [pv_len] using hlen2 : 3 = len).symm
  subst hlen3
  generalize hz : (ax y i).2.1 = z at *
  generalize hkk : (ax y i).2.2 = k at *
  generalize hkd : (ax y i).1 = kd at *
  generalize has : (st.take k).reverse = as at *
  generalize hrest : st.drop k = rest at *
  have hst : st = as.reverse ++ rest := by rw [← has, ← hrest, List.reverse_reverse, List.take_append_drop]
  have hask : as.length = k := by rw [← has, List.length_reverse, List.length_take]; omega
  intro T hT0 Xs
  obtain ⟨vm₁, mk, methk, ck, X₁, who, hstep⟩ := hlink T locs cells slots ls (as.map (pv_em b X)) (rest.map (pv_em b X)) Xs (by rw [List.length_map]; exact hask)
    (by
      intro h1
      subst h1
      unfold pv_recv at hrecv
      simp only at hrecv
      split at hrecv
      · exact ⟨_, _, rfl⟩
      · cases hrecv)
    (by
      intro h2
      subst h2
      unfold pv_recv at hrecv
      simp only at hrecv
      split at hrecv
      · rename_i a tl
        split at hrecv
        · rename_i ci fs hg
          rw [Bool.and_eq_true] at hrecv
          have hci : ci = rc z := by simpa using hrecv.1
          have hlt : ci < 90 := Nat.le_of_ble_eq_true hrecv.2
          have h3 := hR.2.1 a _ hg
          unfold pv_at1 at h3
          dsimp only at h3
          rw [if_pos hlt] at h3
          obtain ⟨cell, k1, k2, k3, -⟩ := h3
          refine ⟨_, _, rfl, cell, ?_, ?_, k3⟩
          · rw [hT0]; exact k1
          · rw [← hci]; exact k2
        · cases hrecv
      · cases hrecv)
  obtain ⟨-, w1, w2, w3, w4, w5, w6, w7⟩ := id who
  have hst2 : st.map (pv_em b X) = (as.map (pv_em b X)).reverse ++ rest.map (pv_em b X) := by rw [hst, List.map_append, List.map_reverse]
  obtain ⟨c1, c2, c3, c4⟩ := id hc
  obtain ⟨r1, r2⟩ := hrm
  obtain ⟨Y, hdo⟩ := X₁.into (g := F0 m pc ls (rest.map (pv_em b X))) rfl (by show ls.size = c.maxLocals; rw [hml]; exact hl.1) (by rw [hb]; exact hdg) (as.map (pv_em b X)).toArray (R' := { frames := R.frames - 1, cells := R.cells - cells, slots := R.slots - slots, locals := R.locals - ((rest.map Value.category).sum + (nL z + 11)) }) w3 w4 w5 w6
    (by show R.frames - 1 + 1 ≤ R.frames; omega) (by show 2 * 0 + ((rest.map (pv_em b X)).map fun v => v.category).sum + (ck.maxLocals + 11) + (R.locals - ((rest.map Value.category).sum + (nL z + 11))) ≤ R.locals; rw [pv_cat_em, w7]; omega) (by show cells + (R.cells - cells) ≤ R.cells; omega) (by show slots + (R.slots - slots) ≤ R.slots; omega)
  have hle : lv_has ((lg_sl (as.map (pv_em b X)) ++ List.replicate (nL z - (lg_sl (as.map (pv_em b X))).length) Slot.unset).toArray) (nL z) ((lv_args 0 as).map (pv_em2 b X)) := by
    have h8 := lv_entry (as.map (pv_em b X)) (n := nL z) (by rw [pv_sl_em]; exact hsl)
    rw [pv_args_em] at h8
    exact h8
  have wc := ih fr _ h z 0 (lv_args 0 as) [] h1 o1 hcal _ _ mk (as.map (pv_em b X)).toArray (.java (F0 m pc ls (rest.map (pv_em b X))) :: below) methk ck (pv_N h) (pv_M h) H [] 0 0 _ (hcx z { frames := R.frames - 1, cells := R.cells - cells, slots := R.slots - slots, locals := R.locals - ((rest.map Value.category).sum + (nL z + 11)) } ((T.setVm vm₁).calling (F0 m pc ls (rest.map (pv_em b X))) mk (as.map (pv_em b X)).toArray) mk (as.map (pv_em b X)).toArray (.java (F0 m pc ls (rest.map (pv_em b X))) :: below) methk ck who)
    ⟨by show fr ≤ R.frames - 1; omega, by show lo - ((rest.map Value.category).sum + (nL z + 11)) ≤ R.locals - ((rest.map Value.category).sum + (nL z + 11)); omega⟩ (by show capC ≤ R.cells - cells + pv_N h; omega) (by show capS ≤ R.slots - slots + pv_M h; omega) hR hle (fun q hq => by cases hq) ⟨by omega, by omega, by omega, by omega⟩ (fun q hq cell hcell => pv_R.vm hR hq (by rw [← hT0]; exact hcell)) (by show T.heap.size = _; rw [hT0]; exact hR.1)
  rw [w7] at Y hdo
  rw [List.map_nil, ← lg_entry_eq] at wc
  obtain ⟨t, st1, o', L, q1, q2, q3, q4, q5, q6, q7, q8, q9, q10, q11⟩ := wc _ (show (((T.setVm vm₁).setTop _).pushFrame _).heap = H from hT0) Y
  have q10' : pv_N h1 ≤ R.cells - cells + pv_N h := q10
  have q11' : pv_M h1 ≤ R.slots - slots + pv_M h := q11
  have hlo' : ∀ q ∈ locs ++ L, b ≤ q.base := by
    intro q hq
    rcases List.mem_append.mp hq with h1 | h1
    · exact hlo q h1
    · exact q7 q h1
  have hc' : pv_ct R n0 m0 h1 (cells + (pv_N h1 - pv_N h)) (slots + (pv_M h1 - pv_M h)) := ⟨by omega, by omega, by omega, by omega⟩
  cases o1 with
  | inl v =>
    have q3 : o' = .returned (v.map (pv_em b X)) := q3
    subst q3
    obtain ⟨T', X', -, -, ht⟩ := X₁.outOf (g := F0 m pc ls (rest.map (pv_em b X))) rfl (by rw [hb]; exact hdg) q2 q5 q6
    have hT' : T'.heap = t.heap := by rw [ht]; rfl
    have wr := ih (fr + 1) lo h1 y (pc + 3) lv (v.toList ++ rest) h' o (hret v rfl) R s m args below meth c n0 m0 T'.heap (locs ++ L) _ _ ls Cx ⟨r1, r2⟩ hcC hcS (by rw [hT']; exact q4) hl hlo' hc' hsv hsn
    obtain ⟨t2, st2, qq⟩ := wr T' rfl X'
    refine ⟨t2, ?_, qq⟩
    rw [hst2]
    refine hstep t2 fun acts => ?_
    rw [hdo acts]
    refine (pv_weaken st1).trans ?_
    rw [ht]
    have e9 : (v.toList ++ rest).map (pv_em b X) = (v.map (pv_em b X)).toList ++ rest.map (pv_em b X) := by rw [List.map_append]; cases v <;> rfl
    rw [e9] at st2
    exact st2
  | inr a =>
    have q3 : o' = .threw (b + a) := q3
    subst q3
    obtain ⟨T', X', -, -, ht⟩ := X₁.outOfThrown (g := F0 m pc ls (rest.map (pv_em b X))) rfl q2 q5 q6
    have hT' : T'.heap = t.heap := by rw [ht]; exact (Stand.throwing_heap T' _ _).symm
    obtain ⟨x, hxx, hcase⟩ := hthr a rfl
    obtain ⟨h90, fs, hg⟩ := pv_exc_some hxx
    rcases hcase with ⟨pc', hpc', hrun⟩ | ⟨hnil, rfl, rfl⟩
    · have h3 := q4.2.1 a _ hg
      unfold pv_at1 at h3
      dsimp only at h3
      rw [if_neg (by omega)] at h3
      obtain ⟨cell, k1, k2, k3⟩ := h3
      obtain ⟨vm', X2, hst3⟩ := hcatch x pc' h90 hpc' T' _ _ _ ls (rest.map (pv_em b X)) (b + a) cell X' (by rw [hT']; exact k1) k2 k3
      have wr := ih (fr + 1) lo h1 y pc' lv [.ref a] h' o hrun R s m args below meth c n0 m0 T'.heap (locs ++ L) _ _ ls Cx ⟨r1, r2⟩ hcC hcS (by rw [hT']; exact q4) hl hlo' hc' hsv hsn
      obtain ⟨t2, st2, qq⟩ := wr (T'.setVm vm') rfl X2
      refine ⟨t2, ?_, qq⟩
      rw [hst2]
      refine hstep t2 fun acts => ?_
      rw [hdo acts]
      refine (pv_weaken st1).trans ?_
      rw [ht]
      exact hst3 t2 st2
    · obtain ⟨g1, g2, g3, g4, g5⟩ := X'.leaveThrown (b + a) (g := F0 m pc ls (rest.map (pv_em b X))) rfl rfl rfl (fun x hx => by rw [hno hnil] at hx; cases hx) hlk
      refine ⟨_, ?_, .threw (b + a), locs ++ L, g2, g3, rfl, ?_, g4, ?_, hlo', by omega, by omega, by omega, by omega⟩
      · rw [hst2]
        refine hstep _ fun acts => ?_
        rw [hdo acts]
        refine (pv_weaken st1).trans ?_
        rw [ht]
        exact g1
      · show pv_R Z b X Hb h' T'.heap
        rw [hT']; exact q4
      · rw [show pv_N h' - n0 = cells + (pv_N h' - pv_N h) by omega, show pv_M h' - m0 = slots + (pv_M h' - pv_M h) by omega]
        exact g5
theorem pv_s2_len {n : Nat} {i : Instr} {lv : List (Nat × Value)} {st : List Value} {r : List (Nat × Value) × List Value} (h : pv_s2 n i lv st = some r) : ¬ pv_len i = 0 := by
  unfold pv_s2 at h
  split at h <;> first | (simp [pv_len]; done) | cases h
theorem pv_s1_len {i : Instr} {st st' : List Value} (h : pv_s1 i st = some st') : ¬ pv_len i = 0 := by
  unfold pv_s1 at h
  split at h <;> first | (simp [pv_len]; done) | cases h
theorem pv_h_len {i : Instr} {a1 a2 : Nat} {h : List pv_E} {st : List Value} {r : List pv_E × List Value} (hh : pv_h pv_G pv_S pv_P pv_N pv_M sc capC capS ar nw fty i a1 a2 h st = some r) : ¬ pv_len i = 0 := by
  unfold pv_h at hh
  split at hh <;> first | (simp [pv_len]; done) | cases hh
theorem pv_ret_len {ret : Option FieldType} {i : Instr} {st : List Value} {v : Option Value} (h : pv_ret ret i st = some v) : ¬ pv_len i = 0 := by
  unfold pv_ret at h
  split at h <;> first | (simp [pv_len]; done) | cases h
set_option maxHeartbeats 4000000 in
theorem pv_sound (hXb : X 0 < b)
    (hcx : ∀ (z : Nat) (R : Room) (U : State) (mk : MethodId) (a : Array Value) (bl : List Frame) (methk : Method) (ck : Code), pv_who yn nL zN s0 z U mk methk ck → pv_Cx p l e sc ar nw fty co ax nL cst rt hs rc xt by_ yn nm zN Z b X Hb s0 z R U mk a bl methk ck)
    (n : Nat) : pv_say p l e sc capC capS ar nw fty co ax nL cst rt hs rc xt by_ yn nm zN Z b X Hb s0 (pv_run pv_G pv_S pv_P pv_N pv_M sc capC capS ar nw fty co ax nL cst rt hs rc xt n) := by
  induction n with
  | zero => intro fr lo h y pc lv st h' o hrun; cases hrun
  | succ n ih =>
    intro fr lo h y pc lv st h' o hrun R s m args below meth c n0 m0 H locs cells slots ls Cx hrm hcC hcS hR hl hlo hc hsv hsn
    have hrun : pv_body pv_G pv_S pv_P pv_N pv_M sc capC capS ar nw fty co ax nL cst rt hs rc xt (pv_run pv_G pv_S pv_P pv_N pv_M sc capC capS ar nw fty co ax nL cst rt hs rc xt n) fr lo h y pc lv st = some (h', o) := hrun
    obtain ⟨⟨hx, hb, hml, hr, hlk, hno⟩, hT, hsc, hrows⟩ := id Cx
    generalize hrn : pv_run pv_G pv_S pv_P pv_N pv_M sc capC capS ar nw fty co ax nL cst rt hs rc xt n = run at *
    unfold pv_body at hrun
    split at hrun
    · cases hrun
    · rename_i i hco
      obtain ⟨⟨len, hdg, hlen2⟩, hrow, hth, hld, -, hxt, -⟩ := hrows pc i hco
      split at hrun
      · rename_i lv' st' h2
        exact pv_s2_ok hx hb h2 (by rw [hlen2.resolve_left (pv_s2_len h2)]; exact hdg) hl (fun ls' hl' => ih fr lo h y (pc + pv_len i) lv' st' h' o hrun R s m args below meth c n0 m0 H locs cells slots ls' Cx hrm hcC hcS hR hl' hlo hc hsv hsn)
      · split at hrun
        · rename_i st' h2
          exact pv_s1_ok hx hb h2 (by rw [hlen2.resolve_left (pv_s1_len h2)]; exact hdg) (ih fr lo h y (pc + pv_len i) lv st' h' o hrun R s m args below meth c n0 m0 H locs cells slots ls Cx hrm hcC hcS hR hl hlo hc hsv hsn)
        · split at hrun
          · rename_i tk off st' h2
            split at hrun
            · rename_i ht
              refine pv_j_ok hx hb h2 hdg hlen2 ht (fun htk => ?_) (fun htk => ?_)
              · rw [if_pos htk] at hrun
                exact ih fr lo h y _ lv st' h' o hrun R s m args below meth c n0 m0 H locs cells slots ls Cx hrm hcC hcS hR hl hlo hc hsv hsn
              · rw [if_neg (by rw [htk]; decide)] at hrun
                exact ih fr lo h y _ lv st' h' o hrun R s m args below meth c n0 m0 H locs cells slots ls Cx hrm hcC hcS hR hl hlo hc hsv hsn
            · cases hrun
          · split at hrun
            · rename_i h1 st' h2
              exact pv_h_ok hx hb (by rw [hlen2.resolve_left (pv_h_len h2)]; exact hdg) h2 hR hT ⟨hsc, hXb⟩ hrow hlo hc hcC hcS (fun H' locs' cells' slots' hR' hlo' hc' => ih fr lo h1 y (pc + pv_len i) lv st' h' o hrun R s m args below meth c n0 m0 H' locs' cells' slots' ls Cx hrm hcC hcS hR' hl hlo' hc' hsv hsn)
            · split at hrun
              · rename_i v h2
                cases hrun
                exact pv_ret_ok hx hb (by rw [hlen2.resolve_left (pv_ret_len h2)]; exact hdg) hr hlk h2 hR hlo hc
              · split at hrun
                · rename_i hisld
                  split at hrun
                  · rename_i v hcst
                    exact hld hisld v hcst H locs cells slots _ ls _ (ih fr lo h y (pc + pv_len i) lv (v :: st) h' o hrun R s m args below meth c n0 m0 H locs cells slots ls Cx hrm hcC hcS hR hl hlo hc hsv hsn)
                  · cases hrun
                · split at hrun
                  · rename_i histh
                    split at hrun
                    · rename_i hnil
                      split at hrun
                      · rename_i hcap
                        cases hrun
                        obtain ⟨r1, r2⟩ := id hrm
                        obtain ⟨c1, c2, c3, c4⟩ := id hc
                        exact hth histh hnil h n0 m0 H locs cells slots ls _ (by rw [hml]; exact hl.1) (by omega) (by rw [pv_cat_em]; omega) hsv hsn hR hlo hc (by omega) (by omega)
                      · cases hrun
                    · cases hrun
                  · split at hrun
                    · rename_i hisiv
                      split at hrun
                      · rename_i hk3
                        split at hrun
                        · rename_i h1 st' h2
                          exact hxt hisiv hk3 fr lo h h1 st st' h2 hrm.1 hrm.2 n0 m0 H locs cells slots _ ls (by rw [hml]; exact hl.1) hR hlo hc (fun H' locs' cells' slots' hR' hlo' hc' => ih fr lo h1 y (pc + 3) lv st' h' o hrun R s m args below meth c n0 m0 H' locs' cells' slots' ls Cx hrm hcC hcS hR' hl hlo' hc' hsv hsn)
                        · cases hrun
                      · rename_i hk3
                        split at hrun
                        · cases hrun
                        · rename_i hlen
                          split at hrun
                          · rename_i hcond
                            obtain ⟨hrecv, hw, hsl⟩ := hcond
                            split at hrun
                            · cases hrun
                            · rename_i fr'
                              split at hrun
                              · rename_i h1 v hcal
                                exact pv_call_ok hXb hcx ih hisiv hco (Nat.not_le.mp hk3) hlen hrecv hw hsl hcal (fun v' hv => by cases hv; exact hrun) (fun a ha => by cases ha) Cx hrm hcC hcS hR hl hlo hc hsv hsn
                              · rename_i h1 a hcal
                                refine pv_call_ok hXb hcx ih hisiv hco (Nat.not_le.mp hk3) hlen hrecv hw hsl hcal (fun v' hv => by cases hv) (fun a' ha => ?_) Cx hrm hcC hcS hR hl hlo hc hsv hsn
                                cases ha
                                split at hrun
                                · rename_i x hex
                                  refine ⟨x, hex, ?_⟩
                                  split at hrun
                                  · rename_i pc' hpc'
                                    exact Or.inl ⟨pc', hpc', hrun⟩
                                  · split at hrun
                                    · rename_i hnil
                                      cases hrun
                                      exact Or.inr ⟨hnil, rfl, rfl⟩
                                    · cases hrun
                                · cases hrun
                              · cases hrun
                          · cases hrun
                    · cases hrun
end PVX
