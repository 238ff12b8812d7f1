/-! The plain machine is sound -/
theorem pv_weaken {tb : Tables} {e : Env} {below : List Frame} {f : Frame} {a b : State} (h : Steps tb e (f :: below) a b) : Steps tb e below a b := by
  obtain ⟨n, h1, h2⟩ := h
  exact ⟨n, h1, fun k hk => Within.weaken (mid := [f]) (h2 k hk)⟩
theorem pv_args_em (b : Nat) (X : Nat → Nat) (vs : List Value) : ∀ i, lv_args i (vs.map (pv_em b X)) = (lv_args i vs).map (pv_em2 b X) := by
  induction vs with
  | nil => intro i; rfl
  | cons v vs ih =>
    intro i
    simp only [List.map_cons, lv_args, pv_em_cat, ih]
    rfl
theorem pv_sl_em (b : Nat) (X : Nat → Nat) (vs : List Value) : (lg_sl (vs.map (pv_em b X))).length = (lg_sl vs).length := by
  induction vs with
  | nil => rfl
  | cons v vs ih =>
    unfold lg_sl at ih ⊢
    simp only [List.map_cons, List.flatMap_cons, List.length_append, ih, pv_em_cat]
    split <;> rfl
theorem pv_cat_em (b : Nat) (X : Nat → Nat) (vs : List Value) : ((vs.map (pv_em b X)).map fun v => v.category).sum = (vs.map Value.category).sum := by
  rw [List.map_map]
  congr 1
  apply List.map_congr_left
  intro v _
  exact pv_em_cat b X v
def pv_oc (b : Nat) (X : Nat → Nat) (o : pv_O) (o' : Outcome) : Prop := match o with
  | .inl v => o' = .returned (v.map (pv_em b X))
  | .inr a => o' = .threw (b + a)
/-- how an invocation ends -/
def pv_Q (R : Room) (below : List Frame) (s : State) (Z : pv_T) (b : Nat) (X : Nat → Nat) (Hb : Heap) (n0 m0 : Nat) (h' : List pv_E) (o : pv_O) : State → Prop := fun t =>
  ∃ (o' : Outcome) (L : List Loc), t.status = .running ∧ Ended t below o' ∧ pv_oc b X o o' ∧ pv_R Z b X Hb h' t.heap ∧ s.WarmedH t.vm ∧ s.sameButNew ({ t with vm := s.vm } : State) L (pv_N h' - n0) (pv_M h' - m0) ∧ (∀ q ∈ L, b ≤ q.base) ∧ n0 ≤ pv_N h' ∧ m0 ≤ pv_M h' ∧ pv_N h' ≤ R.cells + n0 ∧ pv_M h' ≤ R.slots + m0
/-- the method number z, as it stands in the tables of U -/
def pv_who (yn : Nat → MethodName) (nL : Nat → Nat) (zN : Nat) (s0 : State) (z : Nat) (U : State) (mk : MethodId) (methk : Method) (ck : Code) : Prop :=
  z < zN ∧ s0.WarmedH U.vm ∧ U.methodNamed? (yn z) = some mk ∧ U.vm.method? mk = some methk ∧ methk.code = some ck ∧ methk.locks = false ∧ U.plainMethod mk ∧ ck.maxLocals = nL z
section PVL
variable (p : Program) (l : Launch) (e : Env) (R : Room) (s : State) (m : MethodId) (args : Array Value) (below : List Frame) (meth : Method) (c : Code)
def pv_link (yn : Nat → MethodName) (nL : Nat → Nat) (zN : Nat) (s0 : State) (cC : ClassId) (pc kd z k : Nat) : Prop :=
  ∀ (T : State) (locs : List Loc) (cells slots : Nat) (ls : Array Slot) (as rest : List Value), Stand p l e R s m args below meth c T locs cells slots → as.length = k →
    (kd = 1 → ∃ a tl, as = .ref a :: tl) → (kd = 2 → ∃ a tl, as = .ref a :: tl ∧ ∃ cell : Cell, T.heap[a]? = some cell ∧ cell.cls = cC ∧ cell.vm = .none) →
    ∃ (vm₁ : Vm) (mk : MethodId) (methk : Method) (ck : Code), Stand p l e R s m args below meth c (T.setVm vm₁) locs cells slots ∧ pv_who yn nL zN s0 z (T.setVm vm₁) mk methk ck ∧
      ∀ target, (∀ acts, Steps p.tables e below (doInvoke e ((T.setVm vm₁).setTop (F0 m pc ls rest)) acts mk as.toArray).1 target) → Steps p.tables e below (T.setTop (F0 m pc ls (as.reverse ++ rest))) target
def pv_rK (b : Nat) (X : Nat → Nat) (pc len : Nat) (v : Value) : Prop := ∀ (H : Heap) (locs : List Loc) (cells slots : Nat) (Q : State → Prop) (ls : Array Slot) (rest : List Value), W p l e R s m args below meth c H locs cells slots Q (F0 m (pc + len) ls (pv_em b X v :: rest)) → W p l e R s m args below meth c H locs cells slots Q (F0 m pc ls rest)
def pv_rX (Z : pv_T) (b : Nat) (X : Nat → Nat) (Hb : Heap) (x : Nat → Nat → List pv_E → List Value → Option (List pv_E × List Value)) (pc : Nat) : Prop := ∀ (fr lo : Nat) (h h' : List pv_E) (st st' : List Value), x fr lo h st = some (h', st') → fr ≤ R.frames → lo ≤ R.locals →
  ∀ (n0 m0 : Nat) (H : Heap) (locs : List Loc) (cells slots : Nat) (Q : State → Prop) (ls : Array Slot), ls.size = c.maxLocals → pv_R Z b X Hb h H → (∀ q ∈ locs, b ≤ q.base) → pv_ct R n0 m0 h cells slots → pv_on p l e R s m args below meth c Q Z b X Hb n0 m0 ls (pc + 3) h' st' → W p l e R s m args below meth c H locs cells slots Q (F0 m pc ls (st.map (pv_em b X)))
/-- an exception comes, and is thrown -/
def pv_rT (Z : pv_T) (b : Nat) (X : Nat → Nat) (Hb : Heap) (nw : Nat → List Value) (pc a1 : Nat) : Prop := ∀ (h : List pv_E) (n0 m0 : Nat) (H : Heap) (locs : List Loc) (cells slots : Nat) (ls : Array Slot) (rest : List Value), ls.size = c.maxLocals → 6 ≤ R.frames → (rest.map fun v => v.category).sum + 82 ≤ R.locals → (∀ q, b ≤ q → ∀ cell : Cell, s.heap[q]? = some cell → cell.vm = .none) → s.heap.size = b + n0 → pv_R Z b X Hb h H → (∀ q ∈ locs, b ≤ q.base) → pv_ct R n0 m0 h cells slots → cells + 1 ≤ R.cells → slots + (nw a1).length ≤ R.slots →
  W p l e R s m args below meth c H locs cells slots (pv_Q R below s Z b X Hb n0 m0 (pv_P h (.inr (a1, nw a1))) (.inr (pv_N h))) (F0 m pc ls rest)
def pv_rH (cX : ClassId) (pc pc' : Nat) : Prop := ∀ (T : State) (locs : List Loc) (cells slots : Nat) (ls : Array Slot) (st : List Value) (a : Nat) (cell : Cell), Stand p l e R s m args below meth c T locs cells slots → T.heap[a]? = some cell → cell.cls = cX → cell.vm = .none →
  ∃ vm' : Vm, Stand p l e R s m args below meth c (T.setVm vm') locs cells slots ∧ ∀ target, Steps p.tables e below ((T.setVm vm').setTop (F0 m pc' ls [.ref a])) target → Steps p.tables e below ((T.setTop (F0 m pc ls st)).pushFrame (.throwing a)) target
end PVL
section PVZ
variable (p : Program) (l : Launch) (e : Env) (sc : Nat × (Nat → Int32)) (ar : Nat → Bool) (nw : Nat → List Value) (fty : Nat → Nat → FieldType) (co : Nat → Nat → Option Instr) (ax : Nat → Instr → Nat × Nat × Nat) (nL : Nat → Nat) (cst : Nat → Instr → Option Value) (rt : Nat → Option FieldType) (hs : Nat → List (Nat × Nat × Nat × Nat)) (rc : Nat → Nat)
  (xt : Nat → Nat → Nat → Nat → List pv_E → List Value → Option (List pv_E × List Value)) (by_ : Nat → ByteArray) (yn : Nat → MethodName) (nm : Nat → String) (zN : Nat) (Z : pv_T) (b : Nat) (X : Nat → Nat) (Hb : Heap) (s0 : State)
/-- all that a method's frame knows -/
def pv_Cx (y : Nat) (R : Room) (s : State) (m : MethodId) (args : Array Value) (below : List Frame) (meth : Method) (c : Code) : Prop :=
  (p.tables.exec = Jvm.exec ∧ c.code = by_ y ∧ c.maxLocals = nL y ∧ meth.sig.returnType = rt y ∧ meth.locks = false ∧ (hs y = [] → c.exceptionTable.toList = [])) ∧ pv_tab Z nm ar nw s ∧ va_X (X 0) sc.1 sc.2 s Hb ∧
  ∀ (pc : Nat) (i : Instr), co y pc = some i → (∃ len, decode (by_ y) pc = .ok (i, len) ∧ (pv_len i = 0 ∨ pv_len i = len)) ∧ pv_row p l e R s m args below meth c Z b X fty nw pc i (ax y i).1 (ax y i).2.1 ∧
    (pv_isth i (ax y i).1 = true → hs y = [] → pv_rT p l e R s m args below meth c Z b X Hb nw pc (ax y i).1) ∧
    (pv_isld i = true → ∀ v, cst y i = some v → pv_rK p l e R s m args below meth c b X pc (pv_len i) v) ∧
    (pv_isiv i = true → (ax y i).1 < 3 → pv_link p l e R s m args below meth c yn nL zN s0 (Z.2.2.1 (rc (ax y i).2.1)) pc (ax y i).1 (ax y i).2.1 (ax y i).2.2) ∧
    (pv_isiv i = true → 3 ≤ (ax y i).1 → pv_rX p l e R s m args below meth c Z b X Hb (xt (ax y i).1 (ax y i).2.1) pc) ∧
    ∀ x pc', 90 ≤ x → pv_catch (hs y) pc x = some pc' → pv_rH p l e R s m args below meth c (Z.2.1 x) pc pc'
end PVZ
theorem pv_W_mono {p : Program} {l : Launch} {e : Env} {R : Room} {s : State} {m : MethodId} {args : Array Value} {below : List Frame} {meth : Method} {c : Code} {H : Heap} {locs : List Loc} {cells slots : Nat} {Q Q' : State → Prop} {g : JFrame} (h : ∀ t, Q t → Q' t) (w : W p l e R s m args below meth c H locs cells slots Q g) : W p l e R s m args below meth c H locs cells slots Q' g := by
  intro T hT X
  obtain ⟨t, a, b⟩ := w T hT X
  exact ⟨t, a, h t b⟩
theorem pv_MQ {R : Room} {s : State} {args : Array Value} {below : List Frame} {cells slots : Nat} {Z : pv_T} {b : Nat} {X : Nat → Nat} {Hb : Heap} {n0 m0 : Nat} {h : List pv_E} {v : Option Value} (hc : pv_ct R n0 m0 h cells slots) (t : State)
    (q : MQ below (fun _ _ o t => o = .returned (v.map (pv_em b X)) ∧ pv_R Z b X Hb h t.heap) args s cells slots (fun a => b ≤ a) t) : pv_Q R below s Z b X Hb n0 m0 h (.inl v) t := by
  obtain ⟨o, h1, h2, ⟨h3, h4⟩, L, ⟨-, h5, h6⟩, h7⟩ := q
  obtain ⟨c1, c2, c3, c4⟩ := hc
  refine ⟨o, L, h1, h2, h3, h4, h5, ?_, h7, by omega, by omega, by omega, by omega⟩
  rw [show pv_N h - n0 = cells by omega, show pv_M h - m0 = slots by omega]
  exact h6
section PVY
variable {p : Program} {l : Launch} {e : Env} {R : Room} {s : State} {m : MethodId} {args : Array Value} {below : List Frame} {meth : Method} {c : Code} {H : Heap} {locs : List Loc} {cells slots : Nat}
variable {cc : ByteArray} {pc : Nat} {ls : Array Slot} {b : Nat} {X : Nat → Nat} {Z : pv_T} {Hb : Heap} {n0 m0 : Nat}
set_option maxHeartbeats 1000000 in
theorem pv_ret_ok {ret : Option FieldType} {i : Instr} {h : List pv_E} {st : List Value} {v : Option Value} (hx : p.tables.exec = Jvm.exec) (hb : c.code = cc) (hdg : decode cc pc = .ok (i, pv_len i)) (hr : meth.sig.returnType = ret) (hlk : meth.locks = false) (hh : pv_ret ret i st = some v) (hR : pv_R Z b X Hb h H) (hlo : ∀ q ∈ locs, b ≤ q.base) (hc : pv_ct R n0 m0 h cells slots) :
    W p l e R s m args below meth c H locs cells slots (pv_Q R below s Z b X Hb n0 m0 h (.inl v)) (F0 m pc ls (st.map (pv_em b X))) := by
  refine pv_W_mono (pv_MQ (args := args) hc) ?_
  unfold pv_ret at hh
  split at hh
  · split at hh
    · split at hh
      · split at hh
        · rename_i hn
          cases hh
          exact W.zret hx hb hr hn (fun t ht _ => ⟨rfl, by rw [ht]; exact hR⟩) hlo hdg hlk
        · cases hh
      · cases hh
    · cases hh
  · split at hh
    · split at hh
      · rename_i hn
        cases hh
        exact W.lret hx hb (hr.trans hn) (fun t ht _ => ⟨rfl, by rw [ht]; exact hR⟩) hlo hdg hlk
      · cases hh
    · cases hh
  · split at hh
    · split at hh
      · cases hh
        exact W.aret hx hb hr (Or.inl ⟨_, rfl⟩) (Or.inr ⟨_, rfl⟩) (fun t ht _ => ⟨rfl, by rw [ht]; exact hR⟩) hlo hdg hlk
      · cases hh
        exact W.aret hx hb hr (Or.inr ⟨_, rfl⟩) (Or.inr ⟨_, rfl⟩) (fun t ht _ => ⟨rfl, by rw [ht]; exact hR⟩) hlo hdg hlk
      · cases hh
    · split at hh
      · cases hh
        exact W.aret hx hb hr (Or.inl ⟨_, rfl⟩) (Or.inl rfl) (fun t ht _ => ⟨rfl, by rw [ht]; exact hR⟩) hlo hdg hlk
      · cases hh
        exact W.aret hx hb hr (Or.inr ⟨_, rfl⟩) (Or.inl rfl) (fun t ht _ => ⟨rfl, by rw [ht]; exact hR⟩) hlo hdg hlk
      · cases hh
    · split at hh
      · cases hh
        exact W.aret hx hb hr (Or.inl ⟨_, rfl⟩) (Or.inr ⟨_, rfl⟩) (fun t ht _ => ⟨rfl, by rw [ht]; exact hR⟩) hlo hdg hlk
      · cases hh
    · cases hh
  · split at hh
    · split at hh
      · rename_i hn
        cases hh
        exact W.vret hx hb (hr.trans hn) (fun t ht _ => ⟨rfl, by rw [ht]; exact hR⟩) hlo hdg hlk
      · cases hh
    · cases hh
  · cases hh
end PVY
