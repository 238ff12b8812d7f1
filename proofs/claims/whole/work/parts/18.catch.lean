/-! an exception is caught by one of the law's helpers: the catch types may still be cold -/
section PXH
variable {e : Env} {f : JFrame} {a : Addr}
theorem px_go_cold {x : ExceptionTableEntry} {t : List ExceptionTableEntry} {c : ClassId} {cell : Cell} {s : State} {vm' : Vm} {Q : Handler → Pre} {E : CtlPost} {d : Bool} {acts : List Action} (hx : covers x f.pc = true) (h0 : x.catchType ≠ 0)
    (hg : (Jvm.resolveClass f.method.cls x.catchType).Gives e.toSetting s.vm (.ok c) vm') (hsz : vm'.classes.size ≤ s.vm.classes.size) (hcell : s.heap[a]? = some cell) (hobj : ∀ k, cell.vm ≠ .statics k)
    (hk : ∃ k, vm'.classes[cell.cls]? = some k) (hc : ∃ k, vm'.classes[c]? = some k) :
    wp (findHandler.go f a (x :: t)) Q E e d acts s ↔
      if vm'.assignable cell.cls c = true then Q (.found x.handlerPc) d acts (s.setVm vm') else wp (findHandler.go f a t) Q E e d acts (s.setVm vm') := by
  simp only [covers] at hx
  obtain ⟨ha, ht⟩ := hg.op (op := VmOp.resolveClass f.method.cls x.catchType) rfl
  have hcell' : (s.setVm vm').heap[a]? = some cell := hcell
  have hk' : ∃ k, (s.setVm vm').vm.classes[cell.cls]? = some k := hk
  have hc' : ∃ k, (s.setVm vm').vm.classes[c]? = some k := hc
  cases hfit : vm'.assignable cell.cls c <;>
    simp [findHandler.go, hx, h0, ha, ht, hsz, hcell, hobj, hk, hc, hfit, VmOp.dirties, VmOp.acts]
end PXH
def px_xn (x : Nat) : String := match x with
  | 90 => "java/lang/IllegalArgumentException"
  | 91 => "java/lang/IllegalStateException"
  | 92 => "java/lang/UnsupportedOperationException"
  | _ => "java/util/NoSuchElementException"
def px_kc (i : Nat) : Nat := match i with
  | 13 => 90
  | 15 => 91
  | 21 => 92
  | _ => 93
def px_hk (q : Nat × Nat × Nat × Nat) : Nat × Nat × Nat × Nat := (q.1, q.2.1, q.2.2.1, px_kc q.2.2.2)
def px_raw (h : ExceptionTableEntry) : Nat × Nat × Nat × Nat := (h.startPc, h.endPc, h.handlerPc, h.catchType)
def px_ix (i : Nat) : Bool := i == 13 || i == 15 || i == 21 || i == 43
noncomputable def px_okh (y : Nat) : Bool := decide (pt_hs y = (pt_hr y).map px_hk) && (pt_hr y).all (fun q => px_ix q.2.2.2)
theorem px_okh_1 : (List.range 318).all px_okh = true := by decide +kernel
theorem px_ix_lk {i : Nat} (h : px_ix i = true) : Cond.classLink "MeterSheetLaw" i (px_xn (px_kc i)) ∈ lw_tbl ∧ i ≠ 0 := by
  unfold px_ix at h
  simp only [Bool.or_eq_true, beq_iff_eq] at h
  rcases h with ((rfl | rfl) | rfl) | rfl
  · exact ⟨List.mem_append_right _ (by decide +kernel), by decide⟩
  · exact ⟨List.mem_append_right _ (by decide +kernel), by decide⟩
  · exact ⟨List.mem_append_right _ (by decide +kernel), by decide⟩
  · exact ⟨List.mem_append_right _ (by decide +kernel), by decide⟩
section PXF
variable {p : Program} {l : Launch} {e : Env} {R : Room} {s : State} {m : MethodId} {args : Array Value} {below : List Frame} {meth : Method} {c : Code}
theorem px_find (hown : s.vm.findClass "MeterSheetLaw" = some m.cls) (hpl : e.platform.magicAccessors = ({} : Platform).magicAccessors) (hlk : ∀ i, px_ix i = true → (Cond.classLink "MeterSheetLaw" i (px_xn (px_kc i))).before args s = true)
    {f : JFrame} (hf : f.method = m) {a : Addr} {cell : Cell} {S : State} (hcell : S.heap[a]? = some cell) (hobj : cell.vm = .none) {x : Nat} (hcls : ClassAt s (px_xn x) cell.cls) (hnc : ∀ y, y ≠ x → 90 ≤ y → y ≤ 93 → ∃ t, s.vm.findClass (px_xn y) = some t ∧ s.vm.assignable cell.cls t = false) {pc' : Nat} :
    ∀ es : List ExceptionTableEntry, (∀ h ∈ es, px_ix h.catchType = true) → pv_catch ((es.map px_raw).map px_hk) f.pc x = some pc' → ∀ vm₀, s.WarmedH vm₀ → ∃ vm', s.WarmedH vm' ∧ ∀ (Q : Handler → Pre) (E : CtlPost) (d : Bool) (acts : List Action), wp (findHandler.go f a es) Q E e d acts (S.setVm vm₀) ↔ Q (.found pc') d acts (S.setVm vm') := by
  intro es
  induction es with
  | nil => intro _ h; cases h
  | cons h t ih =>
    intro hix hcat vm₀ hW
    have hi := hix h List.mem_cons_self
    have hix' : ∀ h ∈ t, px_ix h.catchType = true := fun y hy => hix y (List.mem_cons_of_mem _ hy)
    simp only [List.map_cons, pv_catch, px_hk, px_raw] at hcat
    by_cases hcov : covers h f.pc = true
    · have hcv : h.startPc ≤ f.pc ∧ f.pc < h.endPc := by simpa [covers] using hcov
      obtain ⟨cc, hfc, hcl⟩ := Cond.classLink_spec hown (hlk _ hi) e.platform hpl
      obtain ⟨hg₁, hwarm₁, hready₁⟩ := State.classEntry (e := e) hW hcl
      have hsz : (vm₀.noted m.cls h.catchType (.cls cc)).classes.size ≤ (S.setVm vm₀).vm.classes.size := by
        show _ ≤ vm₀.classes.size
        rw [Vm.size_noted]
        exact Nat.le_refl _
      have hat : ∀ {nm : String} {q : ClassId}, s.vm.findClass nm = some q → ∃ k, (vm₀.noted m.cls h.catchType (.cls cc)).classes[q]? = some k := by
        intro nm q hq
        exact Vm.classAt_of_findClass (name := nm) (by rw [hwarm₁.alike.findClass]; exact hq)
      have hne0 : h.catchType ≠ 0 := (px_ix_lk hi).2
      by_cases hx : px_kc h.catchType = x
      · rw [if_pos ⟨hcv.1, hcv.2, hx⟩] at hcat
        cases hcat
        have hcc : cc = cell.cls := by
          rw [hx] at hfc
          exact Option.some.inj (hfc.symm.trans hcls.1)
        subst hcc
        refine ⟨_, hwarm₁, fun Q E d acts => ?_⟩
        rw [px_go_cold (cell := cell) (c := cell.cls) (vm' := vm₀.noted m.cls h.catchType (.cls cell.cls)) hcov hne0 (by rw [hf]; exact hg₁) hsz hcell (fun k hk => by rw [hobj] at hk; cases hk) (hat hcls.1) (hat hcls.1)]
        rw [if_pos (by rw [hwarm₁.alike.assignable]; exact va_assign hcls)]
        rfl
      · rw [if_neg (fun hh => hx hh.2.2)] at hcat
        obtain ⟨vm', hw', hall⟩ := ih hix' hcat _ hwarm₁
        have hr : 90 ≤ px_kc h.catchType ∧ px_kc h.catchType ≤ 93 := by
          unfold px_kc
          split <;> omega
        obtain ⟨tt, ht1, ht2⟩ := hnc _ hx hr.1 hr.2
        cases hfc.symm.trans ht1
        refine ⟨vm', hw', fun Q E d acts => ?_⟩
        rw [px_go_cold (cell := cell) (c := cc) (vm' := vm₀.noted m.cls h.catchType (.cls cc)) hcov hne0 (by rw [hf]; exact hg₁) hsz hcell (fun k hk => by rw [hobj] at hk; cases hk) (hat hcls.1) (hat hfc)]
        rw [if_neg (by rw [hwarm₁.alike.assignable, ht2]; decide)]
        exact hall Q E d acts
    · have hcv : ¬ (h.startPc ≤ f.pc ∧ f.pc < h.endPc ∧ px_kc h.catchType = x) := fun hh => hcov (by simp [covers, hh.1, hh.2.1])
      rw [if_neg hcv] at hcat
      obtain ⟨vm', hw', hall⟩ := ih hix' hcat vm₀ hW
      refine ⟨vm', hw', fun Q E d acts => ?_⟩
      rw [W.findHandler_go_skip (by simpa using hcov)]
      exact hall Q E d acts
/-- the row: the walk goes on at the handler -/
theorem px_rH (hs0 : ∀ i, px_ix i = true → (Cond.classLink "MeterSheetLaw" i (px_xn (px_kc i))).before args s = true) (hown : s.vm.findClass "MeterSheetLaw" = some m.cls) (hc : meth.code = some c) {x pc pc' : Nat} {cX : ClassId} (hcls : ClassAt s (px_xn x) cX) (hnc : ∀ y, y ≠ x → 90 ≤ y → y ≤ 93 → ∃ t, s.vm.findClass (px_xn y) = some t ∧ s.vm.assignable cX t = false)
    (hix : ∀ h ∈ c.exceptionTable.toList, px_ix h.catchType = true) (hcat : pv_catch ((c.exceptionTable.toList.map px_raw).map px_hk) pc x = some pc') : pv_rH p l e R s m args below meth c cX pc pc' := by
  intro T locs cells slots ls st a cell X h1 h2 h3
  subst h2
  have hpl : e.platform.magicAccessors = ({} : Platform).magicAccessors := by rw [X.admits.platform]
  obtain ⟨vm', hw', hall⟩ := px_find (S := (T.setTop (F0 m pc ls st)).pushFrame (.throwing a)) (f := F0 m pc ls st) hown hpl hs0 rfl (a := a) (cell := cell) (by rw [Stand.throwing_heap]; exact h1) h3 hcls hnc c.exceptionTable.toList hix hcat T.vm X.warmed
  refine ⟨vm', X.noted hw', fun target hrest => ?_⟩
  have h : At T (F0 m pc ls st).method c below := X.here
  obtain ⟨hgo, hw⟩ := h.throwing a
  refine Steps.head hgo hw ?_
  have hm1 : ((T.setTop (F0 m pc ls st)).pushFrame (.throwing a)).vm.method? (F0 m pc ls st).method = some meth := by
    rw [Stand.throwing_vm]; exact X.method'
  have hfind : ∀ (Q : Handler → Pre) (E : CtlPost) (d : Bool) (acts : List Action), wp (findHandler (F0 m pc ls st) a) Q E e d acts ((T.setTop (F0 m pc ls st)).pushFrame (.throwing a)) ↔ Q (.found pc') d acts (((T.setTop (F0 m pc ls st)).pushFrame (.throwing a)).setVm vm') := by
    intro Q E d acts
    rw [W.findHandler_eq hm1 hc]
    exact hall Q E d acts
  have hstep : ∀ r, (stepThrowing e ((T.setTop (F0 m pc ls st)).pushFrame (.throwing a)) a (.java (F0 m pc ls st) :: r)).1 = (((T.setTop (F0 m pc ls st)).pushFrame (.throwing a)).setVm vm').setFrames (.java (F0 m pc' ls [.ref a]) :: r) := by
    intro r
    simp only [stepThrowing, searchFrame, vmDo]
    generalize hr : Sem.go _ e false [] _ = res
    obtain ⟨as, rfl, ha⟩ := Sem.eq_ok_of hr (a := Handler.found pc') (s' := ((T.setTop (F0 m pc ls st)).pushFrame (.throwing a)).setVm vm') (acts' := []) (by simp [hfind _ _ _ _])
    rfl
  rw [stepThread_throwing (frames_entered h.top _), hstep]
  obtain ⟨g₀, hg⟩ := Option.isSome_iff_exists.mp h.top
  obtain ⟨r, hr⟩ := State.topJava?_eq_some.mp hg
  have hr' : (T.setVm vm').frames = .java g₀ :: r := hr
  rw [State.setTop_of_frames _ hr'] at hrest
  rw [hr]
  have e9 : (((T.setTop (F0 m pc ls st)).pushFrame (.throwing a)).setVm vm').setFrames (.java (F0 m pc' ls [.ref a]) :: r) = (T.setVm vm').setFrames (.java (F0 m pc' ls [.ref a]) :: r) := by
    rw [State.pushFrame, State.setTop_of_frames _ hr, State.setFrames_setFrames]
    show ((T.setVm vm').setFrames _).setFrames _ = _
    rw [State.setFrames_setFrames]
  exact e9 ▸ hrest
end PXF
