/-! an exception's constructor with a message, and the throw: in a walk that has written nothing old -/
section PXC
variable {p : Program} {l : Launch} {e : Env} {R : Room} {s : State} {m : MethodId} {args : Array Value} {below : List Frame} {meth : Method} {c : Code} {W0 : State} {cells slots : Nat}
set_option maxHeartbeats 4000000 in
theorem px_ctor (X : Stand p l e R s m args below meth c W0 [] cells slots) (hx : p.tables.exec = Jvm.exec) (htr : e.platform.stackTraces = false) {x : String} {ic ix : Nat} {by6 : ByteArray} (hown : s.vm.findClass "MeterSheet" = some m.cls) (hfx : Bundle.fit x = true)
    (d0 : decode by6 0 = .ok (.aload_n 0, 1)) (d1 : decode by6 1 = .ok (.aload_n 1, 1)) (d2 : decode by6 2 = .ok (.invokespecial ix, 3)) (d5 : decode by6 5 = .ok (.return_, 1))
    (h0 : ∀ w ∈ px_L0, w.before args s = true) (h1 : ∀ w ∈ px_LX ic x ix by6, w.before args s = true)
    (hr1 : (Cond.isRef (.static Bundle.tN "UNASSIGNED_STACK" Bundle.steD)).before args s = true) (hr2 : (Cond.isRef (.static Bundle.tN "SUPPRESSED_SENTINEL" Bundle.listD)).before args s = true)
    {a : Addr} {cX : ClassId} {kX : Class} (hfX : s.vm.findClass x = some cX) (hkX : s.vm.classes[cX]? = some kX) (hcell : W0.heap[a]? = some (freshCell cX kX)) (hnew : s.heap.size ≤ a) {msg : Value} (hmsg : msg.isRef = true)
    {g : JFrame} (hg : g.method = m) (hsize : g.locals.size = c.maxLocals) (hlocked : g.locked = none) (hentered : g.entered = []) {rest : List Value} (hstack : g.stack = msg :: .ref a :: .ref a :: rest)
    (hd6 : decode c.code g.pc = .ok (.invokespecial ic, 3)) (hd9 : decode c.code (g.pc + 3) = .ok (.athrow, 1)) (hno : c.exceptionTable.toList = [])
    (hRf : 6 ≤ R.frames) (hRl : 2 * g.monitorRoom + (rest.map fun v => v.category).sum + 82 ≤ R.locals) (hlk : meth.locks = false) :
    ∃ (U : State) (ce : Cell) (L : List Loc), Steps p.tables e below (W0.setTop g) U ∧ U.status = .running ∧ Ended U below (.threw a) ∧ s.WarmedH U.vm ∧ s.sameButNew ({ U with vm := s.vm } : State) L cells slots ∧ (∀ q ∈ L, q.base = a) ∧ U.heap = W0.heap.setIfInBounds a ce ∧ ce.cls = cX ∧ ce.vm = .none := by
  have ho : e.platform.frameOwnsMonitors = true := by rw [X.admits.platform]
  have hfi : e.platform.finalization = false := by rw [X.admits.platform]
  have hpl : e.platform.magicAccessors = ({} : Platform).magicAccessors := by rw [X.admits.platform]
  have g0 : ∀ w, w ∈ px_L0 → w.holds args s none s [] = true := fun w hw => h0 w hw
  have g1 : ∀ w, w ∈ px_LX ic x ix by6 → w.holds args s none s [] = true := fun w hw => h1 w hw
  obtain ⟨T, Z0, L, -, Y⟩ := ThrowableC.of_atoms (args := args) ho hfi hpl (fun w hw => h0 w (by simp [px_L0, hw]))
  obtain ⟨Z, M, LZ, LM, hnZ⟩ := Init0T.ofS_atoms (args := args) hpl L Y (fun w hw => h0 w (by simp [px_L0, hw]))
  obtain ⟨P1, L1, n1, u1⟩ := PassC.ofS_atoms (args := args) (s := s) hpl (X := x) (Y := "java/lang/RuntimeException") (Bundle.fit_spec hfx).1 (by decide) d0 d1 d2 d5 (fun w hw => h1 w (by simp [px_LX, hw]))
  obtain ⟨P2, L2, n2, u2⟩ := PassC.ofS_atoms (args := args) (s := s) hpl (X := "java/lang/RuntimeException") (Y := "java/lang/Exception") (by decide) (by decide) Bundle.six_0 Bundle.six_1 Bundle.six_2 Bundle.six_5 (fun w hw => h0 w (by simp [px_L0, hw]))
  obtain ⟨P3, L3, n3, u3⟩ := PassC.ofS_atoms (args := args) (s := s) hpl (X := "java/lang/Exception") (Y := Bundle.tN) (by decide) (by decide) Bundle.six_0 Bundle.six_1 Bundle.six_2 Bundle.six_5 (fun w hw => h0 w (by simp [px_L0, hw]))
  have e12 : P1.sup = P2.m := Option.some.inj (u1.symm.trans n2)
  have e23 : P2.sup = P3.m := Option.some.inj (u2.symm.trans n3)
  have e3Z : P3.sup = Z.m T.toThrowableT := Option.some.inj (u3.symm.trans hnZ)
  have hf1 : s.vm.findClass x = some P1.m.cls := findClass_of_methodNamed n1
  cases Option.some.inj (hfX.symm.trans hf1)
  obtain ⟨cI, kI, q1, hk, hord, -, -, -⟩ := Cond.instantiable_spec (g1 (.instantiable x 6) (by simp [px_LX]))
  cases Option.some.inj (q1.symm.trans hf1)
  cases Option.some.inj (hkX.symm.trans hk)
  have hsel : ∀ (y : MethodName) (mk : MethodId), (Cond.selects x y y).holds args s none s [] = true → s.methodNamed? y = some mk → (y.cls ≠ "java/lang/invoke/MethodHandle" ∧ y.cls ≠ "java/lang/invoke/VarHandle") → selectMethod e.platform s.vm P1.m.cls mk = .method mk := by
    intro y mk hs hn hy
    obtain ⟨c2, r2, m2, z1, z2, z3, z4, -⟩ := Cond.selects_spec hs
    cases Option.some.inj (z1.symm.trans hf1)
    cases Option.some.inj (z2.symm.trans (State.methodFound?_of_named hn hy))
    cases Option.some.inj (z3.symm.trans hn)
    rw [Launch.admits_selectMethod X.admits]; exact z4
  have hsel0 := hsel _ _ (g1 (.selects x Bundle.tFill0 Bundle.tFill0) (by simp [px_LX])) Y.fill0 (by decide)
  have hselF := hsel _ _ (g1 (.selects x Bundle.tFill Bundle.tFill) (by simp [px_LX])) Y.fill (by decide)
  obtain ⟨cellS0, hcS0, hiss⟩ := Y.statics
  obtain ⟨u0, hu0⟩ := Cond.staticRefV Y.unassigned L.unassignedStatic L.statics hcS0 hiss hr1
  obtain ⟨sen, hsen⟩ := Cond.staticRefV Y.sentinel L.sentinelStatic L.statics hcS0 hiss hr2
  obtain ⟨ci198, i198, fB, b1, b2, b3, b4, -, hnB, htB, hffB⟩ := Cond.ownField (t := .object "java/lang/Object") Y.found L.cls (by decide +kernel) (g0 (.fieldLink Bundle.tN 198 Bundle.tN "backtrace" "Ljava/lang/Object;") (by simp [px_L0])) (g0 (.lays Bundle.tN Bundle.tN "backtrace" "Ljava/lang/Object;") (by simp [px_L0])) e.platform hpl
  obtain ⟨cellS, hcS, heS, -, hkeep⟩ := X.same.2.2.2.2.2 T.aS cellS0 hcS0
  have hkeep' : ∀ i, cellS.slots[i]? = cellS0.slots[i]? := fun i => hkeep i (fun h => by cases h)
  have hknS : cellS.vm ≠ .unknown := by
    rw [heS]; intro hu
    rw [show cellS0.vm = .unknown from hu] at hiss
    cases hiss
  have hneS : T.aS ≠ a := Nat.ne_of_lt (Nat.lt_of_lt_of_le (Array.getElem?_eq_some_iff.mp hcS0).1 hnew)
  obtain ⟨iM, hffM⟩ := Y.msg
  obtain ⟨tyC, dC, hdC, hdnC⟩ := Cond.laysAt hf1 hk Y.cause (g1 (.lays x Bundle.tN "cause" "Ljava/lang/Throwable;") (by simp [px_LX]))
  obtain ⟨tyS, dS, hdS, hdnS⟩ := Cond.laysAt hf1 hk Y.stack (g1 (.lays x Bundle.tN "stackTrace" Bundle.steD) (by simp [px_LX]))
  obtain ⟨tyP, dP, hdP, hdnP⟩ := Cond.laysAt hf1 hk Y.supp (g1 (.lays x Bundle.tN "suppressedExceptions" Bundle.listD) (by simp [px_LX]))
  obtain ⟨tyM, dM, hdM, hdnM⟩ := Cond.laysAt hf1 hk hffM (g1 (.lays x Bundle.tN "detailMessage" "Ljava/lang/String;") (by simp [px_LX]))
  obtain ⟨tyB, dB, hdB, hdnB⟩ := Cond.laysAt hf1 hk hffB (g1 (.lays x Bundle.tN "backtrace" "Ljava/lang/Object;") (by simp [px_LX]))
  have bC := Cond.laysApart hdB hdC hdnB hdnC (by rw [hnB, Y.causeName]; decide)
  have bS := Cond.laysApart hdB hdS hdnB hdnS (by rw [hnB, Y.stackName]; decide)
  have bP := Cond.laysApart hdB hdP hdnB hdnP (by rw [hnB, Y.suppName]; decide)
  have hskip : SkipFacts T e.platform s (fun u => u) u0 ((preparedCellV T.toThrowableT (freshCell P1.m.cls kX) a u0 sen).withEntry W0.cur) := by
    refine ⟨{ ci198 := ci198, i198 := i198, fBack := fB }, ⟨b1, b2, b3, b4⟩, ?_, fun _ _ => rfl⟩
    have hd := fresh_default (c := P1.m.cls) tyB
    rw [htB] at hd
    simpa [preparedCellV, Cell.setSlot, Cell.withEntry, Array.getElem?_setIfInBounds, bC, bS, bP, bC.symm, bS.symm, bP.symm, defaultValue] using hd
  obtain ⟨tm, methC, cdC, kC, vm₁, hnC, -, -, -, -, -, -, -, hW₁, st1⟩ := Steps.initColdS (tb := p.tables) (e := e) (below := below) (s := s) (U := W0) X.here hx X.warmed hpl hown (t := Bundle.initS x) rfl rfl (Bundle.fit_spec hfx).2
    (g1 (.methodLink "MeterSheet" ic (Bundle.initS x)) (by simp [px_LX])) (h1 (.instanceMethod (Bundle.initS x)) (by simp [px_LX, Bundle.passSAtoms])) (bytes := by6) (maxL := 2) (h1 (.code (Bundle.initS x) by6 2 none) (by simp [px_LX, Bundle.passSAtoms]))
    (f := g) hg (a := a) (msg := msg) (rest := .ref a :: rest) hstack hd6
  cases Option.some.inj (hnC.symm.trans n1)
  have X₁ := X.noted hW₁
  obtain ⟨vm₂, X₂, st2⟩ := X₁.ctorMessageOffV hx (g := { g with stack := .ref a :: rest }) hg hsize T L Z LZ M LM [P1, P2, P3]
    (fun P hP => by
      simp only [List.mem_cons, List.not_mem_nil, or_false] at hP
      rcases hP with rfl | rfl | rfl
      · exact L1
      · exact L2
      · exact L3) ⟨e12, e23, e3Z, trivial⟩ (u0 := u0) (sen := sen) (self := a) hmsg (cell := freshCell P1.m.cls kX) (cellS := cellS)
    hcell (fun _ => by simp) (by simp) rfl rfl hsel0 hselF hcS hneS hknS (by rw [hkeep']; exact hu0) (by rw [hkeep']; exact hsen)
    (Takes.of_laid hk hord tyC (by rw [Y.causeType]; rfl)) (Takes.of_laid hk hord tyS (by rw [Y.stackType]; exact fits_refV_array _ u0)) (Takes.of_laid hk hord tyP (by rw [Y.suppType]; exact fits_refV_object _ sen))
    (Takes.of_laid hk hord tyM (by rw [Y.msgType]; exact fits_refV_object _ ⟨msg, hmsg⟩)) Y.objLocals hskip htr [] hd6
    (by simp only [List.length_cons, List.length_nil]; omega) (by show 2 * g.monitorRoom + (1 + (rest.map fun v => v.category).sum) + (13 * 3 + 42) ≤ R.locals; omega)
  obtain ⟨hwalk, hrun, hended, hWU, hsame⟩ := X₂.athrowLeaves hx (g := { g with stack := .ref a :: rest, pc := g.pc + 3 }) hg hlocked hentered (fun y hy => by rw [hno] at hy; cases hy) (a := a) (rest := rest) rfl hd9 hlk
  refine ⟨_, plainBareV T.toThrowableT (freshCell P1.m.cls kX) a u0 sen msg, _, st1 _ (fun acts => ?_), hrun, hended, hWU, hsame, ?_, rfl, rfl, rfl⟩
  · rw [doInvoke_state]
    exact st2 _ hwalk
  · intro q hq
    simp only [List.nil_append, List.mem_cons, List.not_mem_nil, or_false] at hq
    rcases hq with rfl | rfl | rfl | rfl | rfl <;> rfl
end PXC
