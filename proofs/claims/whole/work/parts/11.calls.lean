/-! what a method's words say of it; calls link -/
theorem pt_and {a b : Bool} (h : (a && b) = true) : a = true ∧ b = true := by simpa using h
theorem pt_dec {P : Prop} (i : Decidable P) (h : @decide P i = true) : P := of_decide_eq_true h
theorem pt_cw_good (y : Nat) : goodWord (pt_cw y) = true := by
  unfold pt_cw
  split <;> rfl
section PTC
variable {s0 : State} {p : Program} {l : Launch} {e : Env} {R : Room} {s : State} {m : MethodId} {args : Array Value} {below : List Frame} {meth : Method} {c : Code}
theorem pt_okY_spec {z : Nat} (hz : z < pt_zN) : (pt_st z = true → pt_wd (pt_tp z) = some (.static (pt_yn z))) ∧ (pt_st z = false → pt_wd (pt_tp z) = some (.instanceMethod (pt_yn z))) ∧ pt_wd (pt_zp (pt_k z)) = some (.initialized (pt_nm (pt_k z))) ∧ (pt_yn z).cls = pt_nm (pt_k z) ∧ plainName (pt_nm (pt_k z)) = true ∧ pt_nm (pt_k z) ≠ "java/lang/invoke/MethodHandle" ∧ pt_nm (pt_k z) ≠ "java/lang/invoke/VarHandle" := by
  have h := pt_okY_all hz
  unfold pt_okY at h
  obtain ⟨h, h5⟩ := pt_and h
  obtain ⟨h, h4⟩ := pt_and h
  obtain ⟨h, h3⟩ := pt_and h
  obtain ⟨h1, h2⟩ := pt_and h
  refine ⟨fun q => ?_, fun q => ?_, of_decide_eq_true h2, of_decide_eq_true h3, h4, of_decide_eq_true h5⟩
  · rw [q] at h1
    exact of_decide_eq_true h1
  · rw [q] at h1
    exact of_decide_eq_true h1
/-- the method z at a state with warmer tables -/
theorem pt_code_at (hH : pt_holds s0) {z : Nat} (hz : z < pt_zN) {U : State} (hW : s0.WarmedH U.vm) : ∃ (mk : MethodId) (methk : Method) (ck : Code), U.methodNamed? (pt_yn z) = some mk ∧ U.vm.method? mk = some methk ∧ methk.code = some ck ∧ ck.code = pt_by z ∧ ck.maxLocals = pt_nL z ∧ methk.sig.returnType = pt_rt z ∧ methk.locks = false ∧ parseMethodDescriptor (pt_yn z).desc = some methk.sig ∧ ck.exceptionTable.toList.map (fun h => (h.startPc, h.endPc, h.handlerPc, h.catchType)) = pt_hr z ∧ U.plainMethod mk := by
  have hw := hH _ _ (pt_cw_all hz) (pt_cw_good z) #[] U hW
  have hpl : ∀ mk, U.methodNamed? (pt_yn z) = some mk → U.plainMethod mk := by
    intro mk hn k hk
    obtain ⟨k', hk', hname⟩ := className_of_methodNamed hn
    cases hk.symm.trans hk'
    have h4 := (pt_okY_spec hz).2.2.2
    rw [hname, h4.1, h4.2.1]
    rfl
  unfold pt_cw at hw
  split at hw
  · rename_i hr
    obtain ⟨mk, hn⟩ := Cond.code_named hw
    obtain ⟨methk, ck, h1, h2, h3, h4, h5, h6, h7, h8⟩ := Cond.code_spec hn hw
    refine ⟨mk, methk, ck, hn, h1, h2, h3, h4, h5, h6, h8, ?_, hpl mk hn⟩
    have h9 : ck.exceptionTable = #[] := by simpa using h7
    rw [h9, hr]
    rfl
  · obtain ⟨mk, methk, ck, hn, h1, h2, h3, h4, h5, h6, h7, h8⟩ := Cond.codeWith_spec hw
    exact ⟨mk, methk, ck, hn, h1, h2, h3, h4, h6, h7, h8, h5, hpl mk hn⟩
theorem pt_who_of (hH : pt_holds s0) {z : Nat} (hz : z < pt_zN) {U : State} (hW : s0.WarmedH U.vm) {mk : MethodId} (hn : U.methodNamed? (pt_yn z) = some mk) : ∃ (methk : Method) (ck : Code), pv_who pt_yn pt_nL pt_zN s0 z U mk methk ck := by
  obtain ⟨mk', methk, ck, h0, h1, h2, h3, h4, h5, h6, h7, h8, h9⟩ := pt_code_at hH hz hW
  cases h0.symm.trans hn
  exact ⟨methk, ck, hz, hW, hn, h1, h2, h6, h9, h4⟩
theorem pt_nar_len {d : String} {n : Nat} (h : pt_nar d = some n) {sig : MethodDescriptor} (hs : parseMethodDescriptor d = some sig) : sig.parameters.length = n := by
  unfold pt_nar at h
  rw [hs] at h
  exact Option.some.inj h
theorem pt_nar_len1 {d : String} {n : Nat} (h : (pt_nar d).map (· + 1) = some n) {sig : MethodDescriptor} (hs : parseMethodDescriptor d = some sig) : sig.parameters.length + 1 = n := by
  unfold pt_nar at h
  rw [hs] at h
  exact Option.some.inj h
/-- a static call -/
theorem pt_link0 (hH : pt_holds s0) (hx : p.tables.exec = Jvm.exec) (hs : s0.WarmedH s.vm) {q n z : Nat} (hown : s.vm.findClass (pt_nm q) = some m.cls) (hz : z < pt_zN) (hl : pt_wd (pt_mp q n) = some (.methodLink (pt_nm q) n (pt_yn z))) (hst : pt_st z = true) {k : Nat} (hk : pt_nar (pt_yn z).desc = some k) {pc : Nat} (hdg : decode c.code pc = .ok (.invokestatic n, 3)) (cC : ClassId) :
    pv_link p l e R s m args below meth c pt_yn pt_nL pt_zN s0 cC pc 0 z k := by
  intro T locs cells slots ls as rest Xs hlen _ _
  obtain ⟨y1, -, y3, y4, y5, y6, y7⟩ := pt_okY_spec hz
  obtain ⟨mk, methk, ck, h0, h1, h2, h3, h4, h5, h6, h7, h8, h9⟩ := pt_code_at hH hz hs
  have hlink := hH _ _ hl rfl args s hs
  have hstat := hH _ _ (y1 hst) rfl args s hs
  have hini := hH _ _ y3 rfl args s hs
  rw [← y4] at hini y6 y7
  have hstatic : methk.isStatic = true := Cond.static_spec h0 h1 hstat
  obtain ⟨kP, hkP, -⟩ := className_of_methodNamed h0
  have hinitP : kP.init = .initialized := Cond.initialized_spec (findClass_of_methodNamed h0) hkP hini
  obtain ⟨vm₁, X₁, hstep₁⟩ := Xs.invokestatic hx hown hlink h0 h1 hstatic hkP hinitP ⟨y6, y7⟩ (g := F0 m pc ls (as.reverse ++ rest)) rfl (argsL := as) (rest := rest) (hlen.trans (pt_nar_len hk h7).symm) rfl hdg
  have hW1 : s0.WarmedH (T.setVm vm₁).vm := State.WarmedH.trans hs X₁.warmed
  obtain ⟨methk', ck', hwho⟩ := pt_who_of hH hz hW1 (X₁.named h0)
  exact ⟨vm₁, mk, methk', ck', X₁, hwho, hstep₁⟩
/-- a constructor's call -/
theorem pt_link1 (hH : pt_holds s0) (hx : p.tables.exec = Jvm.exec) (hs : s0.WarmedH s.vm) {q n z : Nat} (hown : s.vm.findClass (pt_nm q) = some m.cls) (hz : z < pt_zN) (hl : pt_wd (pt_mp q n) = some (.methodLink (pt_nm q) n (pt_yn z))) (hst : pt_st z = false) (hi : (pt_yn z).name = "<init>") (hr : pt_hr z = []) (hrt : pt_rt z = none) {k : Nat} (hk : (pt_nar (pt_yn z).desc).map (· + 1) = some k) {pc : Nat} (hdg : decode c.code pc = .ok (.invokespecial n, 3)) (cC : ClassId) :
    pv_link p l e R s m args below meth c pt_yn pt_nL pt_zN s0 cC pc 1 z k := by
  intro T locs cells slots ls as rest Xs hlen hrec _
  obtain ⟨a, tl, rfl⟩ := hrec rfl
  obtain ⟨-, y2, y3, y4, y5, y6, y7⟩ := pt_okY_spec hz
  have hlink := hH _ _ hl rfl args s hs
  have hinst := hH _ _ (y2 hst) rfl args s hs
  have hcode := hH _ _ (pt_cw_all hz) (pt_cw_good z) args s hs
  unfold pt_cw at hcode
  rw [hr] at hcode
  dsimp only at hcode
  rw [hrt] at hcode
  rw [← y4] at y6 y7
  have hpl : e.platform.magicAccessors = ({} : Platform).magicAccessors := by rw [Xs.admits.platform]
  obtain ⟨mk, methM, cM, kP, vm₁, hnamed, hmethM, hcodeM, -, hlocalsM, -, hkP, -, hW₁, hstep₁⟩ := Steps.initColdArgs (e := e) Xs.here hx Xs.warmed hpl hown hi ⟨y6, y7⟩ hlink hinst hcode (f := F0 m pc ls ((Value.ref a :: tl).reverse ++ rest)) rfl (a := a) (argsL := tl) (rest := rest) (fun sig hsig => by have := pt_nar_len1 hk hsig; simp only [List.length_cons] at hlen; omega) (by simp) hdg
  have X₁ := Xs.noted hW₁
  have hW1 : s0.WarmedH (T.setVm vm₁).vm := State.WarmedH.trans hs X₁.warmed
  obtain ⟨methk', ck', hwho⟩ := pt_who_of hH hz hW1 (X₁.named hnamed)
  exact ⟨vm₁, mk, methk', ck', X₁, hwho, hstep₁⟩
/-- a call on an object -/
theorem pt_link2 (hH : pt_holds s0) (hx : p.tables.exec = Jvm.exec) (hs : s0.WarmedH s.vm) {q n z : Nat} (hown : s.vm.findClass (pt_nm q) = some m.cls) (hz : z < pt_zN) (hl : pt_wd (pt_mp q n) = some (.methodLink (pt_nm q) n (pt_yn z))) (hst : pt_st z = false) (hv : pt_wd (pt_vp z) = some (.selects (pt_nm (pt_k z)) (pt_yn z) (pt_yn z))) {k : Nat} (hk : (pt_nar (pt_yn z).desc).map (· + 1) = some k) {pc : Nat} (hdg : decode c.code pc = .ok (.invokevirtual n, 3)) {cC : ClassId} (hcC : s.vm.findClass (pt_nm (pt_k z)) = some cC) :
    pv_link p l e R s m args below meth c pt_yn pt_nL pt_zN s0 cC pc 2 z k := by
  intro T locs cells slots ls as rest Xs hlen _ hrec
  obtain ⟨a, tl, rfl, cell, g1, g2, g3⟩ := hrec rfl
  subst g2
  obtain ⟨-, y2, y3, y4, y5, y6, y7⟩ := pt_okY_spec hz
  have hlink := hH _ _ hl rfl args s hs
  have hinst := hH _ _ (y2 hst) rfl args s hs
  have hsel := hH _ _ hv rfl args s hs
  rw [← y4] at y6 y7
  obtain ⟨mk, methM, hnamed, hmethM, hstM, habM⟩ := Cond.instanceMethod_spec hinst
  obtain ⟨mk0, methk, ck, h0, h1, h2, h3, h4, h5, h6, h7, h8, h9⟩ := pt_code_at hH hz hs
  cases h0.symm.trans hnamed
  cases h1.symm.trans hmethM
  obtain ⟨c2, r2, m2, q1, q2, q3, q4, kP, hkP, hkPi⟩ := Cond.selects_spec hsel
  cases hcC.symm.trans q1
  cases (State.methodFound?_of_named hnamed ⟨y6, y7⟩).symm.trans q2
  cases hnamed.symm.trans q3
  have hselP : selectMethod e.platform s.vm cell.cls mk = .method mk := by rw [Launch.admits_selectMethod Xs.admits]; exact q4
  obtain ⟨vm₁, X₁, hstep₁⟩ := Xs.invokevirtual hx hown hlink hnamed hmethM hstM hkP hkPi ⟨y6, y7⟩ (a := a) (cell := cell) g1
    (fun z h => by rw [g3] at h; cases h) hselP hmethM habM hkP hkPi (g := F0 m pc ls ((Value.ref a :: tl).reverse ++ rest)) rfl (argsL := tl) (rest := rest) (by have := pt_nar_len1 hk h7; simp only [List.length_cons] at hlen; omega) (by simp) hdg
  have hW1 : s0.WarmedH (T.setVm vm₁).vm := State.WarmedH.trans hs X₁.warmed
  obtain ⟨methk', ck', hwho⟩ := pt_who_of hH hz hW1 (X₁.named hnamed)
  exact ⟨vm₁, mk, methk', ck', X₁, hwho, hstep₁⟩
end PTC
