/-! Object's constructor; an exception is caught; a frame's knowledge put together -/
theorem pt_xt3 {HT : Type} (z fr lo : Nat) (h : HT) (st : List Value) : pt_xt 3 z fr lo h st = (match (generalizing := false) st with | .ref _ :: r => if 1 ≤ fr ∧ (r.map Value.category).sum + 12 ≤ lo then some (h, r) else none | _ => none) := rfl
theorem pt_oi : Cond.instanceMethod objectInit ∈ lw_tbl ∧ Cond.code objectInit ⟨#[0xb1]⟩ 1 none ∈ lw_tbl := ⟨List.mem_append_right _ (by decide +kernel), List.mem_append_right _ (by decide +kernel)⟩
theorem pt_k317 : (List.range 318).all (fun y => (pt_hr y).isEmpty || decide (pt_nm (pt_k y) = "MeterSheetLaw")) = true := by decide +kernel
section PTZ
variable {p : Program} {l : Launch} {e : Env} {R : Room} {s0 s : State} {a0 : Array Value} {m : MethodId} {args : Array Value} {below : List Frame} {meth : Method} {c : Code} {sc : Nat × (Nat → Int32)} {D : va_G} {aC xC : Nat → ClassId} {X : Nat → Nat}
theorem pt_oi_ok (hG : pt_G p l s0 a0 sc D aC xC X) (hs : s0.WarmedH s.vm) {q n : Nat} (hown : s.vm.findClass (pt_nm q) = some m.cls) (hk : (q, n) ∈ pt_keyX) (h3 : (pt_il q n).1 = 3) {pc : Nat} (hdec : decode c.code pc = .ok (.invokespecial n, 3)) (z : Nat) :
    pv_rX p l e R s m args below meth c (aC, xC, D) s0.heap.size X s0.heap (pt_xt 3 z) pc := by
  obtain ⟨hts, hD, hA, hxC, hnc, hstr, hz1, hz2, hfl, hx, hsc, hXb⟩ := hG
  have hH := pt_holds_of hts
  intro fr lo h h' st st' hrun hfr hlo n0 m0 H locs cells slots Q ls hls hR hloc hct k
  have hw := List.all_eq_true.mp pt_okX_all _ hk
  unfold pt_okX at hw
  dsimp only at hw
  rw [h3] at hw
  have hlk := hH _ _ (of_decide_eq_true (by simpa using hw)) rfl args s hs
  have hin := word_at hs (good_of_word (w := Cond.instanceMethod objectInit) rfl) (a' := args) (hts _ pt_oi.1)
  have hco := word_at hs (good_of_word (w := Cond.code objectInit ⟨#[0xb1]⟩ 1 none) rfl) (a' := args) (hts _ pt_oi.2)
  rw [pt_xt3] at hrun
  split at hrun
  · rename_i i r
    split at hrun
    · rename_i hc
      cases hrun
      refine W.objInit hx rfl hown hlk hin hco rfl hls rfl hdec (by omega) ?_ (k H locs cells slots hR hloc hct)
      have e1 := pv_cat_em s0.heap.size X st'
      show 2 * 0 + ((st'.map (pv_em s0.heap.size X)).map fun v => v.category).sum + 12 ≤ R.locals
      omega
    · cases hrun
  · cases hrun
theorem pt_h_ok (hG : pt_G p l s0 a0 sc D aC xC X) (hs : s0.WarmedH s.vm) {y : Nat} (hy : y < 318) (hown : s.vm.findClass (pt_nm (pt_k y)) = some m.cls) (hc : meth.code = some c) (het : c.exceptionTable.toList.map px_raw = pt_hr y) {pc x pc' : Nat} (hcat : pv_catch (pt_hs y) pc x = some pc') :
    pv_rH p l e R s m args below meth c (xC x) pc pc' := by
  obtain ⟨hts, hD, hA, hxC, hnc, hstr, hz1, hz2, hfl, hx, hsc, hXb⟩ := hG
  have hok := List.all_eq_true.mp px_okh_1 y (List.mem_range.mpr hy)
  unfold px_okh at hok
  obtain ⟨h1, h2⟩ := pt_and hok
  rw [of_decide_eq_true h1] at hcat
  have hx9 := px_catch_in hcat
  have hne : pt_hr y ≠ [] := by
    intro h0
    rw [h0] at hcat
    cases hcat
  have hkl : pt_nm (pt_k y) = "MeterSheetLaw" := by
    have h := List.all_eq_true.mp pt_k317 y (List.mem_range.mpr hy)
    rcases (Bool.or_eq_true _ _).mp h with h4 | h4
    · exact absurd (List.isEmpty_iff.mp h4) hne
    · exact of_decide_eq_true h4
  rw [hkl] at hown
  rw [← het] at hcat
  refine px_rH (fun i hi => word_at hs (good_of_word rfl) (hts _ (px_ix_lk hi).1)) hown hc (classAt_moved hs.alike (hxC x hx9.1 hx9.2)) (fun y2 hy2 h90 h93 => ?_) (fun h hh => ?_) hcat
  · obtain ⟨c1, t1, e1, e2, e3⟩ := va_Nc.moved hs.alike (hnc x y2 hx9.1 hx9.2 h90 h93 hy2)
    have e4 := (classAt_moved hs.alike (hxC x hx9.1 hx9.2)).1
    cases e1.symm.trans e4
    exact ⟨t1, e2, e3⟩
  · have hm : px_raw h ∈ pt_hr y := het ▸ List.mem_map_of_mem hh
    exact List.all_eq_true.mp h2 _ hm
/-- what the strings' own methods must do -/
def pt_strX (p : Program) (l : Launch) (s0 : State) (D : va_G) (aC xC : Nat → ClassId) (X : Nat → Nat) : Prop :=
  ∀ (e : Env) (R : Room) (s : State) (m : MethodId) (args : Array Value) (below : List Frame) (meth : Method) (c : Code), s0.WarmedH s.vm → ∀ (q n : Nat), s.vm.findClass (pt_nm q) = some m.cls → (q, n) ∈ pt_keyX → ∀ (pc : Nat), decode c.code pc = .ok (.invokevirtual n, 3) → (pt_il q n).1 = 5 ∨ (pt_il q n).1 = 6 →
    pv_rX p l e R s m args below meth c (aC, xC, D) s0.heap.size X s0.heap (pt_xt (pt_il q n).1 (pt_il q n).2.1) pc
theorem pt_xt_none {kd z : Nat} (h : kd ≠ 3) (h5 : kd ≠ 5) (h6 : kd ≠ 6) {pc : Nat} : pv_rX p l e R s m args below meth c (aC, xC, D) s0.heap.size X s0.heap (pt_xt kd z) pc := by
  intro fr lo h0 h' st st' hrun
  unfold pt_xt at hrun
  split at hrun
  · exact absurd rfl h
  · exact absurd rfl h5
  · exact absurd rfl h6
  · cases hrun
theorem pt_xtA7 (z : Nat) : pt_xtA pv_G pv_S 7 z = pt_cp pv_G pv_S := rfl
theorem pt_xtAn {kd : Nat} (h : kd ≠ 7) (z : Nat) : pt_xtA pv_G pv_S kd z = pt_xt kd z := by
  funext fr lo h0 st
  unfold pt_xtA
  have e : Nat.beq kd 7 = false := by
    cases hb : Nat.beq kd 7 with
    | false => rfl
    | true => exact absurd (Nat.eq_of_beq_eq_true hb) h
  rw [e]
  rfl
theorem pt_x_ok (hG : pt_G p l s0 a0 sc D aC xC X) (hS : pt_strX p l s0 D aC xC X) (hs : s0.WarmedH s.vm) {y : Nat} (hy : y < 318) (hown : s.vm.findClass (pt_nm (pt_k y)) = some m.cls) (hb : c.code = pt_by y) {pc : Nat} {i : Instr} (hco : pt_co y pc = some i) (hcz : pc < pt_cz y) (hi : pv_isiv i = true) (h3 : 3 ≤ (pt_ax y i).1) :
    pv_rX p l e R s m args below meth c (aC, xC, D) s0.heap.size X s0.heap (pt_xtA pv_G pv_S (pt_ax y i).1 (pt_ax y i).2.1) pc := by
  have hchk := pt_chk_all hy hcz
  unfold pt_chk at hchk
  rw [hco] at hchk
  dsimp only at hchk
  obtain ⟨hd, hr⟩ := pt_and hchk
  obtain ⟨len, hdec, hlen⟩ := pt_dok_spec hd
  rw [← hb] at hdec
  have hb3 : ∀ n, 3 ≤ (pt_il (pt_k y) n).1 → Nat.blt (pt_il (pt_k y) n).1 3 = false := by
    intro n hn
    cases hbb : Nat.blt (pt_il (pt_k y) n).1 3 with
    | false => rfl
    | true => have := Nat.le_of_ble_eq_true hbb; omega
  unfold pv_isiv at hi
  split at hi
  · rename_i n
    obtain rfl : 3 = len := hlen.resolve_left (by simp [pv_len])
    dsimp only at hr
    rw [hb3 n h3] at hr
    obtain ⟨r1, r2⟩ := pt_and hr
    show pv_rX p l e R s m args below meth c (aC, xC, D) s0.heap.size X s0.heap (pt_xtA pv_G pv_S (pt_il (pt_k y) n).1 (pt_il (pt_k y) n).2.1) pc
    have h56 : (pt_il (pt_k y) n).1 = 5 ∨ (pt_il (pt_k y) n).1 = 6 := by
      rcases (Bool.or_eq_true _ _).mp r2 with h4 | h4
      · exact Or.inl (Nat.eq_of_beq_eq_true h4)
      · exact Or.inr (Nat.eq_of_beq_eq_true h4)
    rw [pt_xtAn (by omega)]
    exact hS e R s m args below meth c hs _ _ hown (pt_has_mem r1) pc hdec h56
  · rename_i n
    obtain rfl : 3 = len := hlen.resolve_left (by simp [pv_len])
    dsimp only at hr
    rw [hb3 n h3] at hr
    obtain ⟨r1, r2⟩ := pt_and hr
    show pv_rX p l e R s m args below meth c (aC, xC, D) s0.heap.size X s0.heap (pt_xtA pv_G pv_S (pt_il (pt_k y) n).1 (pt_il (pt_k y) n).2.1) pc
    rcases (Bool.or_eq_true _ _).mp r2 with h4 | h4
    · have h5 := Nat.eq_of_beq_eq_true h4
      rw [pt_xtAn (by omega), h5]
      exact pt_oi_ok hG hs hown (pt_has_mem r1) h5 hdec _
    · have h5 := Nat.eq_of_beq_eq_true h4
      rw [pt_xtAn (by omega)]
      exact pt_xt_none (by omega) (by omega) (by omega)
  · rename_i n
    obtain rfl : 3 = len := hlen.resolve_left (by simp [pv_len])
    dsimp only at hr
    rw [hb3 n h3] at hr
    obtain ⟨r1, r2⟩ := pt_and hr
    have h5 := Nat.eq_of_beq_eq_true r2
    show pv_rX p l e R s m args below meth c (aC, xC, D) s0.heap.size X s0.heap (pt_xtA pv_G pv_S (pt_il (pt_k y) n).1 (pt_il (pt_k y) n).2.1) pc
    rw [h5, pt_xtA7]
    exact pt_cp_ok hG hs hown (pt_has_mem r1) h5 hdec
  · cases hi
/-- a frame's knowledge -/
theorem pt_Cx_of (hG : pt_G p l s0 a0 sc D aC xC X) (hS : pt_strX p l s0 D aC xC X) (hs : s0.WarmedH s.vm) {y : Nat} (hy : y < 318) (hown : s.vm.findClass (pt_nm (pt_k y)) = some m.cls) (hc : meth.code = some c) (hb : c.code = pt_by y) (hname : meth.name = (pt_m y).2.1) (hml : c.maxLocals = pt_nL y) (hrt : meth.sig.returnType = pt_rt y) (hlk : meth.locks = false) (het : c.exceptionTable.toList.map px_raw = pt_hr y) :
    pv_Cx p l e sc pt_ar pt_nw pt_fty pt_cox pt_ax pt_nL pt_cst pt_rt pt_hs pt_rc (pt_xtA pv_G pv_S) pt_by pt_yn pt_nm pt_zN (aC, xC, D) s0.heap.size X s0.heap s0 y R s m args below meth c := by
  have hG' := hG
  obtain ⟨hts, hD, hA, hxC, hnc, hstr, hz1, hz2, hfl, hx, hsc, hXb⟩ := hG'
  have hno : pt_hs y = [] → c.exceptionTable.toList = [] := by
    intro h0
    have hok := List.all_eq_true.mp px_okh_1 y (List.mem_range.mpr hy)
    unfold px_okh at hok
    have h1 := of_decide_eq_true (pt_and hok).1
    rw [h0, ← het] at h1
    simpa using h1.symm
  refine ⟨⟨hx, hb, hml, hrt, hlk, hno⟩, pt_tab_of rfl rfl (pt_holds_of hts) hD hA hs, va_X.moved hs.alike hsc, fun pc i hi => ?_⟩
  obtain ⟨hcz, hco⟩ := pt_cox_spec hi
  refine ⟨pt_chk_at hy hco hcz, pt_row_ok hG hs hy hown hb hname hco hcz, fun h1 h2 => pt_th_ok hG hs hy hown hb hlk (hno h2) hco hcz h1, fun h1 v hv => pt_ld_ok hG hs hy hown hb hco hcz h1 hv, fun h1 h2 => pt_link_ok hG hs hy hown hb hco hcz h1 h2, fun h1 h2 => pt_x_ok hG hS hs hy hown hb hco hcz h1 h2, fun x pc' _ hcat => pt_h_ok hG hs hy hown hc het hcat⟩
theorem pt_Cx (hG : pt_G p l s0 a0 sc D aC xC X) (hS : pt_strX p l s0 D aC xC X) {z : Nat} (hw : pv_who pt_yn pt_nL pt_zN s0 z s m meth c) :
    pv_Cx p l e sc pt_ar pt_nw pt_fty pt_cox pt_ax pt_nL pt_cst pt_rt pt_hs pt_rc (pt_xtA pv_G pv_S) pt_by pt_yn pt_nm pt_zN (aC, xC, D) s0.heap.size X s0.heap s0 z R s m args below meth c := by
  obtain ⟨w1, w2, w3, w4, w5, w6, w7, w8⟩ := hw
  obtain ⟨mk', methk, ck, h0, h1, h2, h3, h4, h5, h6, h7, h8, h9⟩ := pt_code_at (pt_holds_of hG.1) w1 w2
  cases h0.symm.trans w3
  cases h1.symm.trans w4
  cases h2.symm.trans w5
  have hz : z < 318 := by have : pt_zN = 317 := rfl; omega
  have hcl := (pt_okY_spec w1).2.2.2.1
  exact pt_Cx_of hG hS w2 hz (hcl ▸ findClass_of_methodNamed w3) h2 h3 (name_of_methodNamed w3 w4).1 h4 h5 h6 h8
end PTZ
