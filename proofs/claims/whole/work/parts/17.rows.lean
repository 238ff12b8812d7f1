/-! String constants; an exception comes and is thrown -/
section PXR
variable {s0 : State} {a0 : Array Value} {p : Program} {l : Launch} {e : Env} {R : Room} {s : State} {m : MethodId} {args : Array Value} {below : List Frame} {meth : Method} {c : Code} {H : Heap} {locs : List Loc} {cells slots : Nat} {Q : State → Prop}
theorem px_ldcw (hx : p.tables.exec = Jvm.exec) {own tx : String} {index q pc : Nat} {ls : Array Slot} {rest : List Value} (hown : s.vm.findClass own = some m.cls) (hZ : vk_R own index tx q s) (hdg : decode c.code pc = .ok (.ldc_w index, 3))
    (k : W p l e R s m args below meth c H locs cells slots Q (F0 m (pc + 3) ls (.ref q :: rest))) : W p l e R s m args below meth c H locs cells slots Q (F0 m pc ls rest) := by
  intro T hT X
  obtain ⟨t, a1, b1⟩ := k T hT X
  refine ⟨t, ?_, b1⟩
  obtain ⟨kc, cf, i, a', hk, hcf, hcp, -, hr, hev'⟩ := Cond.stringRef_spec hown hZ.1
  cases hZ.2.symm.trans hev'
  obtain ⟨k', hk', he⟩ := X.warmed.alike.2.2 _ _ hk
  have hr' : k'.resolved[index]? = some (some (.string q)) := by
    rcases X.warmed.entry hk hk' index with h | ⟨h, -⟩
    · rw [h]; exact hr
    · rw [hr] at h; cases h
  jvm_step X.here [hx, hdg, ldc_w.wp_string (e := e) (s := T) (f := F0 m pc ls rest) X.here.top hk' (by rw [he]; exact hcf) hcp hr']
  exact a1
/-- a String constant is loaded, in either form -/
def px_isS (i : Instr) (index len : Nat) : Prop := (i = .ldc index ∧ len = 2) ∨ (i = .ldc_w index ∧ len = 3)
theorem px_ldc (hx : p.tables.exec = Jvm.exec) {own tx : String} {index q pc len : Nat} {i : Instr} (hi : px_isS i index len) {ls : Array Slot} {rest : List Value} (hown : s.vm.findClass own = some m.cls) (hZ : vk_R own index tx q s) (hdg : decode c.code pc = .ok (i, len))
    (k : W p l e R s m args below meth c H locs cells slots Q (F0 m (pc + len) ls (.ref q :: rest))) : W p l e R s m args below meth c H locs cells slots Q (F0 m pc ls rest) := by
  rcases hi with ⟨rfl, rfl⟩ | ⟨rfl, rfl⟩
  · exact va_ldcS hx rfl hown hZ hdg k
  · exact px_ldcw hx hown hZ hdg k
set_option maxHeartbeats 4000000 in
theorem px_rT {Z : pv_T} {X : Nat → Nat} (hts : ∀ w ∈ lw_tbl, w.before a0 s0 = true) (hz1 : (Cond.isRef (.static Bundle.tN "UNASSIGNED_STACK" Bundle.steD)).before a0 s0 = true) (hz2 : (Cond.isRef (.static Bundle.tN "SUPPRESSED_SENTINEL" Bundle.listD)).before a0 s0 = true) (hfl : l.flags = flags0) (hx : p.tables.exec = Jvm.exec) (hs : s0.WarmedH s.vm) (hown : s.vm.findClass "MeterSheet" = some m.cls) (hlk : meth.locks = false) (hno : c.exceptionTable.toList = [])
    {x tx : String} {ic ix n k q len a1 pc : Nat} {by6 : ByteArray} (hfx : Bundle.fit x = true) (d0 : decode by6 0 = .ok (.aload_n 0, 1)) (d1 : decode by6 1 = .ok (.aload_n 1, 1)) (d2 : decode by6 2 = .ok (.invokespecial ix, 3)) (d5 : decode by6 5 = .ok (.return_, 1))
    (hX : px_ok (px_LX ic x ix by6) = true) (hcl : Cond.classLink "MeterSheet" n x ∈ lw_tbl) (hxC : s0.vm.findClass x = some (Z.2.1 a1)) (h90 : ¬ a1 < 90) (hnw : (pt_nw a1).length = 6) (hstr : vk_R "MeterSheet" k tx q s0)
    (e0 : decode c.code pc = .ok (.new n, 3)) (e3 : decode c.code (pc + 3) = .ok (.dup, 1)) {i : Instr} (hi : px_isS i k len) (e4 : decode c.code (pc + 4) = .ok (i, len)) (e5 : decode c.code (pc + 4 + len) = .ok (.invokespecial ic, 3)) (e8 : decode c.code (pc + 4 + len + 3) = .ok (.athrow, 1)) :
    pv_rT p l e R s m args below meth c Z s0.heap.size X s0.heap pt_nw pc a1 := by
  intro h n0 m0 H locs cells slots ls rest hsz hfr hlo hsv hsn hR hlo' hct hc1 hc2 T hT Xs
  have X' := pv_rebase Xs hct.2.2.1 hct.2.2.2
  have htr : e.platform.stackTraces = false := Launch.traces_off hfl Xs.admits
  have hs' : s0.WarmedH (T.setFrames (.invoking m args :: below)).vm := State.WarmedH.trans hs Xs.warmed
  have hq : ∀ q, q < s0.heap.size → (T.setFrames (.invoking m args :: below)).heap[q]? = s0.heap[q]? := by
    intro q hq
    show T.heap[q]? = _
    rw [hT]
    exact hR.2.2 q hq
  have hown' : (T.setFrames (.invoking m args :: below)).vm.findClass "MeterSheet" = some m.cls := by
    show T.vm.findClass _ = _
    rw [Xs.warmed.alike.findClass]; exact hown
  have hLX := px_hold hts hX hs' hq args
  have hL0 := px_hold hts px_ok0 hs' hq args
  have hini : (Cond.initialized Bundle.tN).before a0 s0 = true := hts _ (List.mem_append_right _ (by decide +kernel))
  have hy1 := px_ref (hts _ (List.mem_append_right _ (by decide +kernel))) hini hz1 hs' hq args
  have hy2 := px_ref (hts _ (List.mem_append_right _ (by decide +kernel))) hini hz2 hs' hq args
  have hxC' : (T.setFrames (.invoking m args :: below)).vm.findClass x = some (Z.2.1 a1) := by
    rw [hs'.alike.findClass]; exact hxC
  have hclx : (Cond.classLink "MeterSheet" n x).before args (T.setFrames (.invoking m args :: below)) = true := word_at hs' (good_of_word rfl) (hts _ hcl)
  have hstr' := vk_R.warm hs' hstr
  obtain ⟨v1, v2, v3, v4⟩ := hct
  rw [hnw] at hc2
  have w : W p l e { frames := R.frames, cells := R.cells - cells, slots := R.slots - slots, locals := R.locals } (T.setFrames (.invoking m args :: below)) m args below meth c H [] 0 0
      (fun t => ∃ (ce : Cell) (L : List Loc) (H1 : Heap), t.status = .running ∧ Ended t below (.threw H.size) ∧ (T.setFrames (.invoking m args :: below)).WarmedH t.vm ∧ (T.setFrames (.invoking m args :: below)).sameButNew ({ t with vm := (T.setFrames (.invoking m args :: below)).vm } : State) L 1 6 ∧ (∀ q ∈ L, q.base = H.size) ∧ H1.size = H.size + 1 ∧ (∀ q, q < H.size → H1[q]? = H[q]?) ∧ t.heap = H1.setIfInBounds H.size ce ∧ ce.cls = Z.2.1 a1 ∧ ce.vm = .none) (F0 m pc ls rest) := by
    refine W.newcK hx rfl hown' hclx (hLX (.instantiable x 6) (by simp [px_LX])) (hLX (.initialized x) (by simp [px_LX])) rfl e0 (by show 0 + 1 ≤ R.cells - cells; omega) (by show 0 + 6 ≤ R.slots - slots; omega) hxC' rfl fun H1 kC hkC g1 z1 o1 => ?_
    refine lv_dup hx rfl e3 rfl ?_
    refine px_ldc hx hi hown' hstr' e4 ?_
    intro T2 hT2 X2
    obtain ⟨U, ce, L, r1, r2, r3, r4, r5, r6, r7, r8, r9⟩ := px_ctor X2 hx htr hown' hfx d0 d1 d2 d5 hL0 hLX hy1 hy2 hxC' hkC (a := H.size) (by rw [hT2]; exact g1) (by show T.heap.size ≤ H.size; rw [hT]; exact Nat.le_refl _) (msg := .ref q) rfl (g := F0 m (pc + 4 + len) ls (.ref q :: .ref H.size :: .ref H.size :: rest)) rfl hsz rfl rfl rfl e5 e8 hno (by show 6 ≤ R.frames; exact hfr) (by show 2 * 0 + (rest.map fun v => v.category).sum + 82 ≤ R.locals; omega) hlk
    refine ⟨U, r1, ce, L, H1, r2, r3, r4, r5, r6, z1, o1, ?_, r8, r9⟩
    rw [r7, hT2]
  obtain ⟨t, st, ce, L, H1, t1, t2, t3, t4, t5, t6, t7, t8, t9, t10⟩ := w T hT X'
  have hHs := hR.1
  have hN : H.size = s0.heap.size + pv_N h := hHs
  refine ⟨t, st, .threw H.size, locs ++ L, t1, t2, ?_, ?_, ?_, ?_, ?_, ?_, ?_, ?_, ?_⟩
  · show _ = Outcome.threw (s0.heap.size + pv_N h)
    rw [hN]
  · refine hR.push (x := .inr (a1, pt_nw a1)) ?_ ?_ ?_
    · rw [t8]; simp [t6]
    · intro q hq
      rw [t8, Array.getElem?_setIfInBounds, if_neg (by omega)]
      exact t7 q hq
    · unfold pv_at1
      dsimp only
      rw [if_neg h90]
      refine ⟨ce, ?_, t9, t10⟩
      rw [t8]
      simp [Array.getElem?_setIfInBounds, t6]
  · exact State.WarmedH.trans Xs.warmed t3
  · have hb := pv_same_back Xs t4
    rw [show pv_N (pv_P h (.inr (a1, pt_nw a1))) - n0 = cells + 1 by rw [pv_N_push]; omega, show pv_M (pv_P h (.inr (a1, pt_nw a1))) - m0 = slots + 6 by rw [pv_M_push]; simp only [pv_sz, hnw]; omega]
    exact hb
  · intro q hq
    rcases List.mem_append.mp hq with hq | hq
    · exact hlo' q hq
    · rw [t5 q hq]; omega
  · rw [pv_N_push]; omega
  · rw [pv_M_push]; omega
  · rw [pv_N_push]; omega
  · rw [pv_M_push]; simp only [pv_sz, hnw]; omega
end PXR
