/-! the calls of String.length and String.charAt out of the program -/
noncomputable def pt_okS (q : Nat × Nat) : Bool := (!Nat.beq (pt_il q.1 q.2).1 5 || decide (pt_wd (pt_mp q.1 q.2) = some (.methodLink (pt_nm q.1) q.2 px_yn))) && (!Nat.beq (pt_il q.1 q.2).1 6 || decide (pt_wd (pt_mp q.1 q.2) = some (.methodLink (pt_nm q.1) q.2 px_ya)))
theorem pt_okS_all : pt_keyX.all pt_okS = true := by decide +kernel
def pt_asc1 (x : Int32) : Bool := decide (((x &&& 255).toUInt32 % 65536).toInt32 = x) && decide (x.toUInt32.toUInt16.toUInt32.toInt32 = x)
theorem pt_asc : pt_str.all (fun q => q.2.2.all pt_asc1 && Nat.blt q.2.2.length 100000) = true := by decide +kernel
theorem pt_xt5 {HT : Type} (z fr lo : Nat) (h : HT) (st : List Value) : pt_xt 5 z fr lo h st = (match (generalizing := false) st with
    | .retAddr (k + 1) :: r => match pt_str[k]? with
      | some q => if 2 ≤ fr ∧ (r.map Value.category).sum ≤ 8 ∧ 40 ≤ lo then some (h, .int (Int32.ofNat q.2.2.length) :: r) else none
      | none => none
    | _ => none) := rfl
theorem pt_xt6 {HT : Type} (z fr lo : Nat) (h : HT) (st : List Value) : pt_xt 6 z fr lo h st = (match (generalizing := false) st with
    | .int j :: .retAddr (k + 1) :: r => match pt_str[k]? with
      | some q => match pv_idx j q.2.2.length with
        | some n => if 4 ≤ fr ∧ (r.map Value.category).sum ≤ 8 ∧ 85 ≤ lo then some (h, .int (q.2.2.getD n 0) :: r) else none
        | none => none
      | none => none
    | _ => none) := rfl
/-- the strings, and the two statics -/
def pt_S (s0 : State) (X : Nat → Nat) : Prop := (∀ (k : Nat) (q : Nat × Nat × List Int32), pt_str[k]? = some q → ∃ v, px_Sf (X (k + 1)) v q.2.2.length (fun j => q.2.2.getD j 0) s0 s0.heap) ∧ ∃ z, px_Zf z s0 s0.heap
theorem px_Sf.kept {q v n : Nat} {f : Nat → Int32} {U : State} {H H1 : Heap} (h : px_Sf q v n f U H) (hq : ∀ a : Nat, a < H.size → H1[a]? = H[a]?) : px_Sf q v n f U H1 := ⟨h.1.kept (fun a ha _ => hq a ha), h.2.1.kept (fun a ha _ => hq a ha), h.2.2.1.kept (fun a ha _ => hq a ha), h.2.2.2.kept (fun a ha _ => hq a ha)⟩
theorem px_Zf.kept {z : Option Nat} {U : State} {H H1 : Heap} (h : px_Zf z U H) (hq : ∀ a : Nat, a < H.size → H1[a]? = H[a]?) : px_Zf z U H1 := ⟨va_Z.kept h.1 (fun a ha _ => hq a ha), va_Z.kept h.2 (fun a ha _ => hq a ha)⟩
theorem pt_strX_of {p : Program} {l : Launch} {s0 : State} {a0 : Array Value} {sc : Nat × (Nat → Int32)} {D : va_G} {aC xC : Nat → ClassId} {X : Nat → Nat} (hG : pt_G p l s0 a0 sc D aC xC X) (hS : pt_S s0 X) : pt_strX p l s0 D aC xC X := by
  obtain ⟨hts, hD, hA, hxC, hnc, hstr, hz1, hz2, hfl, hx, hsc, hXb⟩ := hG
  have hH := pt_holds_of hts
  intro e R s m args below meth c hs q n hown hk pc hdec hkd
  have hw : ∀ w ∈ px_SW, w.before args s = true := fun w h => word_at hs (px_SG h) (hts w (List.mem_append_right _ (of_decide_eq_true (List.all_eq_true.mp px_SW_in w h))))
  have hok := List.all_eq_true.mp pt_okS_all _ hk
  unfold pt_okS at hok
  dsimp only at hok
  obtain ⟨ok5, ok6⟩ := pt_and hok
  obtain ⟨z, hZ⟩ := hS.2
  rcases hkd with hkd | hkd
  · rw [hkd] at ok5 ⊢
    have hlk := hH _ _ (of_decide_eq_true (by simpa using ok5)) rfl args s hs
    intro fr lo h h' st st' hrun hfr hlo n0 m0 H locs cells slots Q ls hls hR hloc hct kk
    rw [pt_xt5] at hrun
    split at hrun
    · rename_i k r
      split at hrun
      · rename_i qq hq
        split at hrun
        · rename_i hc
          cases hrun
          obtain ⟨v, hv⟩ := hS.1 k qq hq
          have hv1 := (hv.kept (H1 := H) (fun a ha => hR.2.2 a ha)).moved hs.alike
          have hZ1 := (hZ.kept (H1 := H) (fun a ha => hR.2.2 a ha)).moved hs.alike
          obtain ⟨cell, c1, c2, c3, -⟩ := id hv1.1
          have e1 := pv_cat_em s0.heap.size X r
          refine W.callV (W.runV (cc := c.code) (nL := c.maxLocals) (rest := r.map (pv_em s0.heap.size X)) (S := ⟨hx, rfl, rfl, hown, hw⟩) (px_mn (q := X (k + 1)) (v := v) (n := qq.2.2.length) (z := z) (f := fun j => qq.2.2.getD j 0)) (C := "java/lang/String") ⟨callB_of 0 hw (px_GI (by simp [px_SW, px_cn])) rfl rfl rfl (hw _ (by simp [px_SW, px_yn])) hlk (by decide +kernel) ⟨by show 1 + 1 ≤ R.frames; omega, by show 8 + (1 + 11) + 20 ≤ R.locals; omega⟩, hw _ (by simp [px_SW]), hw _ (by simp [px_SW])⟩ ⟨px_bl1, ⟨cell, c1, c2, c3⟩, fun U hU hW => ⟨rfl, hU ▸ ⟨hv1.moved hW.alike, hZ1.moved hW.alike⟩⟩⟩ (As := []) rfl rfl hls rfl ?_ hdec ⟨?_, ?_⟩) (kk H locs cells slots hR hloc hct)
          · show 2 * 0 + ((r.map (pv_em s0.heap.size X)).map fun v => v.category).sum ≤ 8
            omega
          · have := hct.2.2.1
            omega
          · have := hct.2.2.2
            omega
        · cases hrun
      · cases hrun
    · cases hrun
  · rw [hkd] at ok6 ⊢
    have hlk := hH _ _ (of_decide_eq_true (by simpa using ok6)) rfl args s hs
    intro fr lo h h' st st' hrun hfr hlo n0 m0 H locs cells slots Q ls hls hR hloc hct kk
    rw [pt_xt6] at hrun
    split at hrun
    · rename_i j k r
      split at hrun
      · rename_i qq hq
        split at hrun
        · rename_i nn hidx
          split at hrun
          · rename_i hc
            cases hrun
            obtain ⟨v, hv⟩ := hS.1 k qq hq
            have hv1 := (hv.kept (H1 := H) (fun a ha => hR.2.2 a ha)).moved hs.alike
            have hZ1 := (hZ.kept (H1 := H) (fun a ha => hR.2.2 a ha)).moved hs.alike
            obtain ⟨cell, c1, c2, c3, -⟩ := id hv1.1
            have e1 := pv_cat_em s0.heap.size X r
            obtain ⟨as1, as2⟩ := pt_and (List.all_eq_true.mp pt_asc qq (List.mem_of_getElem? hq))
            have hlen : qq.2.2.length < 100000 := Nat.le_of_ble_eq_true as2
            have hin : vp_in j qq.2.2.length ∧ nn = j.toNatClampNeg := by
              unfold pv_idx at hidx
              split at hidx
              · cases hidx
              · rename_i hh
                cases hidx
                exact ⟨hh, rfl⟩
            obtain ⟨hin, rfl⟩ := hin
            have hlt : j.toNatClampNeg < qq.2.2.length := by
              unfold vp_in at hin
              have : ¬ qq.2.2.length ≤ j.toNatClampNeg := fun x => hin (Or.inr x)
              omega
            have hm : qq.2.2.getD j.toNatClampNeg 0 ∈ qq.2.2 := by
              rw [List.getD_eq_getElem?_getD, List.getElem?_eq_getElem hlt]
              exact List.getElem_mem hlt
            obtain ⟨b1, b2⟩ := pt_and (List.all_eq_true.mp as1 _ hm)
            refine W.callV (W.runV (cc := c.code) (nL := c.maxLocals) (rest := r.map (pv_em s0.heap.size X)) (S := ⟨hx, rfl, rfl, hown, hw⟩) (px_ma (q := X (k + 1)) (v := v) (n := qq.2.2.length) (z := z) (f := fun j => qq.2.2.getD j 0) (i := j) (by omega) hin (of_decide_eq_true b1) (congrArg Value.int (of_decide_eq_true b2))) (C := "java/lang/String") ⟨callB_of 1 hw (px_GI (by simp [px_SW, px_ca])) rfl rfl rfl (hw _ (by simp [px_SW, px_ya])) hlk (by decide +kernel) ⟨by show 3 + 1 ≤ R.frames; omega, by show 8 + (2 + 11) + 64 ≤ R.locals; omega⟩, hw _ (by simp [px_SW]), hw _ (by simp [px_SW])⟩ ⟨px_bl1, ⟨cell, c1, c2, c3⟩, fun U hU hW => ⟨rfl, hU ▸ ⟨hv1.moved hW.alike, hZ1.moved hW.alike⟩⟩⟩ (As := [.int j]) rfl rfl hls rfl ?_ hdec ⟨?_, ?_⟩) (kk H locs cells slots hR hloc hct)
            · show 2 * 0 + ((r.map (pv_em s0.heap.size X)).map fun v => v.category).sum ≤ 8
              omega
            · have := hct.2.2.1
              omega
            · have := hct.2.2.2
              omega
          · cases hrun
        · cases hrun
      · cases hrun
    · cases hrun
