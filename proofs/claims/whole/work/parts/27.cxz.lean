/-! System.arraycopy of bytes -/
theorem pt_cpw : (Cond.native arraycopyName ∈ lw_tbl ∧ Cond.static arraycopyName ∈ lw_tbl) ∧ Cond.initialized "java/lang/System" ∈ lw_tbl := ⟨⟨List.mem_append_right _ (by decide +kernel), List.mem_append_right _ (by decide +kernel)⟩, List.mem_append_right _ (by decide +kernel)⟩
noncomputable def pt_okA (q : Nat × Nat) : Bool := !Nat.beq (pt_il q.1 q.2).1 7 || decide (pt_wd (pt_mp q.1 q.2) = some (.methodLink (pt_nm q.1) q.2 arraycopyName))
theorem pt_okA_all : pt_keyX.all pt_okA = true := by decide +kernel
def pt_fit (f : Nat → Int32) (sp n : Nat) : Bool := (List.range n).all (fun i => fits .byte (.int (f (sp + i))))
def pt_cp {HT : Type} (G : HT → Nat → Option pv_E) (S : HT → Nat → pv_E → HT) (fr lo : Nat) (h : HT) (st : List Value) : Option (HT × List Value) := match st with
  | .int n :: .int dp :: .ref d :: .int sp :: .ref a :: r => match G h a, G h d with
    | some (.inl (2, (n0, .inl f))), some (.inl (2, (n1, .inl g))) =>
      if (¬ sp < 0 ∧ ¬ dp < 0 ∧ ¬ n < 0) ∧ (sp.toNatClampNeg + n.toNatClampNeg ≤ n0 ∧ dp.toNatClampNeg + n.toNatClampNeg ≤ n1) ∧ 1 ≤ fr ∧ (r.map Value.category).sum + (nativeFrameWords "java/lang/System" "arraycopy" 5 + 11) ≤ lo ∧ pt_fit f sp.toNatClampNeg n.toNatClampNeg = true then
        some (S h d (.inl (2, (n1, .inl (va_cpy f g sp.toNatClampNeg dp.toNatClampNeg n.toNatClampNeg)))), r) else none
    | _, _ => none
  | _ => none
section PTC
variable {p : Program} {l : Launch} {e : Env} {R : Room} {s0 s : State} {a0 : Array Value} {m : MethodId} {args : Array Value} {below : List Frame} {meth : Method} {c : Code} {sc : Nat × (Nat → Int32)} {D : va_G} {aC xC : Nat → ClassId} {X : Nat → Nat}
theorem pt_cp_ok (hG : pt_G p l s0 a0 sc D aC xC X) (hs : s0.WarmedH s.vm) {q n : Nat} (hown : s.vm.findClass (pt_nm q) = some m.cls) (hk : (q, n) ∈ pt_keyX) (h7 : (pt_il q n).1 = 7) {pc : Nat} (hdec : decode c.code pc = .ok (.invokestatic n, 3)) :
    pv_rX p l e R s m args below meth c (aC, xC, D) s0.heap.size X s0.heap (pt_cp pv_G pv_S) pc := by
  have hG' := hG
  obtain ⟨hts, hD, hA, hxC, hnc, hstr, hz1, hz2, hfl, hx, hsc, hXb⟩ := hG'
  have hH := pt_holds_of hts
  have hw := List.all_eq_true.mp pt_okA_all _ hk
  unfold pt_okA at hw
  dsimp only at hw
  rw [h7] at hw
  have hlk := hH _ _ (of_decide_eq_true (by simpa using hw)) rfl args s hs
  have hnat := word_at hs (good_of_word (w := Cond.native arraycopyName) rfl) (a' := args) (hts _ pt_cpw.1.1)
  have hsta := word_at hs (good_of_word (w := Cond.static arraycopyName) rfl) (a' := args) (hts _ pt_cpw.1.2)
  have hini := word_at hs (good_of_word (w := Cond.initialized "java/lang/System") rfl) (a' := args) (hts _ pt_cpw.2)
  have htab : pv_tab (aC, xC, D) pt_nm pt_ar pt_nw s := pt_tab_of rfl rfl hH hD hA hs
  have harr : ArrOfT s (aC 2) .byte := htab.1 2 (by decide)
  intro fr lo h h' st st' hrun hfr hlo n0 m0 H locs cells slots Q ls hls hR hloc hct kk
  unfold pt_cp at hrun
  split at hrun
  · rename_i nn dp d sp a r
    split at hrun
    · rename_i n1 f n2 g hga hgd
      split at hrun
      · rename_i hc
        cases hrun
        obtain ⟨⟨h1, h2, h3⟩, ⟨h4, h5⟩, h6, h8, h9⟩ := hc
        have tn : ∀ z : Int32, ¬ z < 0 → z.toInt = (z.toNatClampNeg : Int) := by
          intro z hz
          have hz0 : (0 : Int) ≤ z.toInt := by
            have := Int32.not_lt.mp hz
            simpa using Int32.le_iff_toInt_le.mp this
          show z.toInt = ((z.toInt.toNat : Nat) : Int)
          omega
        intro T hT Xs
        have hc0 : H[s0.heap.size + a]? = some (vp_cell (aC 2) (n1, .inl f)) := hR.2.1 a _ hga
        have hc1 : H[s0.heap.size + d]? = some (vp_cell (aC 2) (n2, .inl g)) := hR.2.1 d _ hgd
        obtain ⟨-, k0, hk0, cm0, hkk0⟩ := harr n1 (fun j => .int (f j))
        obtain ⟨-, k1, hk1, cm1, hkk1⟩ := harr n2 (fun j => .int (g j))
        have e1 := pv_cat_em s0.heap.size X st'
        obtain ⟨vm', X', step⟩ := Xs.arraycopy hx hown hlk hnat hsta hini (src := s0.heap.size + a) (dst := s0.heap.size + d) (cs := vp_cell (aC 2) (n1, .inl f)) (cd := vp_cell (aC 2) (n2, .inl g)) (srcPos := sp) (destPos := dp) (n := nn) (by rw [hT]; exact hc0) (by rw [hT]; exact hc1)
          (fun _ h => by cases h) (fun _ h => by cases h) (fun h => by cases h) (fun h => by cases h) hk0 hk1 hkk0 hkk1 (by simp [refKind]) h1 h2 h3
          (by rw [tn sp h1, tn nn h3]; show ¬ _ > ((arrV (aC 2) n1 (fun j => .int (f j))).slots.size : Int); rw [arrV_size]; omega)
          (by rw [tn dp h2, tn nn h3]; show ¬ _ > ((arrV (aC 2) n2 (fun j => .int (g j))).slots.size : Int); rw [arrV_size]; omega)
          (fun vm₁ _ i hi => by
            have e : (vp_cell (aC 2) (n1, .inl f)).slots.getD (sp.toNatClampNeg + i) .null = .int (f (sp.toNatClampNeg + i)) := by
              show (arrV (aC 2) n1 (fun j => .int (f j))).slots.getD _ _ = _
              rw [Array.getD_eq_getD_getElem?, arrV_read _ _ (by omega)]
              rfl
            refine ⟨?_, ?_⟩
            · rw [e]
              exact List.all_eq_true.mp h9 i (List.mem_range.mpr hi)
            · rw [e]
              exact trivial)
          (g := F0 m pc ls (.int nn :: .int dp :: .ref (s0.heap.size + d) :: .int sp :: .ref (s0.heap.size + a) :: st'.map (pv_em s0.heap.size X))) rfl hls (rest := st'.map (pv_em s0.heap.size X)) rfl hdec (by omega) (by show 2 * 0 + _ + _ ≤ _; omega)
        have e2 : copied (vp_cell (aC 2) (n1, .inl f)) (vp_cell (aC 2) (n2, .inl g)) sp dp nn = vp_cell (aC 2) (n2, .inl (va_cpy f g sp.toNatClampNeg dp.toNatClampNeg nn.toNatClampNeg)) := va_copied (fun z => .int z) (aC 2) (aC 2) f g h4
        rw [e2] at X' step
        have hl : s0.heap.size + d < H.size := (Array.getElem?_eq_some_iff.mp hc1).1
        have hheap : ((T.setVm vm').setCell (s0.heap.size + d) (vp_cell (aC 2) (n2, .inl (va_cpy f g sp.toNatClampNeg dp.toNatClampNeg nn.toNatClampNeg)))).heap = H.setIfInBounds (s0.heap.size + d) (vp_cell (aC 2) (n2, .inl (va_cpy f g sp.toNatClampNeg dp.toNatClampNeg nn.toNatClampNeg))) := by rw [← hT]; rfl
        have oq : ∀ q : Nat, q ≠ s0.heap.size + d → (H.setIfInBounds (s0.heap.size + d) (vp_cell (aC 2) (n2, .inl (va_cpy f g sp.toNatClampNeg dp.toNatClampNeg nn.toNatClampNeg))))[q]? = H[q]? := fun q hq => by simp [Array.getElem?_setIfInBounds, Ne.symm hq]
        obtain ⟨t, a1, b1⟩ := kk _ _ cells slots (hR.set hgd (by simp) oq (show (H.setIfInBounds (s0.heap.size + d) _)[s0.heap.size + d]? = some _ by simp [Array.getElem?_setIfInBounds, hl]; rfl)) (fun q hq => by
          rcases List.mem_append.mp hq with h | h
          · exact hloc q h
          · obtain ⟨z, -, hz⟩ := List.mem_map.mp h
            rw [← hz]
            exact Nat.le_add_right _ _) (hct.set hgd rfl) _ hheap X'
        exact ⟨t, step t a1, b1⟩
      · cases hrun
    · cases hrun
  · cases hrun
/-- all that is not ours: by its kind -/
def pt_xtA {HT : Type} (G : HT → Nat → Option pv_E) (S : HT → Nat → pv_E → HT) (kd z fr lo : Nat) (h : HT) (st : List Value) : Option (HT × List Value) := bif Nat.beq kd 7 then pt_cp G S fr lo h st else pt_xt kd z fr lo h st
end PTC
