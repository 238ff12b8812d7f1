/-! the typed machine is sound -/
section TST
variable {sc : Nat × (Nat → Int32)} {y pc : Nat} {D : tD} {lv : List (Nat × tV)} {st : List tV} {K : tD → Int → Prop} {E : tD → Nat → Prop} {i : Instr}
theorem rcv_spec {kd z : Nat} {h : List pv_E} {as : List tV} {as' : List Value} (hh : hr h D) (hs : sr as as') (H : t_rcv kd z as = true) : pv_recv pv_G pt_rc kd z h as' = true := by
  unfold t_rcv at H
  split at H
  · rfl
  · split at H
    · rename_i t r
      obtain ⟨v, r', rfl, h1, h2⟩ := sr_cons hs
      have hge := Nat.le_of_ble_eq_true H
      obtain ⟨k, x⟩ := t
      have e := (vnp (show 6 ≤ k by have : 1000 ≤ k := hge; omega) h1).2.2.1
      subst e
      rfl
    · cases H
  · split at H
    · rename_i t r
      obtain ⟨v, r', rfl, h1, h2⟩ := sr_cons hs
      obtain ⟨hb1, hb2⟩ := (Bool.and_eq_true _ _).mp H
      obtain ⟨k, x⟩ := t
      have ek : k = 1200 + pt_rc z := nbeq.mp hb1
      have hlt := nblt.mp hb2
      subst ek
      obtain ⟨a1, a2, rfl, a4⟩ := vnp (by omega) h1
      have h5 := hh.2 x.toNat (by omega)
      rw [cer_obj (c := pt_rc z) (by omega)] at h5
      obtain ⟨fs, g1, -⟩ := h5
      show (match pv_G h x.toNat with | some (.inr (ci, _)) => ci == pt_rc z && Nat.blt ci 90 | _ => false) = true
      rw [g1]
      show (pt_rc z == pt_rc z && Nat.blt (pt_rc z) 90) = true
      rw [hb2]
      simp
    · cases H
  · cases H
theorem tcat_rev : ∀ (l : List tV) (m : List tV), tcat1 (l.reverse ++ m) = tcat1 l + tcat1 m := by
  intro l
  induction l with
  | nil => intro m; show tcat1 m = 0 + tcat1 m; omega
  | cons t r ih =>
    intro m
    rw [List.reverse_cons, List.append_assoc, ih]
    show tcat1 r + ((bif Nat.beq t.1 1 then 2 else 1) + tcat1 m) = (bif Nat.beq t.1 1 then 2 else 1) + tcat1 r + tcat1 m
    omega
theorem k_call {kd z k : Nat} (hco : pt_cox y pc = some i) (hi : pv_isiv i = true) (hkd : (pt_ax y i).1 = kd) (hz : (pt_ax y i).2.1 = z) (hk : (pt_ax y i).2.2 = k) (h3 : kd < 3) {ih : tD → Nat → List (Nat × tV) → List tV → Prop} (hih : ∀ D pc lv st, ih D pc lv st → WP sc y pc D lv st K E) (H : t_call sc y pc kd z k D lv st ih E) : WP sc y pc D lv st K E := by
  unfold t_call at H
  cases hb0 : Nat.blt st.length k with
  | true => rw [hb0] at H; exact H.elim
  | false =>
  rw [hb0] at H
  have hlen := nblf hb0
  cases hb : (t_rcv kd z (st.take k).reverse && Nat.ble (tnf z + 1) (tnf y) && Nat.ble (tcat1 (st.drop k) + (pt_nL z + 11) + tnl z) (tnl y) && Nat.ble (tcat1 (st.take k)) (pt_nL z)) with
  | false => rw [hb] at H; exact H.elim
  | true =>
  rw [hb] at H
  obtain ⟨hb1, hb4⟩ := (Bool.and_eq_true _ _).mp hb
  obtain ⟨hb1, hb3⟩ := (Bool.and_eq_true _ _).mp hb1
  obtain ⟨hb1, hb2⟩ := (Bool.and_eq_true _ _).mp hb1
  have q2 := Nat.le_of_ble_eq_true hb2
  have q3 := Nat.le_of_ble_eq_true hb3
  have q4 := Nat.le_of_ble_eq_true hb4
  intro hsc fr lo h lv' st' hf hl hh hlr hs
  obtain ⟨fr', rfl⟩ : ∃ f, fr = f + 1 := ⟨fr - 1, by omega⟩
  have hsd := sr_drop k hs
  have hsa := sr_rev (sr_take k hs)
  have ecat := sr_cat hsd
  have elen := sr_len hs
  have esl := sl_len hsa
  have esl2 : tcat1 (st.take k).reverse = tcat1 (st.take k) := by
    have := tcat_rev (st.take k) []
    rw [List.append_nil] at this
    rw [this]
    show _ + 0 = _
    omega
  have hrc := rcv_spec hh hsa hb1
  have hlen2 : ¬ st'.length < (pt_ax y i).2.2 := by rw [hk, elen]; omega
  have hc : pv_recv pv_G pt_rc (pt_ax y i).1 (pt_ax y i).2.1 h (st'.take (pt_ax y i).2.2).reverse = true ∧ ((st'.drop (pt_ax y i).2.2).map Value.category).sum + (pt_nL (pt_ax y i).2.1 + 11) ≤ lo ∧ (lg_sl (st'.take (pt_ax y i).2.2).reverse).length ≤ pt_nL (pt_ax y i).2.1 := by
    rw [hk, hz, hkd]
    exact ⟨hrc, by rw [ecat]; omega, by rw [esl, esl2]; exact q4⟩
  obtain ⟨n1, h1, o1, D1, e1, hh1, hp1⟩ := H hsc fr' (lo - (((st'.drop k).map Value.category).sum + (pt_nL z + 11))) h (lv_args 0 (st'.take k).reverse) [] (by omega) (by rw [ecat]; omega) hh (lr_args 0 hsa) True.intro
  unfold tpost at hp1
  split at hp1
  · rename_i v
    obtain ⟨x, hx, hbk⟩ := hp1
    obtain ⟨b, hsb, hihb⟩ := bk_spec hx hbk
    obtain ⟨n2, h2, o2, D2, e2, hh2, hp2⟩ := hih _ _ _ _ hihb hsc (fr' + 1) lo h1 lv' (v.toList ++ st'.drop k) hf hl hh1 hlr (sr_app hsb hsd)
    refine ⟨n1 + n2 + 1, h2, o2, D2, ?_, hh2, hp2⟩
    have e1' := pr_more (Nat.le_add_right n1 n2) (Nat.le_refl _) (Nat.le_refl _) e1
    rw [rn_iv hco hi (by omega) hlen2 hc (v := v) (h1 := h1) (by rw [hk, hz]; exact e1'), hk]
    exact pr_more (Nat.le_add_left n2 n1) (Nat.le_refl _) (Nat.le_refl _) e2
  · rename_i a
    obtain ⟨e, hx, hhd⟩ := hp1
    have e1' := pr_more (Nat.le_add_right n1 0) (Nat.le_refl _) (Nat.le_refl _) e1
    rcases hnd_spec hhd with ⟨pc', c1, c2⟩ | ⟨c1, c2⟩
    · obtain ⟨n2, h2, o2, D2, e2, hh2, hp2⟩ := hih _ _ _ _ c2 hsc (fr' + 1) lo h1 lv' [.ref a] hf hl hh1 hlr ⟨⟨a, rfl⟩, True.intro⟩
      refine ⟨n1 + n2 + 1, h2, o2, D2, ?_, hh2, hp2⟩
      have e1' := pr_more (Nat.le_add_right n1 n2) (Nat.le_refl _) (Nat.le_refl _) e1
      rw [p_ix hco hi (by omega) hlen2 hc (h1 := h1) (a := a) (x := e) (by rw [hk, hz]; exact e1') hx, c1]
      exact pr_more (Nat.le_add_left n2 n1) (Nat.le_refl _) (Nat.le_refl _) e2
    · unfold t_no at c2
      split at c2
      · rename_i hhs
        refine ⟨n1 + 1, h1, .inr a, D1, ?_, hh1, e, hx, c2⟩
        rw [p_ix hco hi (by omega) hlen2 hc (h1 := h1) (a := a) (x := e) (by rw [hk, hz]; exact e1) hx, c1, hhs]
      · exact c2.elim
/-! numbers -/
theorem m_irem (X Y : Int32) : (X - X / Y * Y).toInt = X.toInt.tmod Y.toInt := by
  have e : X - X / Y * Y = X % Y := by
    apply Int32.toInt_inj.mp
    rw [Int32.toInt_mod, Int32.toInt_sub, Int32.toInt_mul, Int32.toInt_div]
    have h1 := Int.mul_tdiv_add_tmod X.toInt Y.toInt
    rw [Int.sub_bmod_bmod, Int.sub_bmod, Int.bmod_mul_bmod, ← Int.sub_bmod]
    have h2 : X.toInt - X.toInt.tdiv Y.toInt * Y.toInt = X.toInt.tmod Y.toInt := by
      rw [Int.mul_comm]; omega
    rw [h2]
    have h3 := (Int32.toInt_mod X Y).symm
    rw [h3, bm32]
    have h4 := i32r (X % Y)
    unfold w32
    omega
  rw [e, Int32.toInt_mod]
theorem m_lrem (X Y : Int64) : (X - X / Y * Y).toInt = X.toInt.tmod Y.toInt := by
  have e : X - X / Y * Y = X % Y := by
    apply Int64.toInt_inj.mp
    rw [Int64.toInt_mod, Int64.toInt_sub, Int64.toInt_mul, Int64.toInt_div]
    have h1 := Int.mul_tdiv_add_tmod X.toInt Y.toInt
    rw [Int.sub_bmod_bmod, Int.sub_bmod, Int.bmod_mul_bmod, ← Int.sub_bmod]
    have h2 : X.toInt - X.toInt.tdiv Y.toInt * Y.toInt = X.toInt.tmod Y.toInt := by
      rw [Int.mul_comm]; omega
    rw [h2]
    have h3 := (Int64.toInt_mod X Y).symm
    rw [h3, bm64]
    have h4 := i64r (X % Y)
    unfold w64
    omega
  rw [e, Int64.toInt_mod]
theorem m_lcmp (X Y : Int64) : (lg_cmp X Y).toInt = tlc X.toInt Y.toInt := by
  unfold lg_cmp tlc
  have h1 : X.toInt < Y.toInt ↔ X < Y := Int64.lt_iff_toInt_lt.symm
  have h2 : X.toInt = Y.toInt ↔ X = Y := Int64.toInt_inj
  have h3 : Y.toInt < X.toInt ↔ Y < X := Int64.lt_iff_toInt_lt.symm
  by_cases c1 : X < Y
  · have c2 : ¬ Y < X := by rw [← h3]; rw [← h1] at c1; omega
    have c3 : ¬ X = Y := by rw [← h2]; rw [← h1] at c1; omega
    simp [c1, c2, c3, h1]
  · by_cases c2 : Y < X
    · have c3 : ¬ X = Y := by rw [← h2]; rw [← h3] at c2; omega
      simp [c1, c2, c3, h1, h2]
    · have c3 : X = Y := by rw [← h2]; rw [← h3] at c2; rw [← h1] at c1; omega
      subst c3
      simp
theorem oi32 (X : Int32) : Int32.ofInt X.toInt = X := Int32.ofInt_toInt X
theorem oi64 (X : Int64) : Int64.ofInt X.toInt = X := Int64.ofInt_toInt X
theorem tln_all : ((List.range 2018).all fun a => Nat.blt (tln a) 20000) = true := by decide +kernel
theorem tln_lt (a : Nat) (h : a < 2018) : tln a < 20000 := nblt.mp (List.all_eq_true.mp tln_all a (List.mem_range.mpr h))
/-- one instruction -/
theorem tb_ok {ih : tD → Nat → List (Nat × tV) → List tV → Prop} (hih : ∀ D pc lv st, ih D pc lv st → WP sc y pc D lv st K E) (H : tb sc y K E ih D pc lv st) : WP sc y pc D lv st K E := by
  unfold tb at H
  split at H
  · exact H.elim
  rename_i i hco
  cases i
  case iconst n => obtain ⟨h1, H⟩ := tk_spec H; exact k_push hco (fun _ _ => rfl) (fun _ => rfl) (vi' (Int32.toInt_ofInt_of_le (by omega) (by omega))) (hih _ _ _ _ H)
  case bipush n =>
    obtain ⟨h1, H⟩ := tk_spec H
    exact k_push hco (fun _ _ => rfl) (fun _ => rfl) (vi' (by rw [Int8.toInt_toInt32, Int8.toInt_ofInt_of_le (by omega) (by omega)])) (hih _ _ _ _ H)
  case sipush n =>
    obtain ⟨h1, H⟩ := tk_spec H
    exact k_push hco (fun _ _ => rfl) (fun _ => rfl) (vi' (by rw [Int16.toInt_toInt32, Int16.toInt_ofInt_of_le (by omega) (by omega)])) (hih _ _ _ _ H)
  case lconst n =>
    refine k_push hco (fun _ _ => rfl) (fun _ => rfl) (vl' (?_ : (Int64.ofNat (n : Nat)).toInt = ((n.val : Nat) : Int))) (hih _ _ _ _ H)
    rw [← Int64.ofInt_eq_ofNat]
    have := n.isLt
    exact Int64.toInt_ofInt_of_le (by omega) (by omega)
  case aconst_null => exact k_push hco (fun _ _ => rfl) (fun _ => rfl) (t := (2, 0)) rfl (hih _ _ _ _ H)
  case iadd => exact k_ii hco (fun _ _ => rfl) (fun _ => rfl) (fun X Y => by rw [Int32.toInt_add, bm32]) (fun s hs => hih _ _ _ _ hs) H
  case isub => exact k_ii hco (fun _ _ => rfl) (fun _ => rfl) (fun X Y => by rw [Int32.toInt_sub, bm32]) (fun s hs => hih _ _ _ _ hs) H
  case imul => exact k_ii hco (fun _ _ => rfl) (fun _ => rfl) (fun X Y => by rw [Int32.toInt_mul, bm32]) (fun s hs => hih _ _ _ _ hs) H
  case iand => exact k_ii hco (fun _ _ => rfl) (fun _ => rfl) (fun X Y => by unfold tia; rw [oi32, oi32]) (fun s hs => hih _ _ _ _ hs) H
  case ior => exact k_ii hco (fun _ _ => rfl) (fun _ => rfl) (fun X Y => by unfold tio; rw [oi32, oi32]) (fun s hs => hih _ _ _ _ hs) H
  case ixor => exact k_ii hco (fun _ _ => rfl) (fun _ => rfl) (fun X Y => by unfold tix; rw [oi32, oi32]) (fun s hs => hih _ _ _ _ hs) H
  case ishl => exact k_ii hco (fun _ _ => rfl) (fun _ => rfl) (fun X Y => by unfold tsl; rw [oi32, oi32]) (fun s hs => hih _ _ _ _ hs) H
  case ishr => exact k_ii hco (fun _ _ => rfl) (fun _ => rfl) (fun X Y => by unfold tsr; rw [oi32, oi32]) (fun s hs => hih _ _ _ _ hs) H
  case idiv => exact k_iid hco (fun _ _ => rfl) (fun _ => rfl) (fun X Y => by rw [Int32.toInt_div, bm32]) (fun s hs => hih _ _ _ _ hs) H
  case irem => exact k_iid hco (fun _ _ => rfl) (fun _ => rfl) (fun X Y => m_irem X Y) (fun s hs => hih _ _ _ _ hs) H
  case ladd => exact k_ll hco (fun _ _ => rfl) (fun _ => rfl) (fun X Y => by rw [Int64.toInt_add, bm64]) (fun s hs => hih _ _ _ _ hs) H
  case lsub => exact k_ll hco (fun _ _ => rfl) (fun _ => rfl) (fun X Y => by rw [Int64.toInt_sub, bm64]) (fun s hs => hih _ _ _ _ hs) H
  case lmul => exact k_ll hco (fun _ _ => rfl) (fun _ => rfl) (fun X Y => by rw [Int64.toInt_mul, bm64]) (fun s hs => hih _ _ _ _ hs) H
  case land => exact k_ll hco (fun _ _ => rfl) (fun _ => rfl) (fun X Y => by unfold tla; rw [oi64, oi64]) (fun s hs => hih _ _ _ _ hs) H
  case lor => exact k_ll hco (fun _ _ => rfl) (fun _ => rfl) (fun X Y => by unfold tlo; rw [oi64, oi64]) (fun s hs => hih _ _ _ _ hs) H
  case ldiv => exact k_lld hco (fun _ _ => rfl) (fun _ => rfl) (fun X Y => by rw [Int64.toInt_div, bm64]) (fun s hs => hih _ _ _ _ hs) H
  case lrem => exact k_lld hco (fun _ _ => rfl) (fun _ => rfl) (fun X Y => m_lrem X Y) (fun s hs => hih _ _ _ _ hs) H
  case lshl => exact k_il hco (fun _ _ => rfl) (fun _ => rfl) (fun X Y => by unfold tlsl; rw [oi64, oi32]) (fun s hs => hih _ _ _ _ hs) H
  case lshr => exact k_il hco (fun _ _ => rfl) (fun _ => rfl) (fun X Y => by unfold tlsr; rw [oi64, oi32]) (fun s hs => hih _ _ _ _ hs) H
  case lushr => exact k_il hco (fun _ _ => rfl) (fun _ => rfl) (fun X Y => by unfold tlus; rw [oi64, oi32]) (fun s hs => hih _ _ _ _ hs) H
  case lcmp => exact k_lc hco (fun _ _ => rfl) (fun _ => rfl) m_lcmp (fun s hs => hih _ _ _ _ hs) H
  case lneg => exact k_1l hco (fun _ _ => rfl) (fun _ => rfl) (fun X => vl' (by rw [Int64.toInt_neg, bm64])) (fun s hs => hih _ _ _ _ hs) H
  case l2i => exact k_1l hco (fun _ _ => rfl) (fun _ => rfl) (fun X => vi' (by rw [Int64.toInt_toInt32, bm32])) (fun s hs => hih _ _ _ _ hs) H
  case i2l => exact k_1i hco (fun _ _ => rfl) (fun _ => rfl) (fun X => vl' (by rw [Int32.toInt_toInt64])) (fun s hs => hih _ _ _ _ hs) H
  case i2b => exact k_1i hco (fun _ _ => rfl) (fun _ => rfl) (fun X => vi' (by rw [Int8.toInt_toInt32, Int32.toInt_toInt8, bm8])) (fun s hs => hih _ _ _ _ hs) H
  case dup => exact k_dup hco (fun s hs => hih _ _ _ _ hs) H
  case pop => exact k_pop hco (fun s hs => hih _ _ _ _ hs) H
  case dup2 => exact k_dup2 hco (fun s hs => hih _ _ _ _ hs) H
  case iload n => exact k_ldi hco (fun _ _ => rfl) (fun t ht => hih _ _ _ _ ht) H
  case iload_n n => exact k_ldi hco (fun _ _ => rfl) (fun t ht => hih _ _ _ _ ht) H
  case lload n => exact k_ldl hco (fun _ _ => rfl) (fun t ht => hih _ _ _ _ ht) H
  case lload_n n => exact k_ldl hco (fun _ _ => rfl) (fun t ht => hih _ _ _ _ ht) H
  case aload n => exact k_lda hco (fun _ _ => rfl) (fun t ht => hih _ _ _ _ ht) H
  case aload_n n => exact k_lda hco (fun _ _ => rfl) (fun t ht => hih _ _ _ _ ht) H
  case istore n => exact k_sti hco (fun _ _ => rfl) (fun l s hs => hih _ _ _ _ hs) H
  case istore_n n => exact k_sti hco (fun _ _ => rfl) (fun l s hs => hih _ _ _ _ hs) H
  case lstore n => exact k_stl hco (fun _ _ => rfl) (fun l s hs => hih _ _ _ _ hs) H
  case lstore_n n => exact k_stl hco (fun _ _ => rfl) (fun l s hs => hih _ _ _ _ hs) H
  case astore n => exact k_sta hco (fun _ _ => rfl) (fun l s hs => hih _ _ _ _ hs) H
  case astore_n n => exact k_sta hco (fun _ _ => rfl) (fun l s hs => hih _ _ _ _ hs) H
  case iinc q n => obtain ⟨h1, H⟩ := tk_spec H; exact k_inc h1 hco (fun l hs => hih _ _ _ _ hs) H
  case goto off =>
    obtain ⟨h0, hW⟩ := jmp_spec hih H
    exact wp_go (fun _ fr lo h lv' st' _ _ hh hl hs => ⟨h, lv', st', fun n => p_j (i := .goto off) (tk := true) hco rfl rfl rfl h0 n, hh, hl, hs⟩) hW
  case ifCond c off => obtain ⟨h0, H⟩ := tk0_spec H; exact k_if hco h0 (fun s hs => (jmp_spec hih hs).2) (fun s hs => hih _ _ _ _ hs) H
  case if_icmp c off => obtain ⟨h0, H⟩ := tk0_spec H; exact k_icmp hco h0 (fun s hs => (jmp_spec hih hs).2) (fun s hs => hih _ _ _ _ hs) H
  case ifnull off => obtain ⟨h0, H⟩ := tk0_spec H; exact k_null (nn := false) rfl hco h0 (fun s hs => (jmp_spec hih hs).2) (fun s hs => hih _ _ _ _ hs) H
  case ifnonnull off => obtain ⟨h0, H⟩ := tk0_spec H; exact k_null (nn := true) rfl hco h0 (fun s hs => hih _ _ _ _ hs) (fun s hs => (jmp_spec hih hs).2) H
  case tableswitch d a b offs =>
    dsimp only at H
    split at H
    · cases hb : decide (b = a + (offs.toList.length : Nat) - 1) with
      | false => rw [hb] at H; exact H.elim
      | true =>
        rw [hb] at H
        exact k_tsw hco (fun off s hs => jmp_spec hih hs) (of_decide_eq_true hb) H
    · exact H.elim
  case lookupswitch d ps =>
    dsimp only at H
    split at H
    · cases hb : (ps.toList.zip (ps.toList.drop 1)).all (fun (a, next) => a.1 < next.1) with
      | false => rw [hb] at H; exact H.elim
      | true =>
        rw [hb] at H
        exact k_lsw hco (fun off s hs => jmp_spec hih hs) hb H
    · exact H.elim
  case getfield q => exact k_get hco (fun s hs => hih _ _ _ _ hs) H
  case putfield q => exact k_put hco (fun d s hs => hih _ _ _ _ hs) H
  case iaload => exact k_ild hco (fun s hs => hih _ _ _ _ hs) H
  case baload => exact k_bld hco (fun s hs => hih _ _ _ _ hs) H
  case laload => exact k_lld8 hco (fun s hs => hih _ _ _ _ hs) H
  case aaload => exact k_ald hco (fun s hs => hih _ _ _ _ hs) H
  case iastore => exact k_ist hco (fun d s hs => hih _ _ _ _ hs) H
  case bastore => exact k_bst hco (fun d s hs => hih _ _ _ _ hs) H
  case lastore => exact k_lst hco (fun d s hs => hih _ _ _ _ hs) H
  case arraylength => exact k_len hco (fun s hs => hih _ _ _ _ hs) H tln_lt
  case ireturn => exact k_ret hco (Or.inl rfl) H
  case lreturn => exact k_ret hco (Or.inr (Or.inl rfl)) H
  case areturn => exact k_ret hco (Or.inr (Or.inr (Or.inl rfl))) H
  case return_ => exact k_ret hco (Or.inr (Or.inr (Or.inr rfl))) H
  case ldc q => exact k_cst hco rfl (fun t ht => hih _ _ _ _ ht) H
  case ldc_w q => exact k_cst hco rfl (fun t ht => hih _ _ _ _ ht) H
  case ldc2_w q => exact k_cst hco rfl (fun t ht => hih _ _ _ _ ht) H
  case new q => exact k_thr hco H
  case invokevirtual q =>
    dsimp only at H
    cases hb : Nat.blt (pt_ax y (.invokevirtual q)).1 3 with
    | true => rw [hb] at H; exact k_call hco rfl rfl rfl rfl (nblt.mp hb) hih H
    | false => rw [hb] at H; exact k_ext hco rfl rfl (nblf hb) (fun d s hs => hih _ _ _ _ hs) H
  case invokespecial q =>
    dsimp only at H
    cases hb : Nat.blt (pt_ax y (.invokespecial q)).1 3 with
    | true => rw [hb] at H; exact k_call hco rfl rfl rfl rfl (nblt.mp hb) hih H
    | false => rw [hb] at H; exact H.elim
  case invokestatic q =>
    dsimp only at H
    cases hb : Nat.blt (pt_ax y (.invokestatic q)).1 3 with
    | true => rw [hb] at H; exact k_call hco rfl rfl rfl rfl (nblt.mp hb) hih H
    | false => rw [hb] at H; exact k_ext hco rfl rfl (nblf hb) (fun d s hs => hih _ _ _ _ hs) H
  all_goals exact False.elim H
theorem tw_ok (cs : List (Nat × List Nat)) (n : Nat) : ∀ (D : tD) (pc : Nat) (lv : List (Nat × tV)) (st : List tV), tw sc y cs K E n D pc lv st → WP sc y pc D lv st K E := by
  induction n with
  | zero => intro D pc lv st H; exact False.elim H
  | succ n ih =>
    intro D pc lv st H
    have H2 : (match tcut cs pc with
      | some ks => WP sc y pc D (tkeep ks lv) st K E
      | none => tb sc y K E (tw sc y cs K E n) D pc lv st) := H
    split at H2
    · exact wp_sub (fun i t h => tget_keep h) H2
    · exact tb_ok ih H2
theorem tw_sound (y : Nat) (cs : List (Nat × List Nat)) (n : Nat) {D : tD} {pc : Nat} {lv : List (Nat × tV)} {st : List tV} {K : tD → Int → Prop} {E : tD → Nat → Prop} (H : tb sc y K E (tw sc y cs K E n) D pc lv st) : WP sc y pc D lv st K E := tb_ok (tw_ok cs n) H
end TST
