/-! the strings' own methods that call others -/
theorem px_SG {w : Cond} (h : w ∈ px_SW) : (w.onTables && w.keeps) = true ∨ ∃ ty, w = .arrayClass ty := good_of_word (List.all_eq_true.mp px_SW_good w h)
theorem px_GI {y : MethodName} {cc : ByteArray} {maxL : Nat} {ret : Option FieldType} (h : Cond.code y cc maxL ret ∈ px_SW) : GoodIn px_SW (Cond.code y cc maxL ret :: px_SW) := by
  intro w hw
  rcases List.mem_cons.mp hw with rfl | hw
  · exact ⟨h, px_SG h⟩
  · exact ⟨hw, px_SG hw⟩
theorem px_Sf.moved {q v n : Nat} {f : Nat → Int32} {u U : State} {H : Heap} (hvm : u.vm.Alike U.vm) (h : px_Sf q v n f u H) : px_Sf q v n f U H := ⟨va_O.moved hvm h.1, va_OF.moved hvm h.2.1, va_OF.moved hvm h.2.2.1, va_T.moved hvm h.2.2.2⟩
theorem px_Zf.moved {z : Option Nat} {u U : State} {H : Heap} (hvm : u.vm.Alike U.vm) (h : px_Zf z u H) : px_Zf z U H := ⟨va_Z.moved hvm h.1, va_Z.moved hvm h.2⟩
theorem px_bl1 {A : List Value} {q v n : Nat} {z : Option Nat} {f : Nat → Int32} : FrameBlind (px_Pc A (fun U H => px_Sf q v n f U H ∧ px_Zf z U H)) := fun _ _ _ _ h => h
theorem px_bl2 {A : List Value} {v n : Nat} {z : Option Nat} {f : Nat → Int32} : FrameBlind (px_Pc A (fun U H => va_T .byte v n (fun j => .int (f j)) px_N U H ∧ px_Zf z U H)) := fun _ _ _ _ h => h
theorem px_bl3 {A : List Value} {z : Option Nat} : FrameBlind (px_Pc A (fun U H => px_Zf z U H)) := fun _ _ _ _ h => h
theorem px_bl4 {A : List Value} : FrameBlind (px_Pc A (fun _ _ => True)) := fun _ _ _ _ h => h
def px_QcN : Array Value → State → Outcome → State → Prop := fun _ st o t => o = .returned none ∧ t.heap = st.heap
theorem px_toInt {i : Int32} (h : ¬ i < 0) : i.toInt = (i.toNatClampNeg : Int) := by
  have h0 : (0 : Int) ≤ i.toInt := by
    have := Int32.not_lt.mp h
    simpa using Int32.le_iff_toInt_le.mp this
  show i.toInt = ((i.toInt.toNat : Nat) : Int)
  omega
theorem px_lt {i : Int32} {n : Nat} (hn : n < 2 ^ 31) (h : vp_in i n) : ¬ i < 0 ∧ i < Int32.ofNat n := by
  unfold vp_in at h
  have h0 : ¬ i < 0 := fun x => h (Or.inl x)
  refine ⟨h0, Int32.lt_iff_toInt_lt.mpr ?_⟩
  rw [px_toInt h0, Int32.toInt_ofNat_of_lt hn]
  have h1 : ¬ n ≤ i.toNatClampNeg := fun x => h (Or.inr x)
  omega
/-- String.checkIndex, inside -/
theorem px_mi {l : Launch} {i n : Int32} {z : Option Nat} (h0 : ¬ i < 0) (h1 : i < n) : Met l px_yi (px_ci :: px_SW) (k2_rm 1 22) (px_Pc [.int i, .int n] (fun U H => px_Zf z U H)) px_QcN 0 0 (fun _ => False) := by
  refine px_head (by decide) (Nat.le_refl _) ?_
  intro p e s m below meth c hx hb hr hlk hml hown hw hP ls hl
  have hown : s.vm.findClass "java/lang/String" = some m.cls := hown
  obtain ⟨z1, z2⟩ := hP
  have l0 : ls[0]? = some (.val (.int i)) := lv_at hl 0 rfl
  have l1 : ls[1]? = some (.val (.int n)) := lv_at hl 1 rfl
  have d0 : decode prog_19_method_155_code 0 = .ok (.iload_n 0, 1) := by decide +kernel
  have d1 : decode prog_19_method_155_code 1 = .ok (.iload_n 1, 1) := by decide +kernel
  have d2 : decode prog_19_method_155_code 2 = .ok (.getstatic 1053, 3) := by decide +kernel
  have d5 : decode prog_19_method_155_code 5 = .ok (.invokestatic 1059, 3) := by decide +kernel
  have d8 : decode prog_19_method_155_code 8 = .ok (.pop, 1) := by decide +kernel
  have d9 : decode prog_19_method_155_code 9 = .ok (.return_, 1) := by decide +kernel
  refine lv_iload_n hx hb d0 rfl l0 ?_
  refine lv_iload_n hx hb d1 rfl l1 ?_
  refine va_gets (ref := "jdk/internal/util/Preconditions") hx hb z2 px_S0 hown (hw _ (by simp [px_SW])) (fun x h => h) d2 ?_
  refine W.callV (W.runS (S := ⟨hx, hb, hml, hown, hw⟩) (px_mp (z := z) h0 h1) ⟨callB_of 3 hw (px_GI (by simp [px_SW, px_cp])) rfl rfl rfl (hw _ (by simp [px_SW, px_yp])) (hw _ (by simp [px_SW])) (by decide +kernel) (by decide), hw _ (by simp [px_SW])⟩ ⟨px_bl4, fun _ _ _ => ⟨rfl, trivial⟩⟩ (As := [.int i, .int n, px_zv z]) rfl rfl hl.1 rfl (Nat.le_of_ble_eq_true rfl) d5 ⟨Nat.zero_le _, Nat.zero_le _⟩) ?_
  refine lv_pop hx hb d8 rfl ?_
  exact W.vret hx hb hr (fun t ht _ => ⟨rfl, ht⟩) (fun q h => by cases h) d9 hlk
/-- StringLatin1.charAt, inside -/
theorem px_mb {l : Launch} {i : Int32} {v n : Nat} {z : Option Nat} {f : Nat → Int32} (hn : n < 2 ^ 31) (hi : vp_in i n) {x : Int32} (h1 : ((f i.toNatClampNeg &&& 255).toUInt32 % 65536).toInt32 = x) (h2 : narrow .char (.int x) = .int x) : Met l px_yb (px_cb :: px_SW) (k2_rm 2 43) (px_Pc [.ref v, .int i] (fun U H => va_T .byte v n (fun j => .int (f j)) px_N U H ∧ px_Zf z U H)) (k2_QcV (.int x)) 0 0 (fun _ => False) := by
  refine px_head (by decide) (Nat.le_refl _) ?_
  intro p e s m below meth c hx hb hr hlk hml hown hw hP ls hl
  have hown : s.vm.findClass "java/lang/StringLatin1" = some m.cls := hown
  obtain ⟨t1, hZ⟩ := hP
  obtain ⟨g0, g1⟩ := px_lt hn hi
  have l0 : ls[0]? = some (.val (.ref v)) := lv_at hl 0 rfl
  have l1 : ls[1]? = some (.val (.int i)) := lv_at hl 1 rfl
  have d0 : decode prog_20_method_2_code 0 = .ok (.iload_n 1, 1) := by decide +kernel
  have d1 : decode prog_20_method_2_code 1 = .ok (.aload_n 0, 1) := by decide +kernel
  have d2 : decode prog_20_method_2_code 2 = .ok (.arraylength, 1) := by decide +kernel
  have d3 : decode prog_20_method_2_code 3 = .ok (.invokestatic 9, 3) := by decide +kernel
  have d6 : decode prog_20_method_2_code 6 = .ok (.aload_n 0, 1) := by decide +kernel
  have d7 : decode prog_20_method_2_code 7 = .ok (.iload_n 1, 1) := by decide +kernel
  have d8 : decode prog_20_method_2_code 8 = .ok (.baload, 1) := by decide +kernel
  have d9 : decode prog_20_method_2_code 9 = .ok (.sipush 255, 3) := by decide +kernel
  have d12 : decode prog_20_method_2_code 12 = .ok (.iand, 1) := by decide +kernel
  have d13 : decode prog_20_method_2_code 13 = .ok (.i2c, 1) := by decide +kernel
  have d14 : decode prog_20_method_2_code 14 = .ok (.ireturn, 1) := by decide +kernel
  refine lv_iload_n hx hb d0 rfl l1 ?_
  refine lv_aload_n hx hb d1 rfl l0 ?_
  refine va_tlen hx hb t1 px_S0 rfl d2 ?_
  refine t_callN (W.runS (S := ⟨hx, hb, hml, hown, hw⟩) (px_mi (z := z) g0 g1) ⟨callB_of 2 hw (px_GI (by simp [px_SW, px_ci])) rfl rfl rfl (hw _ (by simp [px_SW, px_yi])) (hw _ (by simp [px_SW])) (by decide +kernel) (by decide), hw _ (by simp [px_SW])⟩ ⟨px_bl3, fun U hU hW => ⟨rfl, hU ▸ hZ.moved hW.alike⟩⟩ (As := [.int i, .int (Int32.ofNat n)]) rfl rfl hl.1 rfl (Nat.le_of_ble_eq_true rfl) d3 ⟨Nat.zero_le _, Nat.zero_le _⟩) (fun st v t h => Outcome.returned.inj h.1) ?_
  intro st₀ t L hL hs0 hq
  have hL0 : L = [] := by
    cases L with
    | nil => rfl
    | cons a r => exact (hL a (List.mem_cons_self ..)).elim
  subst hL0
  rw [hq.2, hs0]
  refine lv_aload_n hx hb d6 rfl l0 ?_
  refine lv_iload_n hx hb d7 rfl l1 ?_
  refine va_tb hx hb t1 px_S0 hi rfl d8 ?_
  refine lv_sipush hx hb d9 (v := 255) (by decide) ?_
  refine lv_iand hx hb d12 ?_
  refine lv_i2c hx hb d13 h1 ?_
  exact W.zret hx hb hr h2 (fun t ht _ => ⟨rfl, ht⟩) (fun q h => by cases h) d14 hlk
/-- String.length -/
theorem px_mn {l : Launch} {q v n : Nat} {z : Option Nat} {f : Nat → Int32} : Met l px_yn (px_cn :: px_SW) (k2_rm 1 20) (px_Pc [.ref q] (fun U H => px_Sf q v n f U H ∧ px_Zf z U H)) (k2_QcV (.int (Int32.ofNat n))) 0 0 (fun _ => False) := by
  refine px_head (by decide) (Nat.le_refl _) ?_
  intro p e s m below meth c hx hb hr hlk hml hown hw hP ls hl
  have hown : s.vm.findClass "java/lang/String" = some m.cls := hown
  obtain ⟨hS, hZ⟩ := id hP
  obtain ⟨s1, s2, s3, s4⟩ := hS
  have l0 : ls[0]? = some (.val (.ref q)) := lv_at hl 0 rfl
  have d0 : decode prog_19_method_54_code 0 = .ok (.aload_n 0, 1) := by decide +kernel
  have d1 : decode prog_19_method_54_code 1 = .ok (.getfield 9, 3) := by decide +kernel
  have d4 : decode prog_19_method_54_code 4 = .ok (.arraylength, 1) := by decide +kernel
  have d5 : decode prog_19_method_54_code 5 = .ok (.aload_n 0, 1) := by decide +kernel
  have d6 : decode prog_19_method_54_code 6 = .ok (.invokevirtual 335, 3) := by decide +kernel
  have d9 : decode prog_19_method_54_code 9 = .ok (.ishr, 1) := by decide +kernel
  have d10 : decode prog_19_method_54_code 10 = .ok (.ireturn, 1) := by decide +kernel
  refine lv_aload_n hx hb d0 rfl l0 ?_
  refine vk_getf (ref := "java/lang/String") hx hb s3 px_S0 hown (hw _ (by simp [px_SW])) (fun x h => h) d1 ?_
  refine va_tlen hx hb s4 px_S0 rfl d4 ?_
  refine lv_aload_n hx hb d5 rfl l0 ?_
  obtain ⟨cell, c1, c2, c3, -⟩ := id s1
  refine W.callV (W.runV (S := ⟨hx, hb, hml, hown, hw⟩) (px_mc (q := q) (v := v) (n := n) (z := z) (f := f)) (C := "java/lang/String") ⟨callB_of 0 hw (px_GI (by simp [px_SW, px_cc])) rfl rfl rfl (hw _ (by simp [px_SW, px_yc])) (hw _ (by simp [px_SW])) (by decide +kernel) (by decide), hw _ (by simp [px_SW]), hw _ (by simp [px_SW])⟩ ⟨px_bl1, ⟨cell, c1, c2, c3⟩, fun U hU hW => ⟨rfl, hU ▸ ⟨hP.1.moved hW.alike, hZ.moved hW.alike⟩⟩⟩ (As := []) rfl rfl hl.1 rfl (Nat.le_of_ble_eq_true rfl) d6 ⟨Nat.zero_le _, Nat.zero_le _⟩) ?_
  refine lv_ishr hx hb d9 ?_
  have e0 : Int32.ofNat n >>> ((0 : Int32) &&& 31) = Int32.ofNat n := by simp
  rw [e0]
  exact W.iret hx hb hr (fun t ht _ => ⟨rfl, ht⟩) (fun q h => by cases h) d10 hlk
/-- String.charAt, inside -/
theorem px_ma {l : Launch} {i : Int32} {q v n : Nat} {z : Option Nat} {f : Nat → Int32} (hn : n < 2 ^ 31) (hi : vp_in i n) {x : Int32} (h1 : ((f i.toNatClampNeg &&& 255).toUInt32 % 65536).toInt32 = x) (h2 : narrow .char (.int x) = .int x) : Met l px_ya (px_ca :: px_SW) (k2_rm 3 64) (px_Pc [.ref q, .int i] (fun U H => px_Sf q v n f U H ∧ px_Zf z U H)) (k2_QcV (.int x)) 0 0 (fun _ => False) := by
  refine px_head (by decide) (Nat.le_refl _) ?_
  intro p e s m below meth c hx hb hr hlk hml hown hw hP ls hl
  have hown : s.vm.findClass "java/lang/String" = some m.cls := hown
  obtain ⟨hS, hZ⟩ := id hP
  obtain ⟨s1, s2, s3, s4⟩ := hS
  have l0 : ls[0]? = some (.val (.ref q)) := lv_at hl 0 rfl
  have l1 : ls[1]? = some (.val (.int i)) := lv_at hl 1 rfl
  have d0 : decode prog_19_method_56_code 0 = .ok (.aload_n 0, 1) := by decide +kernel
  have d1 : decode prog_19_method_56_code 1 = .ok (.invokevirtual 492, 3) := by decide +kernel
  have d4 : decode prog_19_method_56_code 4 = .ok (.ifCond .eq 12, 3) := by decide +kernel
  have d7 : decode prog_19_method_56_code 7 = .ok (.aload_n 0, 1) := by decide +kernel
  have d8 : decode prog_19_method_56_code 8 = .ok (.getfield 9, 3) := by decide +kernel
  have d11 : decode prog_19_method_56_code 11 = .ok (.iload_n 1, 1) := by decide +kernel
  have d12 : decode prog_19_method_56_code 12 = .ok (.invokestatic 495, 3) := by decide +kernel
  have d15 : decode prog_19_method_56_code 15 = .ok (.ireturn, 1) := by decide +kernel
  obtain ⟨cell, c1, c2, c3, -⟩ := id s1
  refine lv_aload_n hx hb d0 rfl l0 ?_
  refine W.callV (W.runV (S := ⟨hx, hb, hml, hown, hw⟩) (px_ml (q := q) (v := v) (n := n) (z := z) (f := f)) (C := "java/lang/String") ⟨callB_of 0 hw (px_GI (by simp [px_SW, px_cl])) rfl rfl rfl (hw _ (by simp [px_SW, px_yl])) (hw _ (by simp [px_SW])) (by decide +kernel) (by decide), hw _ (by simp [px_SW]), hw _ (by simp [px_SW])⟩ ⟨px_bl1, ⟨cell, c1, c2, c3⟩, fun U hU hW => ⟨rfl, hU ▸ ⟨hP.1.moved hW.alike, hZ.moved hW.alike⟩⟩⟩ (As := []) rfl rfl hl.1 rfl (Nat.le_of_ble_eq_true rfl) d1 ⟨Nat.zero_le _, Nat.zero_le _⟩) ?_
  refine lv_if_eq hx hb (tgt := 16) d4 rfl (fun h => absurd h (by decide)) (fun _ => ?_)
  refine lv_aload_n hx hb d7 rfl l0 ?_
  refine vk_getf (ref := "java/lang/String") hx hb s3 px_S0 hown (hw _ (by simp [px_SW])) (fun x h => h) d8 ?_
  refine lv_iload_n hx hb d11 rfl l1 ?_
  refine W.callV (W.runS (S := ⟨hx, hb, hml, hown, hw⟩) (px_mb (z := z) hn hi h1 h2) ⟨callB_of 2 hw (px_GI (by simp [px_SW, px_cb])) rfl rfl rfl (hw _ (by simp [px_SW, px_yb])) (hw _ (by simp [px_SW])) (by decide +kernel) (by decide), hw _ (by simp [px_SW])⟩ ⟨px_bl2, fun U hU hW => ⟨rfl, hU ▸ ⟨va_T.moved hW.alike s4, hZ.moved hW.alike⟩⟩⟩ (As := [.ref v, .int i]) rfl rfl hl.1 rfl (Nat.le_of_ble_eq_true rfl) d12 ⟨Nat.zero_le _, Nat.zero_le _⟩) ?_
  exact W.zret hx hb hr h2 (fun t ht _ => ⟨rfl, ht⟩) (fun q h => by cases h) d15 hlk
