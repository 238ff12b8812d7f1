/-! the strings' own methods: length, charAt, and what they call -/
def px_yc : MethodName := ⟨"java/lang/String", "coder", "()B"⟩
def px_yl : MethodName := ⟨"java/lang/String", "isLatin1", "()Z"⟩
def px_yn : MethodName := ⟨"java/lang/String", "length", "()I"⟩
def px_ya : MethodName := ⟨"java/lang/String", "charAt", "(I)C"⟩
def px_yb : MethodName := ⟨"java/lang/StringLatin1", "charAt", "([BI)C"⟩
def px_yi : MethodName := ⟨"java/lang/String", "checkIndex", "(II)V"⟩
def px_yp : MethodName := ⟨"jdk/internal/util/Preconditions", "checkIndex", "(IILjava/util/function/BiFunction;)I"⟩
def px_cc : Cond := .code px_yc prog_19_method_152_code 1 (some .byte)
def px_cl : Cond := .code px_yl prog_19_method_154_code 1 (some .boolean)
def px_cn : Cond := .code px_yn prog_19_method_54_code 1 (some .int)
def px_ca : Cond := .code px_ya prog_19_method_56_code 2 (some .char)
def px_cb : Cond := .code px_yb prog_20_method_2_code 2 (some .char)
def px_ci : Cond := .code px_yi prog_19_method_155_code 2 none
def px_cp : Cond := .code px_yp prog_26_method_11_code 3 (some .int)
def px_SW : List Cond := [px_cc, px_cl, px_cn, px_ca, px_cb, px_ci, px_cp, .initialized "java/lang/String", .initialized "java/lang/StringLatin1", .initialized "jdk/internal/util/Preconditions", .methodLink "java/lang/String" 335 px_yc, .instanceMethod px_yc, .selects "java/lang/String" px_yc px_yc, .fieldLink "java/lang/String" 38 "java/lang/String" "COMPACT_STRINGS" "Z", .methodLink "java/lang/String" 492 px_yl, .instanceMethod px_yl, .selects "java/lang/String" px_yl px_yl, .methodLink "java/lang/String" 495 px_yb, .static px_yb, .methodLink "java/lang/StringLatin1" 9 px_yi, .static px_yi, .fieldLink "java/lang/String" 1053 "jdk/internal/util/Preconditions" "SIOOBE_FORMATTER" "Ljava/util/function/BiFunction;", .methodLink "java/lang/String" 1059 px_yp, .static px_yp, .fieldLink "java/lang/String" 9 "java/lang/String" "value" "[B", .fieldLink "java/lang/String" 15 "java/lang/String" "coder" "B", .instanceMethod px_yn, .selects "java/lang/String" px_yn px_yn, .instanceMethod px_ya, .selects "java/lang/String" px_ya px_ya]
theorem px_SW_in : px_SW.all (fun w => decide (w ∈ tables_1)) = true := by decide +kernel
theorem px_SW_good : px_SW.all goodWord = true := by decide +kernel
def px_N (_ : Nat) : Prop := False
/-- a string at q: its bytes at v -/
def px_Sf (q v n : Nat) (f : Nat → Int32) (U : State) (H : Heap) : Prop := va_O "java/lang/String" q px_N U H ∧ va_OF "java/lang/String" "coder" "B" (.int 0) q px_N U H ∧ va_OF "java/lang/String" "value" "[B" (.ref v) q px_N U H ∧ va_T .byte v n (fun j => .int (f j)) px_N U H
def px_zv (z : Option Nat) : Value := match z with
  | none => .null
  | some t => .ref t
def px_Zf (z : Option Nat) (U : State) (H : Heap) : Prop := va_Z "java/lang/String" "COMPACT_STRINGS" "Z" (.int 1) px_N U H ∧ va_Z "jdk/internal/util/Preconditions" "SIOOBE_FORMATTER" "Ljava/util/function/BiFunction;" (px_zv z) px_N U H
def px_Pc (A : List Value) (P : State → Heap → Prop) : Array Value → State → Prop := fun a U => a = A.toArray ∧ P U U.heap
theorem px_S0 {H : Heap} : va_S px_N H H [] := ⟨Nat.le_refl _, fun _ _ _ => rfl, fun _ h => by cases h⟩
theorem px_head {l : Launch} {y : MethodName} {rm : Room} {cc : ByteArray} {maxL : Nat} {ret : Option FieldType} {A : List Value} {P : State → Heap → Prop} {Qc : Array Value → State → Outcome → State → Prop} (hy : plainName y.cls = true) (hA : (lg_sl A).length ≤ maxL)
    (body : ∀ (p : Program) (e : Env) (s : State) (m : MethodId) (below : List Frame) (meth : Method) (c : Code), p.tables.exec = Jvm.exec → c.code = cc → meth.sig.returnType = ret → meth.locks = false → c.maxLocals = maxL → s.vm.findClass y.cls = some m.cls → (∀ w ∈ px_SW, w.before A.toArray s = true) → P s s.heap → ∀ ls : Array Slot, lv_has ls maxL (lv_args 0 A) →
      W p l e rm s m A.toArray below meth c s.heap [] 0 0 (MQ below Qc A.toArray s 0 0 (fun _ => False)) (F0 m 0 ls [])) : Met l y (Cond.code y cc maxL ret :: px_SW) rm (px_Pc A P) Qc 0 0 (fun _ => False) := by
  refine Met.ofW (cc := cc) (maxL := maxL) (ret := ret) hy rfl ?_
  intro p e s m args below meth c s₁ B hml hP
  obtain ⟨rfl, hP⟩ := hP
  have hts := atoms_spec (ws := Cond.code y cc maxL ret :: px_SW) B.pre
  have hown : s.vm.findClass y.cls = some m.cls := findClass_of_methodNamed B.named
  rw [lg_entry_eq]
  exact body p e s m below meth c B.exec B.bytes B.returns B.notSynchronized hml hown (fun w hw => hts w (List.mem_cons_of_mem _ hw)) hP _ (lv_entry A hA)
/-- Preconditions.checkIndex, inside -/
theorem px_mp {l : Launch} {i n : Int32} {z : Option Nat} (h0 : ¬ i < 0) (h1 : i < n) : Met l px_yp (px_cp :: px_SW) (k2_rm 0 0) (px_Pc [.int i, .int n, px_zv z] (fun _ _ => True)) (k2_QcV (.int i)) 0 0 (fun _ => False) := by
  refine px_head (by decide) (by cases z <;> exact Nat.le_refl _) ?_
  intro p e s m below meth c hx hb hr hlk hml hown hw _ ls hl
  have l0 : ls[0]? = some (.val (.int i)) := lv_at hl 0 rfl
  have l1 : ls[1]? = some (.val (.int n)) := lv_at hl 1 rfl
  have d0 : decode prog_26_method_11_code 0 = .ok (.iload_n 0, 1) := by decide +kernel
  have d1 : decode prog_26_method_11_code 1 = .ok (.ifCond .lt 8, 3) := by decide +kernel
  have d4 : decode prog_26_method_11_code 4 = .ok (.iload_n 0, 1) := by decide +kernel
  have d5 : decode prog_26_method_11_code 5 = .ok (.iload_n 1, 1) := by decide +kernel
  have d6 : decode prog_26_method_11_code 6 = .ok (.if_icmp .lt 10, 3) := by decide +kernel
  have d16 : decode prog_26_method_11_code 16 = .ok (.iload_n 0, 1) := by decide +kernel
  have d17 : decode prog_26_method_11_code 17 = .ok (.ireturn, 1) := by decide +kernel
  refine lv_iload_n hx hb d0 rfl l0 ?_
  refine lv_if_lt hx hb (tgt := 9) d1 rfl (fun h => absurd h h0) (fun _ => ?_)
  refine lv_iload_n hx hb d4 rfl l0 ?_
  refine lv_iload_n hx hb d5 rfl l1 ?_
  refine lv_icmp_lt hx hb (tgt := 16) d6 rfl (fun _ => ?_) (fun h => absurd h1 h)
  refine lv_iload_n hx hb d16 rfl l0 ?_
  exact W.iret hx hb hr (fun t ht _ => ⟨rfl, ht⟩) (fun q h => by cases h) d17 hlk
/-- String.coder, with compact strings -/
theorem px_mc {l : Launch} {q v n : Nat} {z : Option Nat} {f : Nat → Int32} : Met l px_yc (px_cc :: px_SW) (k2_rm 0 0) (px_Pc [.ref q] (fun U H => px_Sf q v n f U H ∧ px_Zf z U H)) (k2_QcV (.int 0)) 0 0 (fun _ => False) := by
  refine px_head (by decide) (Nat.le_refl _) ?_
  intro p e s m below meth c hx hb hr hlk hml hown hw hP ls hl
  have hown : s.vm.findClass "java/lang/String" = some m.cls := hown
  obtain ⟨⟨s1, s2, s3, s4⟩, z1, z2⟩ := hP
  have l0 : ls[0]? = some (.val (.ref q)) := lv_at hl 0 rfl
  have d0 : decode prog_19_method_152_code 0 = .ok (.getstatic 38, 3) := by decide +kernel
  have d3 : decode prog_19_method_152_code 3 = .ok (.ifCond .eq 10, 3) := by decide +kernel
  have d6 : decode prog_19_method_152_code 6 = .ok (.aload_n 0, 1) := by decide +kernel
  have d7 : decode prog_19_method_152_code 7 = .ok (.getfield 15, 3) := by decide +kernel
  have d10 : decode prog_19_method_152_code 10 = .ok (.goto 4, 3) := by decide +kernel
  have d14 : decode prog_19_method_152_code 14 = .ok (.ireturn, 1) := by decide +kernel
  refine va_gets (ref := "java/lang/String") hx hb z1 px_S0 hown (hw _ (by simp [px_SW])) (fun x h => h) d0 ?_
  refine lv_if_eq hx hb (tgt := 13) d3 rfl (fun h => absurd h (by decide)) (fun _ => ?_)
  refine lv_aload_n hx hb d6 rfl l0 ?_
  refine vk_getf (ref := "java/lang/String") hx hb s2 px_S0 hown (hw _ (by simp [px_SW])) (fun x h => h) d7 ?_
  refine lv_goto hx hb (tgt := 14) d10 rfl ?_
  exact W.zret hx hb hr (by decide) (fun t ht _ => ⟨rfl, ht⟩) (fun q h => by cases h) d14 hlk
/-- String.isLatin1 -/
theorem px_ml {l : Launch} {q v n : Nat} {z : Option Nat} {f : Nat → Int32} : Met l px_yl (px_cl :: px_SW) (k2_rm 0 0) (px_Pc [.ref q] (fun U H => px_Sf q v n f U H ∧ px_Zf z U H)) (k2_QcV (.int 1)) 0 0 (fun _ => False) := by
  refine px_head (by decide) (Nat.le_refl _) ?_
  intro p e s m below meth c hx hb hr hlk hml hown hw hP ls hl
  have hown : s.vm.findClass "java/lang/String" = some m.cls := hown
  obtain ⟨⟨s1, s2, s3, s4⟩, z1, z2⟩ := hP
  have l0 : ls[0]? = some (.val (.ref q)) := lv_at hl 0 rfl
  have d0 : decode prog_19_method_154_code 0 = .ok (.getstatic 38, 3) := by decide +kernel
  have d3 : decode prog_19_method_154_code 3 = .ok (.ifCond .eq 14, 3) := by decide +kernel
  have d6 : decode prog_19_method_154_code 6 = .ok (.aload_n 0, 1) := by decide +kernel
  have d7 : decode prog_19_method_154_code 7 = .ok (.getfield 15, 3) := by decide +kernel
  have d10 : decode prog_19_method_154_code 10 = .ok (.ifCond .ne 7, 3) := by decide +kernel
  have d13 : decode prog_19_method_154_code 13 = .ok (.iconst 1, 1) := by decide +kernel
  have d14 : decode prog_19_method_154_code 14 = .ok (.goto 4, 3) := by decide +kernel
  have d18 : decode prog_19_method_154_code 18 = .ok (.ireturn, 1) := by decide +kernel
  refine va_gets (ref := "java/lang/String") hx hb z1 px_S0 hown (hw _ (by simp [px_SW])) (fun x h => h) d0 ?_
  refine lv_if_eq hx hb (tgt := 17) d3 rfl (fun h => absurd h (by decide)) (fun _ => ?_)
  refine lv_aload_n hx hb d6 rfl l0 ?_
  refine vk_getf (ref := "java/lang/String") hx hb s2 px_S0 hown (hw _ (by simp [px_SW])) (fun x h => h) d7 ?_
  refine lv_if_ne hx hb (tgt := 17) d10 rfl (fun h => absurd rfl h) (fun _ => ?_)
  refine lv_iconst hx hb (v := 1) d13 rfl ?_
  refine lv_goto hx hb (tgt := 18) d14 rfl ?_
  exact W.zret hx hb hr (by decide) (fun t ht _ => ⟨rfl, ht⟩) (fun q h => by cases h) d18 hlk
