/-! THE CLAIM OUT OF ONE WALK OF THE LAW'S BODY. Your part is whole_start (and what it stands on); all else here is the same for every law, but numbers. -/
def R_law : String := "MeterSheetLaw"
def lw_P (b : Addr) (xs : List Int32) (args : Array Value) (s : State) : Prop := args = #[.ref b] ∧ s.IntsAt b xs ∧ xs.length ≤ 2560 ∧ (Jvm.Cond.and given_1 narrow_1).before args s = true
def lw_Q (_ : Array Value) (s : State) (o : Outcome) (t : State) : Prop := o = .returned (some (.int 1)) ∧ Framed s o t [] 601024 7293034
def lw_Z (below : List Frame) (a : Array Value) (s : State) : State → Prop := fun t => ∃ o, t.status = .running ∧ Ended t below o ∧ lw_Q a s o t
/-- the law's own end, with 1 on the stack, nothing written that was there before, its room as the claim has it -/
theorem lw_ret {p : Program} {l : Launch} {e : Env} {s : State} {m : MethodId} {below : List Frame} {meth : Method} {c : Code} {b : Nat} (hx : p.tables.exec = Jvm.exec) (hb : c.code = code) (hr : meth.sig.returnType = ret) (hlocks : meth.locks = false) {pc : Nat} {H : Heap} {ls : Array Slot} (hdg : decode code pc = .ok (.ireturn, 1)) : W p l e room_1 s m #[Value.ref b] below meth c H [] 601024 7293034 (lw_Z below #[Value.ref b] s) (F0 m pc ls [.int 1]) := by
  intro T hT X
  obtain ⟨fs, hret, hrun, hended, hW, hframe⟩ := X.leave (v := some (.int 1)) (hlocks := hlocks) (fun h => by rw [hr] at h; cases h)
  have hmeth' : T.vm.method? m = some meth := X.method'
  refine ⟨T.setFrames fs, ?_, .returned (some (.int 1)), hrun, hended, rfl, ⟨_, rfl⟩, hW, hframe⟩
  jvm_step X.here [X.here.top, hx, hb, hdg, hmeth', hr, ret, narrow_b1]
  (try refine ⟨rfl, ?_⟩); (try refine ⟨rfl, ?_⟩)
  first | (intro acts; rw [hret _ acts rfl rfl rfl]) | rw [hret _ _ rfl rfl rfl]
  exact Steps.refl _
/-- what holds at the law's entry: the machine, the code, the tables' words (any of lw_tbl by 'hts w (by decide +kernel)'), the script of L ints xs at the cell b, what the Statement gives of the start (any of its parts by flat_of_before) -/
def lw_At (p : Program) (s : State) (m : MethodId) (meth : Method) (c : Code) (b L : Nat) (xs : Nat → Int32) : Prop :=
  p.tables.exec = Jvm.exec ∧ c.code = code ∧ meth.sig.returnType = ret ∧ c.maxLocals = 8 ∧ s.vm.findClass R_law = some m.cls ∧ (∀ w ∈ lw_tbl, w.before #[Value.ref b] s = true) ∧ va_X b L xs s s.heap ∧ b < s.heap.size ∧ meth.locks = false ∧ (Jvm.Cond.and given_1 narrow_1).before #[Value.ref b] s = true ∧ s.methodNamed? x = some m ∧ (Jvm.Cond.code x code maxLocals ret).before #[Value.ref b] s = true
theorem pt_nc_ok : ([90, 91, 92, 93].all fun x => [90, 91, 92, 93].all fun y => Nat.beq x y || decide (Cond.not (.castable (px_xn x) (px_xn y)) ∈ flatC (Jvm.Cond.and given_1 narrow_1))) = true := by decide +kernel
theorem pt_xi_ok : ([90, 91, 92, 93].all fun x => decide (Cond.instantiable (px_xn x) 6 ∈ tables_1)) = true := by decide +kernel
theorem pt_in4 {x : Nat} (h0 : 90 ≤ x) (h1 : x ≤ 93) : x ∈ [90, 91, 92, 93] := by
  simp only [List.mem_cons, List.not_mem_nil, or_false]
  omega
theorem pt_G_ex {p : Program} {l : Launch} {s : State} {m : MethodId} {meth : Method} {c : Code} {b L : Nat} {xs : Nat → Int32} (hfl : l.flags = flags0) (C0 : lw_At p s m meth c b L xs) :
    ∃ (D : va_G) (aC xC : Nat → ClassId) (X : Nat → Nat), X 0 = b ∧ pt_G p l s #[.ref b] (L, xs) D aC xC X ∧ pt_S s X := by
  obtain ⟨hx, hb, hr, hml, hown, hts, hX, hbl, hlk, hg, -, -⟩ := C0
  have hH := pt_holds_of hts
  obtain ⟨D, hD⟩ := pt_D_ex hH
  obtain ⟨aC, hA⟩ := pt_A_ex hts hD
  have hfl2 := flat_of_before _ hg
  have hxe : ∀ x : Nat, ∃ cX : ClassId, 90 ≤ x → x ≤ 93 → ClassAt s (px_xn x) cX := by
    intro x
    by_cases h : 90 ≤ x ∧ x ≤ 93
    · have h1 := List.all_eq_true.mp pt_xi_ok x (pt_in4 h.1 h.2)
      obtain ⟨cI, kI, q1, q2, q3, -, -, -⟩ := Cond.instantiable_spec (hts _ (List.mem_append_right _ (of_decide_eq_true h1)))
      exact ⟨cI, fun _ _ => ⟨q1, kI, q2, q3⟩⟩
    · exact ⟨0, fun h1 h2 => absurd ⟨h1, h2⟩ h⟩
  obtain ⟨xC, hxC⟩ := Classical.axiomOfChoice hxe
  obtain ⟨ad, had⟩ := Classical.axiomOfChoice (pt_s_one hg)
  have hz1 : va_Z "java/lang/String" "COMPACT_STRINGS" "Z" (.int 1) px_N s s.heap := va_Zof (hts _ (List.mem_append_right _ (by decide +kernel))) (hts _ (List.mem_append_right _ (by decide +kernel))) (va_eqt (hfl2 (.eq (.static "java/lang/String" "COMPACT_STRINGS" "Z") (.int 1)) (by decide +kernel))) (fun _ _ h => h)
  have hz2 : va_Zq "jdk/internal/util/Preconditions" "SIOOBE_FORMATTER" "Ljava/util/function/BiFunction;" px_N s s.heap := va_Zqof (hts _ (List.mem_append_right _ (by decide +kernel))) (hts _ (List.mem_append_right _ (by decide +kernel))) (hfl2 _ (by decide +kernel)) (fun _ _ h => h)
  refine ⟨D, aC, xC, fun k => match k with | 0 => b | k + 1 => ad k, rfl, ⟨hts, hD, hA, hxC, ?_, ?_, hfl2 _ (by decide +kernel), hfl2 _ (by decide +kernel), hfl, hx, hX, hbl⟩, ?_, ?_⟩
  · intro x y h1 h2 h3 h4 hne
    have h := List.all_eq_true.mp (List.all_eq_true.mp pt_nc_ok x (pt_in4 h1 h2)) y (pt_in4 h3 h4)
    rcases (Bool.or_eq_true _ _).mp h with h5 | h5
    · exact absurd (Nat.eq_of_beq_eq_true h5).symm hne
    · exact va_Nc.of (hfl2 _ (of_decide_eq_true h5))
  · intro q n hk
    have h := List.all_eq_true.mp pt_okS2_all _ hk
    unfold pt_okS2 at h
    dsimp only at h
    split at h
    · rename_i k hkl
      obtain ⟨h, h3⟩ := pt_and h
      obtain ⟨h1, h2⟩ := pt_and h
      have k62 : k < 62 := Nat.le_of_ble_eq_true h1
      have e2 : (pt_se k).1 = q := Nat.eq_of_beq_eq_true h2
      have e3 : (pt_se k).2.1 = n := Nat.eq_of_beq_eq_true h3
      have hsr := List.all_eq_true.mp pt_srw_ok k (List.mem_range.mpr k62)
      obtain ⟨w, hw⟩ := Option.isSome_iff_exists.mp hsr
      have hw1 := List.find?_some hw
      have hw2 := List.mem_of_find?_eq_some hw
      split at hw1
      · rename_i o n' tx
        obtain ⟨g1, g2⟩ := pt_and hw1
        have e4 : n' = (pt_se k).2.1 := Nat.eq_of_beq_eq_true g1
        have e5 := of_decide_eq_true g2
        have hev := (had k k62).1
        unfold pt_stm at hev
        rw [e2, e3] at hev
        refine ⟨tx, k, hkl, ?_⟩
        have hword := hts _ (List.mem_append_right _ hw2)
        rw [e5, e4, e2, e3] at hword
        exact vk_R.of (A := #[.ref b]) hword hev
      · cases hw1
    · cases h
  · intro k q hq
    have hlt : k < 62 := by
      have := (List.getElem?_eq_some_iff.mp hq).1
      rw [pt_sord_ok.2] at this
      exact this
    have e : pt_se k = q := by
      unfold pt_se
      rw [List.getD_eq_getElem?_getD, hq]
      rfl
    have h := (had k hlt).2
    rw [e] at h
    exact h
  · rcases hz2 with h | ⟨t, h⟩
    · exact ⟨none, hz1, h⟩
    · exact ⟨some t, hz1, h⟩
