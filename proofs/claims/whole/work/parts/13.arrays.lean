/-! arrays: their classes at the start -/
def pt_at (k : Nat) : FieldType := if k = 0 then .int else if k = 1 then .long else if k = 2 then .byte else .boolean
def pt_ap (k : Nat) : Cond := .arrayClass (pt_at k)
section PTA
variable {s0 : State} {p : Program} {l : Launch} {e : Env} {R : Room} {s : State} {m : MethodId} {args : Array Value} {below : List Frame} {meth : Method} {c : Code}
/-- the array classes' numbers at the start -/
def pt_A (s0 : State) (D : va_G) (aC : Nat → ClassId) : Prop :=
  (∀ k, k < 4 → ArrOfT s0 (aC k) (pt_at k) ∧ s0.vm.findClass ("[" ++ (pt_at k).toString) = some (aC k)) ∧
  ∀ q, pt_ar q = true → va_AO (pt_nm q) s0 ∧ ArrOfT s0 (aC (10 + q)) (.object (pt_nm q)) ∧ s0.vm.findClass ("[" ++ (FieldType.object (pt_nm q)).toString) = some (aC (10 + q)) ∧ ∃ kA : Class, s0.vm.classes[aC (10 + q)]? = some kA ∧ kA.kind = .array (D.1 q) (.object (pt_nm q))
theorem pt_ar_lt {q : Nat} (h : pt_ar q = true) : q = 1 ∨ q = 3 ∨ q = 4 ∨ q = 7 := by
  unfold pt_ar at h
  simp only [Bool.or_eq_true] at h
  rcases h with ((h | h) | h) | h
  · exact Or.inl (Nat.eq_of_beq_eq_true h)
  · exact Or.inr (Or.inl (Nat.eq_of_beq_eq_true h))
  · exact Or.inr (Or.inr (Or.inl (Nat.eq_of_beq_eq_true h)))
  · exact Or.inr (Or.inr (Or.inr (Nat.eq_of_beq_eq_true h)))
theorem pt_ar12 {q : Nat} (h : pt_ar q = true) : q < 12 := by have := pt_ar_lt h; omega
theorem pt_in_ac : ∀ k, k < 4 → Cond.arrayClass (pt_at k) ∈ lw_tbl := by
  intro k hk
  rcases (show k = 0 ∨ k = 1 ∨ k = 2 ∨ k = 3 by omega) with rfl | rfl | rfl | rfl <;> exact List.mem_append_right _ (by decide +kernel)
theorem pt_in_ao : ∀ q, pt_ar q = true → Cond.arrayOver (.object (pt_nm q)) ∈ lw_tbl := by
  intro q hq
  rcases pt_ar_lt hq with rfl | rfl | rfl | rfl <;> exact List.mem_append_right _ (by decide +kernel)
theorem pt_A_ex {a0 : Array Value} (hts : ∀ w ∈ lw_tbl, w.before a0 s0 = true) {D : va_G} (hD : pt_D s0 D) : ∃ aC, pt_A s0 D aC := by
  have h : ∀ k, ∃ cA : ClassId, (k < 4 → ArrOfT s0 cA (pt_at k) ∧ s0.vm.findClass ("[" ++ (pt_at k).toString) = some cA) ∧ (∀ q, k = 10 + q → pt_ar q = true → ArrOfT s0 cA (.object (pt_nm q)) ∧ s0.vm.findClass ("[" ++ (FieldType.object (pt_nm q)).toString) = some cA ∧ ∃ kA : Class, s0.vm.classes[cA]? = some kA ∧ kA.kind = .array (D.1 q) (.object (pt_nm q))) := by
    intro k
    by_cases hk : k < 4
    · obtain ⟨cA, kA, comp, h1, h2, h3⟩ := Cond.arrayClass_spec (hts _ (pt_in_ac k hk))
      exact ⟨cA, fun _ => ⟨fun n z => ⟨fun k h => (by cases h), kA, h2, comp, h3⟩, h1⟩, fun q hq => by omega⟩
    · by_cases hq : pt_ar (k - 10) = true ∧ 10 ≤ k
      · obtain ⟨comp, cA, kA, h1, h2, h3, h4, h5⟩ := Cond.arrayOver_spec (hts _ (pt_in_ao _ hq.1))
        refine ⟨cA, fun h => absurd h hk, fun q e _ => ?_⟩
        obtain rfl : k - 10 = q := by omega
        have hcomp : comp = D.1 (k - 10) := Option.some.inj (h1.symm.trans (hD _ (pt_ar12 hq.1)).2.1)
        subst hcomp
        exact ⟨fun n z => ⟨fun k h => (by cases h), kA, h3, _, h4⟩, h5, kA, h3, h4⟩
      · exact ⟨0, fun h => absurd h hk, fun q e har => absurd ⟨by rw [e, Nat.add_sub_cancel_left]; exact har, by omega⟩ hq⟩
  refine ⟨fun k => Classical.choose (h k), fun k hk => (Classical.choose_spec (h k)).1 hk, fun q hq => ⟨va_AO.of (hts _ (pt_in_ao q hq)), (Classical.choose_spec (h (10 + q))).2 q rfl hq⟩⟩
theorem pt_tab_of {D : va_G} {Z : pv_T} {aC : Nat → ClassId} (hZ : Z.2.2 = D) (hZa : Z.1 = aC) (hH : pt_holds s0) (hD : pt_D s0 D) (hA : pt_A s0 D aC) (hs : s0.WarmedH s.vm) : pv_tab Z pt_nm pt_ar pt_nw s := by
  refine ⟨fun k hk => ?_, fun ci i j hc hi hj hij => ?_, fun ci har => ?_⟩
  · rw [hZa]
    exact arrOfT_moved hs.alike (hA.1 k hk).1
  · rw [hZ]
    have k4 := (pt_okC_spec hc).2.2.2
    exact pt_apart hH hD hc i j (by rw [← k4]; exact hi) (by rw [← k4]; exact hj) hij
  · obtain ⟨h1, h2, h3, kA, h4, h5⟩ := hA.2 ci har
    rw [hZ, hZa]
    have h12 := pt_ar12 har
    obtain ⟨kA', hkA', hkind'⟩ := hs.alike.2.2 _ _ h4
    have hKn := hD.at hs h12
    obtain ⟨-, hca, kC, hkC, hkC2⟩ := hKn
    exact ⟨arrOfT_moved hs.alike h2, kA', kC, hkA', by rw [hkind']; exact h5, hkC, va_assign (C := pt_nm ci) ⟨hca, kC, hkC, hkC2⟩⟩
/-- an array of numbers comes -/
theorem pt_rA {D : va_G} {aC : Nat → ClassId} (hts : ∀ w ∈ lw_tbl, ∀ (a : Array Value) (U : State), s0.WarmedH U.vm → goodWord w = true → w.before a U = true) (hA : pt_A s0 D aC) (hx : p.tables.exec = Jvm.exec) (hs : s0.WarmedH s.vm) {t : ArrayType} (ht : pv_akind t < 4) {pc : Nat} (hdg : decode c.code pc = .ok (.newarray t, 2)) :
    pv_rA p l e R s m args below meth c pc 2 (aC (pv_akind t)) (defaultValue (newarray.typeOf t)) := by
  intro H locs cells slots Q ls rest n hn hN hc1 hc2 kk
  have hty : newarray.typeOf t = pt_at (pv_akind t) := by cases t <;> first | rfl | (exact absurd ht (by decide))
  have harr : (Cond.arrayClass (newarray.typeOf t)).before args s = true := by
    rw [hty]
    exact hts _ (pt_in_ac _ ht) args s hs rfl
  have hby : n.toNatClampNeg * componentBytes (newarray.typeOf t) ≤ 536870912 := by
    have : componentBytes (newarray.typeOf t) ≤ 8 := by cases t <;> decide
    calc n.toNatClampNeg * componentBytes (newarray.typeOf t) ≤ 10000000 * 8 := Nat.mul_le_mul hN this
      _ ≤ 536870912 := by decide
  refine va_newaK hx rfl harr rfl hdg rfl hn rfl hby hc1 hc2 rfl fun H1 cA e1 z1 o1 hAr hNm => ?_
  have hcA : cA = aC (pv_akind t) := by
    have h2 := (hA.1 _ ht).2
    rw [← hty] at h2
    have h3 : s.vm.findClass ("[" ++ (newarray.typeOf t).toString) = some (aC (pv_akind t)) := by rw [hs.alike.findClass]; exact h2
    exact Option.some.inj (hNm.symm.trans h3)
  subst hcA
  exact kk H1 z1 o1 e1
/-- an array of references comes -/
theorem pt_rR {D : va_G} {aC : Nat → ClassId} (hH : pt_holds s0) (hA : pt_A s0 D aC) (hx : p.tables.exec = Jvm.exec) (hs : s0.WarmedH s.vm) {q n t : Nat} (hown : s.vm.findClass (pt_nm q) = some m.cls) (ht : pt_ar t = true) (hl : pt_wd (pt_np q n) = some (.classLink (pt_nm q) n (pt_nm t))) {pc : Nat} (hdg : decode c.code pc = .ok (.anewarray n, 3)) :
    pv_rA p l e R s m args below meth c pc 3 (aC (10 + t)) .null := by
  intro H locs cells slots Q ls rest k hk hN hc1 hc2 kk
  obtain ⟨h1, h2, h3, -⟩ := hA.2 t ht
  refine W.anew hx rfl hown (hH _ _ hl rfl args s hs) (va_AO.use (va_AO.moved hs.alike h1)) rfl hdg rfl hk (by omega) hc1 hc2 fun cA kA comp f1 f2 f3 f4 => ?_
  have hcA : cA = aC (10 + t) := by
    have h4 : s.vm.findClass ("[" ++ (FieldType.object (pt_nm t)).toString) = some (aC (10 + t)) := by rw [hs.alike.findClass]; exact h3
    exact Option.some.inj (f1.symm.trans h4)
  subst hcA
  refine kk _ (by simp) (fun q hq => by rw [Array.getElem?_push, if_neg (Nat.ne_of_lt hq)]) ?_
  rw [arrV_new]
  simp
end PTA
