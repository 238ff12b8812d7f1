/-! from the law's start to its loop -/
theorem fokA_at {el : Bool} {lo m : Nat} (h : fokA el lo m = true) : ∃ T1, frun 20000 12 300 (TP (tz 12 0, 0, 0) (.inr (0, pt_nw 0))) 0 [(0, .ref 0)] = some (T1, .inl none) ∧ T1.2.1 = 1977 ∧ T1.2.2 = 41708 ∧ ∀ a, a < m → okc el (TG T1 (lo + a)) (lo + a) = true := by
  unfold fokA at h
  split at h
  · rename_i T1 e
    obtain ⟨h1, h3⟩ := (Bool.and_eq_true _ _).mp h
    obtain ⟨h1, h2⟩ := (Bool.and_eq_true _ _).mp h1
    exact ⟨T1, e, nbeq.mp h1, nbeq.mp h2, fun a ha => List.all_eq_true.mp h3 a (List.mem_range.mpr ha)⟩
  · cases h
theorem fresh_A : ∃ T1, frun 20000 12 300 (TP (tz 12 0, 0, 0) (.inr (0, pt_nw 0))) 0 [(0, .ref 0)] = some (T1, .inl none) ∧ T1.2.1 = 1977 ∧ T1.2.2 = 41708 ∧ ∀ a, a < 1977 → okc false (TG T1 a) a = true ∧ okc true (TG T1 a) a = true := by
  obtain ⟨T, e, e1, e2, h0⟩ := fokA_at fokA_0
  obtain ⟨Ta, ea, -, -, h1⟩ := fokA_at fokA_1
  obtain ⟨Tb, eb, -, -, h2⟩ := fokA_at fokA_2
  obtain ⟨Tc, ec, -, -, h3⟩ := fokA_at fokA_3
  have qa : Ta = T := by rw [e] at ea; cases ea; rfl
  have qb : Tb = T := by rw [e] at eb; cases eb; rfl
  have qc : Tc = T := by rw [e] at ec; cases ec; rfl
  subst qa qb qc
  refine ⟨_, e, e1, e2, fun a ha => ⟨?_, ?_⟩⟩
  · have := h0 a ha
    rw [Nat.zero_add] at this
    exact this
  · by_cases c1 : a < 5
    · have := h1 a c1
      rw [Nat.zero_add] at this
      exact this
    · by_cases c2 : a < 980
      · have := h2 (a - 5) (by omega)
        rw [show 5 + (a - 5) = a from by omega] at this
        exact this
      · have := h3 (a - 980) (by omega)
        rw [show 980 + (a - 980) = a from by omega] at this
        exact this
theorem fresh_C : ∃ T2, frun 2000 12 300 (TP (tz 12 0, 1977, 41708) (.inr (11, pt_nw 11))) 165 [(0, .ref 1977)] = some (T2, .inl none) ∧ T2.2.1 = 2017 ∧ T2.2.2 = 96148 ∧ ∀ a, a < 40 → okc true (TG T2 (a + 1977)) (a + 1977) = true ∧ okc false (TG T2 (a + 1977)) (a + 1977) = true := by
  have h := fokC_ok
  unfold fokC at h
  split at h
  · rename_i T1 e
    obtain ⟨h1, h3⟩ := (Bool.and_eq_true _ _).mp h
    obtain ⟨h1, h2⟩ := (Bool.and_eq_true _ _).mp h1
    exact ⟨T1, e, nbeq.mp h1, nbeq.mp h2, fun a ha => (Bool.and_eq_true _ _).mp (List.all_eq_true.mp h3 a (List.mem_range.mpr ha))⟩
  · cases h
/-- the tree shows nothing below a place, and below it the list stays -/
def tr2 (h1 : List pv_E) (a : TH) (b : List pv_E) : Prop := tr a b ∧ (∀ i x, TG a i = some x → 1977 ≤ i) ∧ 1977 ≤ pv_N b ∧ ∀ i, i < 1977 → pv_G b i = pv_G h1 i
theorem TG_setN {t : TL} {n m n2 m2 i j : Nat} {x y : pv_E} (h : TG (ts t i x, n, m) j = some y) : j = i ∨ TG (t, n2, m2) j = some y := by
  rcases TG_set (n2 := n2) (m2 := m2) h with ⟨e, -⟩ | ⟨-, e⟩
  · exact Or.inl e
  · exact Or.inr e
theorem tr2_R (h1 : List pv_E) : ph_R TG TS TP TN TM pv_G pv_S pv_P pv_N pv_M (tr2 h1) := by
  have hR := tr_R
  refine ⟨fun a b i x hr hg => hr.1.2.2 i x hg, fun a b i x e hr hg hz => ?_, fun a b e hr => ?_, fun a b hr => hr.1.1, fun a b hr => hr.1.2.1⟩
  · obtain ⟨q1, q2, q3, q4⟩ := hr
    refine ⟨hR.2.1 _ _ _ _ _ q1 hg hz, fun j y hj => ?_, ?_, fun j hj => ?_⟩
    · rcases TG_setN (n2 := a.2.1) (m2 := a.2.2) hj with rfl | hj2
      · exact q2 _ _ hg
      · exact q2 _ _ hj2
    · show 1977 ≤ (b.set i e).length
      rw [List.length_set]; exact q3
    · have hi := q2 _ _ hg
      show (b.set i e)[j]? = _
      rw [List.getElem?_set_ne (by omega)]
      exact q4 j hj
  · obtain ⟨q1, q2, q3, q4⟩ := hr
    refine ⟨hR.2.2.1 _ _ _ q1, fun j y hj => ?_, ?_, fun j hj => ?_⟩
    · rcases TG_setN (n2 := a.2.1) (m2 := a.2.2) hj with hj2 | hj2
      · have e3 : a.2.1 = pv_N b := q1.1
        omega
      · exact q2 _ _ hj2
    · show 1977 ≤ (b ++ [e]).length
      rw [List.length_append]
      have : 1977 ≤ b.length := q3
      omega
    · show (b ++ [e])[j]? = _
      have : 1977 ≤ b.length := q3
      rw [List.getElem?_append_left (by omega)]
      exact q4 j hj
theorem tz_none (i : Nat) : ∀ (d lo : Nat), tg (tz d lo) i = none := by
  intro d
  induction d with
  | zero => intro lo; rfl
  | succ d ih =>
    intro lo
    show (bif Nat.blt i (lo + 2 ^ d) then tg (tz d lo) i else tg (tz d (lo + 2 ^ d)) i) = none
    rw [ih, ih]
    cases Nat.blt i (lo + 2 ^ d) <;> rfl
theorem TG_tz {n m i : Nat} {x : pv_E} (h : TG (tz 12 0, n, m) i = some x) : False := by
  unfold TG at h
  dsimp only at h
  rw [tz_none] at h
  cases h
/-- a constructor's run, over any script -/
theorem frun_pr (sc : Nat × (Nat → Int32)) {r : TH → List pv_E → Prop} (hR : ph_R TG TS TP TN TM pv_G pv_S pv_P pv_N pv_M r) {n : Nat} {T T1 : TH} {h : List pv_E} {y : Nat} {lv : List (Nat × Value)} {o : pv_O} (hr : r T h) (e : frun n 12 300 T y lv = some (T1, o)) {fr lo : Nat} (hf : 12 ≤ fr) (hl : 300 ≤ lo) : ∃ h1, pr sc n fr lo h y 0 lv [] = some (h1, o) ∧ r T1 h1 := by
  have e2 := rs_run (sc2 := sc) (co2 := pt_cox) ci1_ok n _ _ _ _ _ _ _ _ e
  exact ph_run hR (ph_xt hR) n n (Nat.le_refl _) 12 300 fr lo _ _ y 0 lv [] _ _ hr hf hl e2
section LST
variable {sc : Nat × (Nat → Int32)} {fr lo : Nat} {h h1 h' : List pv_E} {y pc : Nat} {lv : List (Nat × Value)} {st : List Value} {o : pv_O}
theorem p_new {q c : Nat} (hco : pt_cox y pc = some (.new q)) (hc : (pt_ax y (.new q)).1 = c) (h9 : c < 90) (hN : pv_N h < 601024) (hM : pv_M h + (pt_nw c).length ≤ 7293034) (n : Nat) : pr sc (n + 1) fr lo h y pc lv st = pr sc n fr lo (pv_P h (.inr (c, pt_nw c))) y (pc + 3) lv (.ref (pv_N h) :: st) := by
  refine p_h (i := .new q) hco rfl rfl rfl ?_ n
  have e5 : ∀ a1 a2, pv_h pv_G pv_S pv_P pv_N pv_M sc 601024 7293034 pt_ar pt_nw pt_fty (.new q) a1 a2 h st = if a1 < 90 then pv_mk pv_P pv_N pv_M 601024 7293034 h (.inr (a1, pt_nw a1)) (pt_nw a1).length st else none := fun _ _ => rfl
  rw [e5, hc, if_pos h9]
  exact if_pos ⟨hN, hM⟩
theorem rn_iv2 {i : Instr} (hco : pt_cox y pc = some i) (hi : pv_isiv i = true) (hkd : (pt_ax y i).1 < 3) (hlen : ¬ st.length < (pt_ax y i).2.2)
    (hc : pv_recv pv_G pt_rc (pt_ax y i).1 (pt_ax y i).2.1 h (st.take (pt_ax y i).2.2).reverse = true ∧ ((st.drop (pt_ax y i).2.2).map Value.category).sum + (pt_nL (pt_ax y i).2.1 + 11) ≤ lo ∧ (lg_sl (st.take (pt_ax y i).2.2).reverse).length ≤ pt_nL (pt_ax y i).2.1) {v : Option Value} {n : Nat}
    (hcal : pr sc n fr (lo - (((st.drop (pt_ax y i).2.2).map Value.category).sum + (pt_nL (pt_ax y i).2.1 + 11))) h (pt_ax y i).2.1 0 (lv_args 0 (st.take (pt_ax y i).2.2).reverse) [] = some (h1, .inl v)) (hr : rn sc (fr + 1) lo h1 y (pc + 3) lv (v.toList ++ st.drop (pt_ax y i).2.2) h' o) : rn sc (fr + 1) lo h y pc lv st h' o := by
  obtain ⟨n2, e2⟩ := hr
  refine ⟨n + n2 + 1, ?_⟩
  rw [rn_iv hco hi hkd hlen hc (pr_more (Nat.le_add_right n n2) (Nat.le_refl _) (Nat.le_refl _) hcal)]
  exact pr_more (Nat.le_add_left n2 n) (Nat.le_refl _) (Nat.le_refl _) e2
theorem rn_iv3 {i : Instr} {kd z k : Nat} (hax : pt_ax y i = (kd, z, k)) (hco : pt_cox y pc = some i) (hi : pv_isiv i = true) (hkd : kd < 3) (hlen : ¬ st.length < k)
    (hc : pv_recv pv_G pt_rc kd z h (st.take k).reverse = true ∧ ((st.drop k).map Value.category).sum + (pt_nL z + 11) ≤ lo ∧ (lg_sl (st.take k).reverse).length ≤ pt_nL z) {v : Option Value} {n : Nat}
    (hcal : pr sc n fr (lo - (((st.drop k).map Value.category).sum + (pt_nL z + 11))) h z 0 (lv_args 0 (st.take k).reverse) [] = some (h1, .inl v)) (hr : rn sc (fr + 1) lo h1 y (pc + 3) lv (v.toList ++ st.drop k) h' o) : rn sc (fr + 1) lo h y pc lv st h' o := by
  have e1 : kd = (pt_ax y i).1 := by rw [hax]
  have e2 : z = (pt_ax y i).2.1 := by rw [hax]
  have e3 : k = (pt_ax y i).2.2 := by rw [hax]
  subst e1 e2 e3
  exact rn_iv2 hco hi hkd hlen hc hcal hr
end LST
theorem law_start {L : Nat} {xs : Nat → Int32} (hL : L ≤ 2560) (hW : WP (L, xs) 317 23 D0 [(0, (3, 0)), (1, (1200, 0)), (2, (1211, 1977)), (3, (1001, 2017)), (4, (0, 0))] [] (fun _ x => x = 1) (fun _ _ => False)) : pt_runs L xs := by
  obtain ⟨T1, eA, nA, mA, hA⟩ := fresh_A
  obtain ⟨T2, eC, nC, mC, hC⟩ := fresh_C
  have tr0 : tr (TP (tz 12 0, 0, 0) (.inr (0, pt_nw 0))) [.inr (0, pt_nw 0)] := tr_R.2.2.1 _ _ _ tr_nil
  obtain ⟨h1, r1, t1⟩ := frun_pr (L, xs) tr_R tr0 eA (fr := 14) (lo := 584 - (1 + (pt_nL 0 + 11))) (by omega) (by decide +kernel)
  have hn1 : pv_N h1 = 1977 := t1.1.symm.trans nA
  have hm1 : pv_M h1 = 41708 := t1.2.1.symm.trans mA
  have tr1 : tr2 h1 (TP (tz 12 0, 1977, 41708) (.inr (11, pt_nw 11))) (pv_P h1 (.inr (11, pt_nw 11))) := by
    refine (tr2_R h1).2.2.1 _ _ _ ⟨⟨hn1.symm, hm1.symm, fun i x h => (TG_tz h).elim⟩, fun i x h => (TG_tz h).elim, by rw [hn1]; exact Nat.le_refl _, fun i _ => rfl⟩
  obtain ⟨h2, r2, t2⟩ := frun_pr (L, xs) (tr2_R h1) tr1 eC (fr := 14) (lo := 584 - (1 + (pt_nL 165 + 11))) (by omega) (by decide +kernel)
  have hn2 : pv_N h2 = 2017 := t2.1.1.symm.trans nC
  have hm2 : pv_M h2 = 96148 := t2.1.2.1.symm.trans mC
  have t3 : tr2 h1 (TP T2 (.inl (1, pv_anew .long 1))) (pv_P h2 (.inl (1, pv_anew .long 1))) := (tr2_R h1).2.2.1 _ _ _ t2
  have hh : hr (pv_P h2 (.inl (1, pv_anew .long 1))) D0 := by
    refine ⟨⟨by decide, ?_, ?_⟩, fun a ha => ?_⟩
    · show (h2 ++ [_]).length = _
      rw [List.length_append, show h2.length = 2017 from hn2]
      rfl
    · rw [pv_M_push, hm2]
      rfl
    · by_cases c1 : a < 1977
      · obtain ⟨g1, g2⟩ := hA a c1
        have e1 := t3.2.2.2 a c1
        have e2 : ∃ x, TG T1 a = some x := by
          cases hx : TG T1 a with
          | some x => exact ⟨x, rfl⟩
          | none =>
            rw [hx] at g1 g2
            exfalso
            have := okc_spec g1 g2
            unfold cer at this
            repeat' split at this
            all_goals (obtain ⟨f, q, -⟩ := this; cases q)
        obtain ⟨x, hx⟩ := e2
        rw [e1, t1.2.2 a x hx, ← hx]
        exact okc_spec g1 g2
      · by_cases c2 : a < 2017
        · obtain ⟨g2, g1⟩ := hC (a - 1977) (by omega)
          rw [show a - 1977 + 1977 = a from by omega] at g1 g2
          have e2 : ∃ x, TG T2 a = some x := by
            cases hx : TG T2 a with
            | some x => exact ⟨x, rfl⟩
            | none =>
              rw [hx] at g1 g2
              exfalso
              have := okc_spec g1 g2
              unfold cer at this
              repeat' split at this
              all_goals (obtain ⟨f, q, -⟩ := this; cases q)
          obtain ⟨x, hx⟩ := e2
          have e3 : pv_G (pv_P h2 (.inl (1, pv_anew .long 1))) a = pv_G h2 a := List.getElem?_append_left (by have : h2.length = 2017 := hn2; omega)
          rw [e3, t2.1.2.2 a x hx, ← hx]
          exact okc_spec g1 g2
        · have ea : a = 2017 := by omega
          subst ea
          have e3 : pv_G (pv_P h2 (.inl (1, pv_anew .long 1))) 2017 = some (.inl (1, pv_anew .long 1)) := by
            show (h2 ++ [_])[2017]? = _
            rw [List.getElem?_append_right (by have : h2.length = 2017 := hn2; omega), show h2.length = 2017 from hn2]
            rfl
          rw [e3, cer_1 (by decide +kernel)]
          refine ⟨fun _ => 0, ?_, fun j hj => ?_⟩
          · rw [show tln 2017 = 1 from by decide +kernel]; rfl
          · rw [D0_arr (Or.inr (Or.inl (by decide +kernel))), if_neg (by decide)]
            exact vl' rfl
  have hlr : lr [(0, (3, 0)), (1, (1200, 0)), (2, (1211, 1977)), (3, (1001, 2017)), (4, (0, 0))] [(4, .int 0), (3, .ref 2017), (2, .ref 1977), (1, .ref 0), (0, .retAddr 0)] := by
    intro i t ht
    rcases i with _ | _ | _ | _ | _ | i
    · cases ht; exact ⟨_, rfl, rfl⟩
    · cases ht; exact ⟨_, rfl, vnp' (by omega) ⟨by omega, by omega, rfl, by decide +kernel⟩⟩
    · cases ht; exact ⟨_, rfl, vnp' (by omega) ⟨by omega, by omega, rfl, by decide +kernel⟩⟩
    · cases ht; exact ⟨_, rfl, vnp' (by omega) ⟨by omega, by omega, rfl, by decide +kernel⟩⟩
    · cases ht; exact ⟨_, rfl, vi' rfl⟩
    · exact absurd ht (by simp [tget, nbne (show (0 : Nat) ≠ i + 5 by omega), nbne (show (1 : Nat) ≠ i + 5 by omega), nbne (show (2 : Nat) ≠ i + 5 by omega), nbne (show (3 : Nat) ≠ i + 5 by omega), nbne (show (4 : Nat) ≠ i + 5 by omega)])
  obtain ⟨n, h3, o, D3, e3, hh3, hp⟩ := hW hL 15 584 _ [(4, .int 0), (3, .ref 2017), (2, .ref 1977), (1, .ref 0), (0, .retAddr 0)] [] (by decide +kernel) (by decide +kernel) hh hlr True.intro
  have ho : o = .inl (some (.int 1)) := by
    unfold tpost at hp
    split at hp
    · obtain ⟨x, hx, hx1⟩ := hp
      have hx2 : x = 1 := hx1
      subst hx2
      rw [show trt 317 = 6 from by decide +kernel] at hx
      obtain ⟨v, rfl, hv, -⟩ := hx
      obtain ⟨X, rfl, hX⟩ := vi hv
      have : X = 1 := Int32.toInt_inj.mp (by rw [hX]; rfl)
      rw [this]
    · obtain ⟨x, -, hx1⟩ := hp
      exact hx1.elim
  subst ho
  have hfin : rn (L, xs) 15 584 (pv_P h2 (.inl (1, pv_anew .long 1))) 317 23 [(4, .int 0), (3, .ref 2017), (2, .ref 1977), (1, .ref 0), (0, .retAddr 0)] [] h3 (.inl (some (.int 1))) := ⟨n, e3⟩
  have hS : rn (L, xs) 15 584 [] 317 0 [(0, .retAddr 0)] [] h3 (.inl (some (.int 1))) := by
    refine rn_go 1 (fun n => p_new (q := 8) (c := 0) rfl rfl (by omega) (by decide) (by decide +kernel) n) ?_
    refine rn_go 1 (fun n => p_s1 (i := .dup) rfl rfl rfl n) ?_
    refine rn_iv3 (i := .invokespecial 86) (kd := 1) (z := 0) (k := 1) (by decide +kernel) rfl rfl (by omega) (by decide) ⟨rfl, by decide +kernel, by decide +kernel⟩ r1 ?_
    refine rn_go 1 (fun n => p_s2 (i := .astore_n 1) rfl rfl n) ?_
    refine rn_go 1 (fun n => p_new (q := 87) (c := 11) rfl rfl (by omega) (by rw [hn1]; omega) (by rw [hm1]; decide +kernel) n) ?_
    rw [hn1]
    refine rn_go 1 (fun n => p_s1 (i := .dup) rfl rfl rfl n) ?_
    refine rn_iv3 (i := .invokespecial 89) (kd := 1) (z := 165) (k := 1) (by decide +kernel) rfl rfl (by omega) (by decide) ⟨rfl, by decide +kernel, by decide +kernel⟩ r2 ?_
    refine rn_go 1 (fun n => p_s2 (i := .astore_n 2) rfl rfl n) ?_
    refine rn_go 1 (fun n => p_s1 (i := .iconst 1) rfl rfl rfl n) ?_
    refine rn_go (st1 := [.ref 2017]) (h1 := pv_P h2 (.inl (1, pv_anew .long 1))) 1 (fun n => p_h (i := .newarray .long) rfl rfl rfl rfl ?_ n) ?_
    · show pv_newa pv_P pv_N pv_M 601024 7293034 .long h2 [.int (Int32.ofInt 1)] = _
      unfold pv_newa
      dsimp only
      rw [if_neg (by decide)]
      have e9 : pv_mk pv_P pv_N pv_M 601024 7293034 h2 (.inl (pv_akind .long, pv_anew .long (Int32.ofInt 1).toNatClampNeg)) (Int32.ofInt 1).toNatClampNeg [] = some (pv_P h2 (.inl (pv_akind .long, pv_anew .long (Int32.ofInt 1).toNatClampNeg)), [.ref (pv_N h2)]) := if_pos ⟨by rw [hn2]; omega, by rw [hm2]; decide⟩
      rw [e9, hn2]
      rfl
    refine rn_go 1 (fun n => p_s2 (i := .astore_n 3) rfl rfl n) ?_
    refine rn_go 1 (fun n => p_s1 (i := .iconst 0) rfl rfl rfl n) ?_
    refine rn_go 1 (fun n => p_s2 (i := .istore 4) rfl rfl n) ?_
    exact hfin
  obtain ⟨n, e⟩ := hS
  exact ⟨n, h3, e⟩
