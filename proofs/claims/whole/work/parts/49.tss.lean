/-! the typed machine is sound: the JDK's own, what is thrown, calls; all put together -/
section TSS
variable {sc : Nat × (Nat → Int32)} {y pc : Nat} {D : tD} {lv : List (Nat × tV)} {st : List tV} {K : tD → Int → Prop} {E : tD → Nat → Prop} {i : Instr}
theorem tstr_ok : (pt_str.all fun q => q.2.2.all fun x => decide ((0 : Int32) ≤ x) && decide (x ≤ 127) && true) = true := by decide +kernel
theorem tstr_sz : (pt_str.all fun q => Nat.ble q.2.2.length 200) = true := by decide +kernel
theorem nfw : nativeFrameWords "java/lang/System" "arraycopy" 5 + 11 ≤ 40 := by decide
theorem k_ext (hco : pt_cox y pc = some i) (hi : pv_isiv i = true) {kd : Nat} (hkd : (pt_ax y i).1 = kd) (h3 : 3 ≤ kd) {k : tD → List tV → Prop} (hk : ∀ d s, k d s → WP sc y (pc + 3) d lv s K E) (H : t_ext y kd D st k) : WP sc y pc D lv st K E := by
  unfold t_ext at H
  split at H
  · split at H
    · rename_i s r
      cases hb : (Nat.ble 2 (tnf y) && Nat.ble (tcat1 r) 8 && Nat.ble 40 (tnl y)) with
      | false => rw [hb] at H; exact H.elim
      | true =>
        rw [hb] at H
        obtain ⟨hb1, hb3⟩ := (Bool.and_eq_true _ _).mp hb
        obtain ⟨hb1, hb2⟩ := (Bool.and_eq_true _ _).mp hb1
        have q1 := Nat.le_of_ble_eq_true hb1
        have q2 := Nat.le_of_ble_eq_true hb2
        have q3 := Nat.le_of_ble_eq_true hb3
        refine wp_go (fun _ fr lo h lv' st' hf hl hh hlr hs => ?_) (hk _ _ H)
        obtain ⟨v1, s1, rfl, e1, hs1⟩ := sr_cons hs
        obtain ⟨a1, a2, rfl⟩ : 0 ≤ s ∧ s.toNat < pt_str.length ∧ v1 = .retAddr (s.toNat + 1) := e1
        have hg : pt_str[s.toNat]? = some pt_str[s.toNat] := List.getElem?_eq_getElem a2
        have hsz := Nat.le_of_ble_eq_true (List.all_eq_true.mp tstr_sz _ (List.getElem_mem a2))
        have hv : vr (0, tsn s) (.int (Int32.ofNat pt_str[s.toNat].2.2.length)) := by
          refine vi' ?_
          unfold tsn tstr
          rw [hg, ← Int32.ofInt_eq_ofNat]
          exact Int32.toInt_ofInt_of_le (by omega) (by omega)
        refine ⟨h, lv', .int (Int32.ofNat pt_str[s.toNat].2.2.length) :: s1, fun n => p_xt hco hi (by omega) ?_ n, hh, hlr, ⟨hv, hs1⟩⟩
        rw [hkd]
        show pt_xt 5 (pt_ax y i).2.1 fr lo h (.retAddr (s.toNat + 1) :: s1) = _
        unfold pt_xt
        dsimp only
        rw [hg]
        exact if_pos ⟨by omega, by rw [sr_cat hs1]; exact q2, by omega⟩
    · exact H.elim
  · split at H
    · rename_i x s r
      cases hb : (Nat.ble 4 (tnf y) && Nat.ble (tcat1 r) 8 && Nat.ble 85 (tnl y)) with
      | false => rw [hb] at H; exact H.elim
      | true =>
        rw [hb] at H
        obtain ⟨hb1, hb3⟩ := (Bool.and_eq_true _ _).mp hb
        obtain ⟨hb1, hb2⟩ := (Bool.and_eq_true _ _).mp hb1
        have q1 := Nat.le_of_ble_eq_true hb1
        have q2 := Nat.le_of_ble_eq_true hb2
        have q3 := Nat.le_of_ble_eq_true hb3
        obtain ⟨⟨hx0, hx1⟩, H2⟩ := H
        intro hsc fr lo h lv' st' hf hl hh hlr hs
        obtain ⟨v0, s0, rfl, e0, hs0⟩ := sr_cons hs
        obtain ⟨v1, s1, rfl, e1, hs1⟩ := sr_cons hs0
        obtain ⟨X, rfl, hX⟩ := vi e0
        obtain ⟨a1, a2, rfl⟩ : 0 ≤ s ∧ s.toNat < pt_str.length ∧ v1 = .retAddr (s.toNat + 1) := e1
        have hg : pt_str[s.toNat]? = some pt_str[s.toNat] := List.getElem?_eq_getElem a2
        have ets : tstr s = pt_str[s.toNat].2.2 := by unfold tstr; rw [hg]
        have hlt : x.toNat < pt_str[s.toNat].2.2.length := by unfold tsn at hx1; rw [ets] at hx1; omega
        have hch := List.all_eq_true.mp (List.all_eq_true.mp tstr_ok _ (List.getElem_mem a2)) _ (List.getElem_mem hlt)
        have egd : pt_str[s.toNat].2.2.getD x.toNat 0 = pt_str[s.toNat].2.2[x.toNat] := by rw [List.getD_eq_getElem?_getD, List.getElem?_eq_getElem hlt]; rfl
        have etc : tsc s x = (pt_str[s.toNat].2.2[x.toNat]).toInt := by unfold tsc; rw [ets, egd]
        have hrg : 0 ≤ tsc s x ∧ tsc s x ≤ 127 := by
          rw [etc]
          obtain ⟨hc1, -⟩ := (Bool.and_eq_true _ _).mp hch
          obtain ⟨hc1, hc2⟩ := (Bool.and_eq_true _ _).mp hc1
          have d1 := Int32.le_iff_toInt_le.mp (of_decide_eq_true hc1)
          have d2 := Int32.le_iff_toInt_le.mp (of_decide_eq_true hc2)
          exact ⟨d1, d2⟩
        obtain ⟨n, h3, o, D', e3, hh3, hp⟩ := hk _ _ (H2 hrg) hsc fr lo h lv' (.int (pt_str[s.toNat].2.2.getD x.toNat 0) :: s1) hf hl hh hlr ⟨vi' (by rw [egd, etc]), hs1⟩
        refine ⟨n + 1, h3, o, D', Eq.trans (p_xt hco hi (by omega) ?_ n) e3, hh3, hp⟩
        rw [hkd]
        show pt_xt 6 (pt_ax y i).2.1 fr lo h (.int X :: .retAddr (s.toNat + 1) :: s1) = _
        unfold pt_xt
        dsimp only
        rw [hg]
        dsimp only
        rw [idx_ok hX hx0 (by omega)]
        exact if_pos ⟨by omega, by rw [sr_cat hs1]; exact q2, by omega⟩
    · exact H.elim
  · split at H
    · rename_i nn dp t d sp u a r
      cases hb : (Nat.beq t 1002 && Nat.beq u 1002 && Nat.ble 1 (tnf y) && Nat.ble (tcat1 r + 40) (tnl y)) with
      | false => rw [hb] at H; exact H.elim
      | true =>
        rw [hb] at H
        obtain ⟨hb1, hb4⟩ := (Bool.and_eq_true _ _).mp hb
        obtain ⟨hb1, hb3⟩ := (Bool.and_eq_true _ _).mp hb1
        obtain ⟨hb1, hb2⟩ := (Bool.and_eq_true _ _).mp hb1
        have q1 := nbeq.mp hb1
        have q2 := nbeq.mp hb2
        have q3 := Nat.le_of_ble_eq_true hb3
        have q4 := Nat.le_of_ble_eq_true hb4
        subst q1 q2
        obtain ⟨⟨n0, p0, p1, l0, l1⟩, H2⟩ := H
        refine wp_go (fun _ fr lo h lv' st' hf hl hh hlr hs => ?_) (hk _ _ H2)
        obtain ⟨v0, s0, rfl, e0, hs0⟩ := sr_cons hs
        obtain ⟨v1, s1, rfl, e1, hs1⟩ := sr_cons hs0
        obtain ⟨v2, s2, rfl, e2, hs2⟩ := sr_cons hs1
        obtain ⟨v3, s3, rfl, e3, hs3⟩ := sr_cons hs2
        obtain ⟨v4, s4, rfl, e4, hs4⟩ := sr_cons hs3
        obtain ⟨NN, rfl, hN⟩ := vi e0
        obtain ⟨DP, rfl, hDP⟩ := vi e1
        obtain ⟨SP, rfl, hSP⟩ := vi e3
        obtain ⟨d1, d2, rfl, d4⟩ := vnp (by omega) e2
        obtain ⟨a1, a2, rfl, a4⟩ := vnp (by omega) e4
        have h5 := hh.2 a.toNat (by omega)
        have h6 := hh.2 d.toNat (by omega)
        have hkd2 : tkd d.toNat = 2 := by omega
        rw [cer_2 (by omega)] at h5
        rw [cer_2 hkd2] at h6
        obtain ⟨f, f1, f2⟩ := h5
        obtain ⟨g, g1, g2⟩ := h6
        have ea : ((a.toNat : Nat) : Int) = a := Int.toNat_of_nonneg a1
        have ed : ((d.toNat : Nat) : Int) = d := Int.toNat_of_nonneg d1
        rw [ea] at f2
        rw [ed] at g2
        have tn : ∀ {Z : Int32} {z : Int}, Z.toInt = z → Z.toNatClampNeg = z.toNat := fun {Z z} hz => by show Z.toInt.toNat = _; rw [hz]
        have nn0 : ∀ {Z : Int32} {z : Int}, Z.toInt = z → 0 ≤ z → ¬ Z < 0 := fun {Z z} hz h0 hlt => by
          have := Int32.lt_iff_toInt_lt.mp hlt
          rw [hz] at this
          have h2 : (0 : Int32).toInt = 0 := rfl
          omega
        unfold ln at l0 l1
        have hfit : pt_fit f sp.toNat nn.toNat = true := by
          unfold pt_fit
          refine List.all_eq_true.mpr fun j hj => ?_
          have hj2 := List.mem_range.mp hj
          have h7 := f2 (sp.toNat + j) (by omega)
          obtain ⟨FX, hFX, hFx⟩ := vi h7.1
          have hFX2 : f (sp.toNat + j) = FX := by cases hFX; rfl
          rw [hFX2]
          show (decide (-128 ≤ FX) && decide (FX ≤ 127)) = true
          rw [Bool.and_eq_true]
          refine ⟨decide_eq_true (Int32.le_iff_toInt_le.mpr ?_), decide_eq_true (Int32.le_iff_toInt_le.mpr ?_)⟩
          · rw [hFx]; have : (-128 : Int32).toInt = -128 := rfl; omega
          · rw [hFx]; have : (127 : Int32).toInt = 127 := rfl; omega
        refine ⟨pv_S h d.toNat (.inl (2, (tln d.toNat, .inl (va_cpy f g sp.toNat dp.toNat nn.toNat)))), lv', s4, fun n => p_xt hco hi (by omega) ?_ n, hr_upd hh (by omega) g1 rfl (fun b j hb => ?_) ?_, hlr, hs4⟩
        · rw [hkd]
          show pt_cp pv_G pv_S fr lo h (.int NN :: .int DP :: .ref d.toNat :: .int SP :: .ref a.toNat :: s4) = _
          unfold pt_cp
          dsimp only
          rw [f1, g1]
          have := nfw
          show (if (¬ SP < 0 ∧ ¬ DP < 0 ∧ ¬ NN < 0) ∧ (SP.toNatClampNeg + NN.toNatClampNeg ≤ tln a.toNat ∧ DP.toNatClampNeg + NN.toNatClampNeg ≤ tln d.toNat) ∧ 1 ≤ fr ∧ (s4.map Value.category).sum + (nativeFrameWords "java/lang/System" "arraycopy" 5 + 11) ≤ lo ∧ pt_fit f SP.toNatClampNeg NN.toNatClampNeg = true then some (pv_S h d.toNat (.inl (2, (tln d.toNat, .inl (va_cpy f g SP.toNatClampNeg DP.toNatClampNeg NN.toNatClampNeg)))), s4) else none) = _
          rw [tn hN, tn hDP, tn hSP, if_pos ⟨⟨nn0 hSP p0, nn0 hDP p1, nn0 hN n0⟩, ⟨by omega, by omega⟩, by omega, by rw [sr_cat hs4]; omega, hfit⟩]
        · rw [ed] at hb
          exact if_neg (fun e => hb e.1)
        · rw [cer_2 hkd2]
          refine ⟨_, rfl, fun j hj => ?_⟩
          rw [ed]
          unfold va_cpy tcy
          by_cases hc : dp.toNat ≤ j ∧ j < dp.toNat + nn.toNat
          · rw [if_pos hc, if_pos ⟨rfl, by omega, by omega⟩]
            have h7 := f2 (sp.toNat + (j - dp.toNat)) (by omega)
            rw [show (((sp.toNat + (j - dp.toNat) : Nat)) : Int) = sp + ((j : Nat) - dp) from by omega] at h7
            exact h7
          · rw [if_neg hc, if_neg (fun e => hc ⟨by omega, by omega⟩)]
            exact g2 j hj
    · exact H.elim
  · exact H.elim
theorem k_thr {q : Nat} (hco : pt_cox y pc = some (.new q)) (H : t_thr y (pt_ax y (.new q)).1 D st E) : WP sc y pc D lv st K E := by
  generalize hx : (pt_ax y (.new q)).1 = x at H
  unfold t_thr at H
  split at H
  · rename_i hhs
    cases hb : (Nat.ble 90 x && Nat.ble x 93 && Nat.ble 6 (tnf y) && Nat.ble (tcat1 st + 82) (tnl y)) with
    | false => rw [hb] at H; exact H.elim
    | true =>
      rw [hb] at H
      obtain ⟨hb1, hb4⟩ := (Bool.and_eq_true _ _).mp hb
      obtain ⟨hb1, hb3⟩ := (Bool.and_eq_true _ _).mp hb1
      obtain ⟨hb1, hb2⟩ := (Bool.and_eq_true _ _).mp hb1
      have q1 := Nat.le_of_ble_eq_true hb1
      have q2 := Nat.le_of_ble_eq_true hb2
      have q3 := Nat.le_of_ble_eq_true hb3
      have q4 := Nat.le_of_ble_eq_true hb4
      obtain ⟨H1, H2⟩ := H
      intro hsc fr lo h lv' st' hf hl hh hlr hs
      obtain ⟨⟨z0, z1, z2⟩, z3⟩ := hh
      have h6 : (pt_nw x).length = 6 := by
        have hxx : x = 90 ∨ x = 91 ∨ x = 92 ∨ x = 93 := by omega
        rcases hxx with rfl | rfl | rfl | rfl <;> rfl
      have hsum : (st'.map Value.category).sum + 82 ≤ lo := by rw [sr_cat hs]; omega
      have hN : pv_N h = 2018 + (D (-1) 0).toNat := z1
      refine ⟨1, pv_P h (.inr (x, pt_nw x)), .inr (pv_N h), wr D (-1) 0 (D (-1) 0 + 1), ?_, ⟨⟨?_, ?_, ?_⟩, fun a ha => ?_⟩, x, ?_, H2⟩
      · have e := p_th (sc := sc) (fr := fr) (lo := lo) (h := h) (lv' := lv') (st' := st') hco rfl rfl rfl rfl rfl (by rw [hx]; exact Nat.ble_eq_true_of_le q1) hhs ⟨by rw [hN]; omega, by rw [hx, h6]; omega, by omega, hsum⟩ 0
        rw [hx] at e
        exact e
      · rw [wr_self]; omega
      · rw [wr_self]
        show (h ++ [_]).length = _
        rw [List.length_append, z1, List.length_singleton]
        omega
      · rw [wr_self, pv_M_push, z2]
        show _ + (pt_nw x).length = _
        rw [h6]
        omega
      · have e1 : pv_G (pv_P h (.inr (x, pt_nw x))) a = pv_G h a := List.getElem?_append_left (by omega)
        rw [e1]
        have e2 : (wr D (-1) 0 (D (-1) 0 + 1)) (a : Int) = D (a : Int) := funext fun j => wr_ne (by omega)
        have h4 := z3 a ha
        unfold cer at h4 ⊢
        rw [e2]
        exact h4
      · unfold pv_exc
        have e1 : pv_G (pv_P h (.inr (x, pt_nw x))) (pv_N h) = some (.inr (x, pt_nw x)) := by
          show (h ++ [_])[h.length]? = _
          rw [List.getElem?_append_right (Nat.le_refl _)]
          simp
        rw [e1]
        exact if_pos q1
  · exact H.elim
theorem bk_spec {c : Nat} {x : Int} {v : Option Value} {k : List tV → Prop} (hr1 : rrl c v x) (H : t_bk c x k) : ∃ b, sr b v.toList ∧ k b := by
  unfold t_bk at H
  split at H
  · obtain ⟨rfl, -⟩ := hr1
    exact ⟨[], True.intro, H⟩
  · obtain ⟨w, rfl, hw⟩ := hr1
    rcases hw with ⟨-, -, hw⟩ | hw
    · omega
    · exact ⟨[(0, x)], ⟨hw, True.intro⟩, H⟩
  · obtain ⟨w, rfl, hw, -⟩ := hr1
    exact ⟨[(0, x)], ⟨hw, True.intro⟩, H⟩
  · obtain ⟨w, rfl, hw⟩ := hr1
    rcases hw with ⟨-, -, hw⟩ | hw
    · omega
    · exact ⟨[(1, x)], ⟨hw, True.intro⟩, H⟩
  · obtain ⟨w, rfl, hw⟩ := hr1
    rcases hw with ⟨-, -, hw⟩ | hw
    · omega
    · exact ⟨[(4, x)], ⟨hw, True.intro⟩, H⟩
  · rename_i c2
    obtain ⟨w, rfl, hw⟩ := hr1
    rcases hw with ⟨h1, h2, hw⟩ | hw
    · rw [if_pos h1] at H
      exact ⟨[(2, 0)], ⟨h2, True.intro⟩, H⟩
    · have hpos := (vnp (by omega) hw).1
      rw [if_neg (by omega)] at H
      exact ⟨[(c2 + 10, x)], ⟨hw, True.intro⟩, H⟩
  · exact H.elim
theorem hnd_spec {pc e : Nat} {k : Nat → Prop} {z : Prop} : ∀ {hs : List (Nat × Nat × Nat × Nat)}, t_hnd hs pc e k z → (∃ pc', pv_catch hs pc e = some pc' ∧ k pc') ∨ (pv_catch hs pc e = none ∧ z) := by
  intro hs
  induction hs with
  | nil => intro H; exact Or.inr ⟨rfl, H⟩
  | cons q t ih =>
    intro H
    unfold t_hnd at H
    cases hb : (Nat.ble q.1 pc && Nat.blt pc q.2.1) with
    | true =>
      rw [hb] at H
      obtain ⟨hb1, hb2⟩ := (Bool.and_eq_true _ _).mp hb
      have H2 : (if e = q.2.2.2 then k q.2.2.1 else t_hnd t pc e k z) := H
      show (∃ pc', (if q.1 ≤ pc ∧ pc < q.2.1 ∧ q.2.2.2 = e then some q.2.2.1 else pv_catch t pc e) = some pc' ∧ k pc') ∨ ((if q.1 ≤ pc ∧ pc < q.2.1 ∧ q.2.2.2 = e then some q.2.2.1 else pv_catch t pc e) = none ∧ z)
      by_cases he : e = q.2.2.2
      · rw [if_pos he] at H2
        rw [if_pos ⟨Nat.le_of_ble_eq_true hb1, nblt.mp hb2, he.symm⟩]
        exact Or.inl ⟨_, rfl, H2⟩
      · rw [if_neg he] at H2
        rw [if_neg (fun h => he h.2.2.symm)]
        exact ih H2
    | false =>
      rw [hb] at H
      have H2 : t_hnd t pc e k z := H
      show (∃ pc', (if q.1 ≤ pc ∧ pc < q.2.1 ∧ q.2.2.2 = e then some q.2.2.1 else pv_catch t pc e) = some pc' ∧ k pc') ∨ ((if q.1 ≤ pc ∧ pc < q.2.1 ∧ q.2.2.2 = e then some q.2.2.1 else pv_catch t pc e) = none ∧ z)
      have hne : ¬ (q.1 ≤ pc ∧ pc < q.2.1 ∧ q.2.2.2 = e) := fun h => by
        rw [Nat.ble_eq_true_of_le h.1, nblt.mpr h.2.1] at hb
        cases hb
      rw [if_neg hne]
      exact ih H2
end TSS
