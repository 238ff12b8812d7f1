/-! links, constants and throws put together -/
theorem pt_st12 : (List.range 317).all (fun z => pt_st z || Nat.blt (pt_k z) 12) = true := by decide +kernel
section PTY
variable {p : Program} {l : Launch} {e : Env} {R : Room} {s0 s : State} {a0 : Array Value} {m : MethodId} {args : Array Value} {below : List Frame} {meth : Method} {c : Code} {sc : Nat × (Nat → Int32)} {D : va_G} {aC xC : Nat → ClassId} {X : Nat → Nat}
theorem pt_chk_at {y pc : Nat} {i : Instr} (hy : y < 318) (hco : pt_co y pc = some i) (hcz : pc < pt_cz y) : (∃ len, decode (pt_by y) pc = .ok (i, len) ∧ (pv_len i = 0 ∨ pv_len i = len)) := by
  have hchk := pt_chk_all hy hcz
  unfold pt_chk at hchk
  rw [hco] at hchk
  exact pt_dok_spec (pt_and hchk).1
theorem pt_link_ok (hG : pt_G p l s0 a0 sc D aC xC X) (hs : s0.WarmedH s.vm) {y : Nat} (hy : y < 318) (hown : s.vm.findClass (pt_nm (pt_k y)) = some m.cls) (hb : c.code = pt_by y) {pc : Nat} {i : Instr} (hco : pt_co y pc = some i) (hcz : pc < pt_cz y) (hi : pv_isiv i = true) (h3 : (pt_ax y i).1 < 3) :
    pv_link p l e R s m args below meth c pt_yn pt_nL pt_zN s0 (D.1 (pt_rc (pt_ax y i).2.1)) pc (pt_ax y i).1 (pt_ax y i).2.1 (pt_ax y i).2.2 := by
  obtain ⟨hts, hD, hA, hxC, hnc, hstr, hz1, hz2, hfl, hx, hsc, hXb⟩ := hG
  have hH := pt_holds_of hts
  have hchk := pt_chk_all hy hcz
  unfold pt_chk at hchk
  rw [hco] at hchk
  dsimp only at hchk
  obtain ⟨hd, hr⟩ := pt_and hchk
  obtain ⟨len, hdec, hlen⟩ := pt_dok_spec hd
  rw [← hb] at hdec
  have key : ∀ n, pt_has pt_keyM (pt_k y) n = true → (pt_il (pt_k y) n).2.1 < pt_zN ∧ pt_wd (pt_mp (pt_k y) n) = some (.methodLink (pt_nm (pt_k y)) n (pt_yn (pt_il (pt_k y) n).2.1)) ∧
      ((pt_il (pt_k y) n).1 = 0 → pt_st (pt_il (pt_k y) n).2.1 = true ∧ pt_nar (pt_yn (pt_il (pt_k y) n).2.1).desc = some (pt_il (pt_k y) n).2.2) ∧
      ((pt_il (pt_k y) n).1 = 1 → pt_st (pt_il (pt_k y) n).2.1 = false ∧ (pt_yn (pt_il (pt_k y) n).2.1).name = "<init>" ∧ pt_hr (pt_il (pt_k y) n).2.1 = [] ∧ pt_rt (pt_il (pt_k y) n).2.1 = none ∧ (pt_nar (pt_yn (pt_il (pt_k y) n).2.1).desc).map (· + 1) = some (pt_il (pt_k y) n).2.2) ∧
      ((pt_il (pt_k y) n).1 = 2 → pt_st (pt_il (pt_k y) n).2.1 = false ∧ pt_wd (pt_vp (pt_il (pt_k y) n).2.1) = some (.selects (pt_nm (pt_k (pt_il (pt_k y) n).2.1)) (pt_yn (pt_il (pt_k y) n).2.1) (pt_yn (pt_il (pt_k y) n).2.1)) ∧ (pt_nar (pt_yn (pt_il (pt_k y) n).2.1).desc).map (· + 1) = some (pt_il (pt_k y) n).2.2) := by
    intro n hn
    have h := List.all_eq_true.mp pt_okM_all (pt_k y, n) (pt_has_mem hn)
    unfold pt_okM at h
    dsimp only at h
    obtain ⟨h, h2⟩ := pt_and h
    obtain ⟨h0, h1⟩ := pt_and h
    refine ⟨Nat.le_of_ble_eq_true h0, of_decide_eq_true h1, fun q => ?_, fun q => ?_, fun q => ?_⟩
    · rw [q] at h2
      obtain ⟨z1, z2⟩ := pt_and h2
      exact ⟨z1, of_decide_eq_true z2⟩
    · rw [q] at h2
      obtain ⟨h2, z5⟩ := pt_and h2
      obtain ⟨h2, z4⟩ := pt_and h2
      obtain ⟨h2, z3⟩ := pt_and h2
      obtain ⟨z1, z2⟩ := pt_and h2
      exact ⟨by simpa using z1, of_decide_eq_true z2, of_decide_eq_true z3, of_decide_eq_true z4, of_decide_eq_true z5⟩
    · rw [q] at h2
      obtain ⟨h2, z3⟩ := pt_and h2
      obtain ⟨z1, z2⟩ := pt_and h2
      exact ⟨by simpa using z1, of_decide_eq_true z2, of_decide_eq_true z3⟩
  unfold pv_isiv at hi
  split at hi
  · rename_i n
    obtain rfl : 3 = len := hlen.resolve_left (by simp [pv_len])
    have h3' : Nat.blt (pt_il (pt_k y) n).1 3 = true := Nat.ble_eq_true_of_le h3
    dsimp only at hr
    rw [h3'] at hr
    obtain ⟨r1, r2⟩ := pt_and hr
    obtain ⟨k1, k2, -, -, k5⟩ := key n r1
    have hkd : (pt_il (pt_k y) n).1 = 2 := Nat.eq_of_beq_eq_true r2
    obtain ⟨w1, w2, w3⟩ := k5 hkd
    have h12 : pt_k (pt_il (pt_k y) n).2.1 < 12 := by
      have h := List.all_eq_true.mp pt_st12 (pt_il (pt_k y) n).2.1 (List.mem_range.mpr k1)
      rcases (Bool.or_eq_true _ _).mp h with h4 | h4
      · rw [w1] at h4; cases h4
      · exact Nat.le_of_ble_eq_true h4
    show pv_link p l e R s m args below meth c pt_yn pt_nL pt_zN s0 (D.1 (pt_k (pt_il (pt_k y) n).2.1)) pc (pt_il (pt_k y) n).1 (pt_il (pt_k y) n).2.1 (pt_il (pt_k y) n).2.2
    rw [hkd]
    exact pt_link2 hH hx hs hown k1 k2 w1 w2 w3 hdec (hD.at hs h12).2.1
  · rename_i n
    obtain rfl : 3 = len := hlen.resolve_left (by simp [pv_len])
    have h3' : Nat.blt (pt_il (pt_k y) n).1 3 = true := Nat.ble_eq_true_of_le h3
    dsimp only at hr
    rw [h3'] at hr
    obtain ⟨r1, r2⟩ := pt_and hr
    obtain ⟨k1, k2, -, k4, -⟩ := key n r1
    have hkd : (pt_il (pt_k y) n).1 = 1 := Nat.eq_of_beq_eq_true r2
    obtain ⟨w1, w2, w3, w4, w5⟩ := k4 hkd
    show pv_link p l e R s m args below meth c pt_yn pt_nL pt_zN s0 (D.1 (pt_k (pt_il (pt_k y) n).2.1)) pc (pt_il (pt_k y) n).1 (pt_il (pt_k y) n).2.1 (pt_il (pt_k y) n).2.2
    rw [hkd]
    exact pt_link1 hH hx hs hown k1 k2 w1 w2 w3 w4 w5 hdec _
  · rename_i n
    obtain rfl : 3 = len := hlen.resolve_left (by simp [pv_len])
    have h3' : Nat.blt (pt_il (pt_k y) n).1 3 = true := Nat.ble_eq_true_of_le h3
    dsimp only at hr
    rw [h3'] at hr
    obtain ⟨r1, r2⟩ := pt_and hr
    obtain ⟨k1, k2, k3, -, -⟩ := key n r1
    have hkd : (pt_il (pt_k y) n).1 = 0 := Nat.eq_of_beq_eq_true r2
    obtain ⟨w1, w2⟩ := k3 hkd
    show pv_link p l e R s m args below meth c pt_yn pt_nL pt_zN s0 (D.1 (pt_k (pt_il (pt_k y) n).2.1)) pc (pt_il (pt_k y) n).1 (pt_il (pt_k y) n).2.1 (pt_il (pt_k y) n).2.2
    rw [hkd]
    exact pt_link0 hH hx hs hown k1 k2 w1 w2 hdec _
  · cases hi
/-- constants -/
theorem pt_ld_ok (hG : pt_G p l s0 a0 sc D aC xC X) (hs : s0.WarmedH s.vm) {y : Nat} (hy : y < 318) (hown : s.vm.findClass (pt_nm (pt_k y)) = some m.cls) (hb : c.code = pt_by y) {pc : Nat} {i : Instr} (hco : pt_co y pc = some i) (hcz : pc < pt_cz y) (hi : pv_isld i = true) {v : Value} (hv : pt_cst y i = some v) :
    pv_rK p l e R s m args below meth c s0.heap.size X pc (pv_len i) v := by
  obtain ⟨hts, hD, hA, hxC, hnc, hstr, hz1, hz2, hfl, hx, hsc, hXb⟩ := hG
  have hH := pt_holds_of hts
  have hchk := pt_chk_all hy hcz
  unfold pt_chk at hchk
  rw [hco] at hchk
  dsimp only at hchk
  obtain ⟨hd, hr⟩ := pt_and hchk
  obtain ⟨len, hdec, hlen⟩ := pt_dok_spec hd
  rw [← hb] at hdec
  intro H locs cells slots Q ls rest k
  unfold pv_isld at hi
  split at hi
  · rename_i n
    obtain rfl : 2 = len := hlen.resolve_left (by simp [pv_len])
    obtain ⟨tx, k', hk1, hk2⟩ := hstr _ _ (pt_has_mem hr)
    have hv' : pt_kl (pt_k y) n = some v := hv
    cases hk1.symm.trans hv'
    exact px_ldc hx (Or.inl ⟨rfl, rfl⟩) hown (vk_R.warm hs hk2) hdec k
  · rename_i n
    obtain rfl : 3 = len := hlen.resolve_left (by simp [pv_len])
    obtain ⟨tx, k', hk1, hk2⟩ := hstr _ _ (pt_has_mem hr)
    have hv' : pt_kl (pt_k y) n = some v := hv
    cases hk1.symm.trans hv'
    exact px_ldc hx (Or.inr ⟨rfl, rfl⟩) hown (vk_R.warm hs hk2) hdec k
  · rename_i n
    obtain rfl : 3 = len := hlen.resolve_left (by simp [pv_len])
    have hq := List.all_eq_true.mp pt_okK_all _ (pt_has_mem hr)
    have hv' : pt_kl (pt_k y) n = some v := hv
    unfold pt_okK at hq
    dsimp only at hq
    rw [hv'] at hq
    split at hq
    · rename_i w hw
      cases hw
      exact lv_ldc2 hx rfl hown (hH _ _ (of_decide_eq_true hq) rfl args s hs) hdec k
    · cases hq
  · cases hi
/-- an exception comes, and is thrown -/
theorem pt_th_ok (hG : pt_G p l s0 a0 sc D aC xC X) (hs : s0.WarmedH s.vm) {y : Nat} (hy : y < 318) (hown : s.vm.findClass (pt_nm (pt_k y)) = some m.cls) (hb : c.code = pt_by y) (hlk : meth.locks = false) (hno : c.exceptionTable.toList = []) {pc : Nat} {i : Instr} (hco : pt_co y pc = some i) (hcz : pc < pt_cz y) (hi : pv_isth i (pt_ax y i).1 = true) :
    pv_rT p l e R s m args below meth c (aC, xC, D) s0.heap.size X s0.heap pt_nw pc (pt_ax y i).1 := by
  obtain ⟨hts, hD, hA, hxC, hnc, hstr, hz1, hz2, hfl, hx, hsc, hXb⟩ := id hG
  have hchk := pt_chk_all hy hcz
  unfold pt_chk at hchk
  rw [hco] at hchk
  dsimp only at hchk
  obtain ⟨hd, hr⟩ := pt_and hchk
  obtain ⟨len, hdec, hlen⟩ := pt_dok_spec hd
  rw [← hb] at hdec
  unfold pv_isth at hi
  split at hi
  · rename_i n
    obtain rfl : 3 = len := hlen.resolve_left (by simp [pv_len])
    have h90 : 90 ≤ (pt_nl (pt_k y) n).1 := Nat.le_of_ble_eq_true hi
    have h90' : Nat.blt (pt_nl (pt_k y) n).1 90 = false := by
      cases hbb : Nat.blt (pt_nl (pt_k y) n).1 90 with
      | false => rfl
      | true => have := Nat.le_of_ble_eq_true hbb; omega
    dsimp only at hr
    rw [h90'] at hr
    dsimp only [cond] at hr
    show pv_rT p l e R s m args below meth c (aC, xC, D) s0.heap.size X s0.heap pt_nw pc (pt_nl (pt_k y) n).1
    generalize (pt_nl (pt_k y) n).1 = a1 at hr h90 ⊢
    unfold pt_okT at hr
    obtain ⟨hr, t5⟩ := pt_and hr
    obtain ⟨hr, t4⟩ := pt_and hr
    obtain ⟨hr, t3⟩ := pt_and hr
    obtain ⟨t1, t2⟩ := pt_and hr
    have hk0 : pt_k y = 0 := Nat.eq_of_beq_eq_true t1
    have h94 : a1 < 94 := Nat.le_of_ble_eq_true t2
    rw [hk0] at hown
    split at t5
    · rename_i k ln hsl
      obtain ⟨t5, u4⟩ := pt_and t5
      obtain ⟨t5, u3⟩ := pt_and t5
      obtain ⟨u1, u2⟩ := pt_and t5
      have hlast : pc + 4 + ln + 3 < pt_cz y := Nat.le_of_ble_eq_true u4
      obtain ⟨tx, k', -, hk2⟩ := hstr _ _ (pt_has_mem u1)
      have dc : ∀ {pc1 : Nat} {j : Instr}, pt_co y pc1 = some j → pc1 < pt_cz y → ∃ len, decode c.code pc1 = .ok (j, len) ∧ (pv_len j = 0 ∨ pv_len j = len) := by
        intro pc1 j h1 h2
        rw [hb]
        exact pt_chk_at hy h1 h2
      obtain ⟨l3, d3, e3⟩ := dc (of_decide_eq_true t4) (by omega)
      obtain rfl : 1 = l3 := e3.resolve_left (by simp [pv_len])
      obtain ⟨l5, d5, e5⟩ := dc (of_decide_eq_true u2) (by omega)
      obtain rfl : 3 = l5 := e5.resolve_left (by simp [pv_len])
      obtain ⟨l8, d8, e8⟩ := dc (of_decide_eq_true u3) (by omega)
      obtain rfl : 1 = l8 := e8.resolve_left (by simp [pv_len])
      have h4 : ∃ (j : Instr), px_isS j k ln ∧ decode c.code (pc + 4) = .ok (j, ln) := by
        unfold pt_sld at hsl
        split at hsl
        · rename_i hc4
          cases hsl
          obtain ⟨l4, d4, e4⟩ := dc hc4 (by omega)
          obtain rfl : 2 = l4 := e4.resolve_left (by simp [pv_len])
          exact ⟨_, Or.inl ⟨rfl, rfl⟩, d4⟩
        · rename_i hc4
          cases hsl
          obtain ⟨l4, d4, e4⟩ := dc hc4 (by omega)
          obtain rfl : 3 = l4 := e4.resolve_left (by simp [pv_len])
          exact ⟨_, Or.inr ⟨rfl, rfl⟩, d4⟩
        · cases hsl
      obtain ⟨j4, hj4, d4⟩ := h4
      have hcl := pt_wd_in (of_decide_eq_true t3)
      have hfc := (hxC a1 h90 (by omega)).1
      rcases (show a1 = 90 ∨ a1 = 91 ∨ a1 = 92 ∨ a1 = 93 by omega) with rfl | rfl | rfl | rfl
      · exact px_rT (Z := (aC, xC, D)) (by6 := Bundle.six) hts hz1 hz2 hfl hx hs hown hlk hno (by decide) Bundle.six_0 Bundle.six_1 Bundle.six_2 Bundle.six_5 px_ok1 hcl hfc (by decide) rfl hk2 hdec d3 hj4 d4 d5 d8
      · exact px_rT (Z := (aC, xC, D)) (by6 := Bundle.six) hts hz1 hz2 hfl hx hs hown hlk hno (by decide) Bundle.six_0 Bundle.six_1 Bundle.six_2 Bundle.six_5 px_ok2 hcl hfc (by decide) rfl hk2 hdec d3 hj4 d4 d5 d8
      · exact px_rT (Z := (aC, xC, D)) (by6 := Bundle.six) hts hz1 hz2 hfl hx hs hown hlk hno (by decide) Bundle.six_0 Bundle.six_1 Bundle.six_2 Bundle.six_5 px_ok3 hcl hfc (by decide) rfl hk2 hdec d3 hj4 d4 d5 d8
      · exact px_rT (Z := (aC, xC, D)) (by6 := px_thirteen) hts hz1 hz2 hfl hx hs hown hlk hno (by decide) (by decide +kernel) (by decide +kernel) (by decide +kernel) (by decide +kernel) px_ok4 hcl hfc (by decide) rfl hk2 hdec d3 hj4 d4 d5 d8
    · cases t5
  · cases hi
end PTY
