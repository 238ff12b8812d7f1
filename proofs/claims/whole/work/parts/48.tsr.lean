/-! the typed machine is sound: array stores, returns, the JDK's own, calls -/
section TSR
variable {sc : Nat × (Nat → Int32)} {y pc : Nat} {D : tD} {lv : List (Nat × tV)} {st : List tV} {K : tD → Int → Prop} {E : tD → Nat → Prop} {i : Instr}
theorem upd_at {f : Nat → Int32} {q : Nat} {x : Int32} (j : Nat) : upd f q x j = if j = q then x else f j := rfl
theorem k_ist (hco : pt_cox y pc = some .iastore) {k : tD → List tV → Prop} (hk : ∀ d s, k d s → WP sc y (pc + 1) d lv s K E) (H : t_ist D st k) : WP sc y pc D lv st K E := by
  unfold t_ist at H
  split at H
  · rename_i v x t a r
    cases hb : Nat.beq t 1000 with
    | false => rw [hb] at H; exact H.elim
    | true =>
      rw [hb] at H
      have et := nbeq.mp hb
      subst et
      obtain ⟨⟨hx0, hx1⟩, H2⟩ := H
      refine wp_go (fun _ fr lo h lv' st' _ _ hh hl hs => ?_) (hk _ _ H2)
      obtain ⟨u0, s0, rfl, e0, hs0⟩ := sr_cons hs
      obtain ⟨u1, s1, rfl, e1, hs1⟩ := sr_cons hs0
      obtain ⟨u2, s2, rfl, e2, hs2⟩ := sr_cons hs1
      obtain ⟨V, rfl, hV⟩ := vi e0
      obtain ⟨X, rfl, hX⟩ := vi e1
      obtain ⟨a1, a2, rfl, a4⟩ := vnp (by omega) e2
      have h5 := hh.2 a.toNat (by omega)
      have hkd : tkd a.toNat = 0 := by omega
      rw [cer_0 hkd] at h5
      obtain ⟨f, g1, g2⟩ := h5
      have ea : ((a.toNat : Nat) : Int) = a := Int.toNat_of_nonneg a1
      rw [ea] at g2
      refine ⟨pv_S h a.toNat (.inl (0, tln a.toNat, .inl (upd f x.toNat V))), lv', s2, fun n => p_h (i := .iastore) hco rfl rfl rfl ?_ n, hr_upd hh (by omega) g1 rfl (fun b j hb => wr_ne (by rw [ea] at hb; exact hb)) ?_, hl, hs2⟩
      · show pv_asti pv_G pv_S h (.int V :: .int X :: .ref a.toNat :: s2) = _
        unfold pv_asti
        dsimp only
        rw [g1]
        dsimp only
        rw [if_pos rfl, idx_ok hX hx0 hx1]
      · rw [cer_0 hkd]
        refine ⟨_, rfl, fun j hj => ?_⟩
        rw [ea, upd_at]
        by_cases hjx : j = x.toNat
        · rw [if_pos hjx, show ((j : Nat) : Int) = x from by omega, wr_self]; exact e0
        · rw [if_neg hjx, wr_ni (by omega)]; exact g2 j hj
  · exact H.elim
theorem k_lst (hco : pt_cox y pc = some .lastore) {k : tD → List tV → Prop} (hk : ∀ d s, k d s → WP sc y (pc + 1) d lv s K E) (H : t_lst D st k) : WP sc y pc D lv st K E := by
  unfold t_lst at H
  split at H
  · rename_i v x t a r
    cases hb : Nat.beq t 1001 with
    | false => rw [hb] at H; exact H.elim
    | true =>
      rw [hb] at H
      have et := nbeq.mp hb
      subst et
      obtain ⟨⟨hx0, hx1⟩, H2⟩ := H
      refine wp_go (fun _ fr lo h lv' st' _ _ hh hl hs => ?_) (hk _ _ H2)
      obtain ⟨u0, s0, rfl, e0, hs0⟩ := sr_cons hs
      obtain ⟨u1, s1, rfl, e1, hs1⟩ := sr_cons hs0
      obtain ⟨u2, s2, rfl, e2, hs2⟩ := sr_cons hs1
      obtain ⟨V, rfl, hV⟩ := vl e0
      obtain ⟨X, rfl, hX⟩ := vi e1
      obtain ⟨a1, a2, rfl, a4⟩ := vnp (by omega) e2
      have h5 := hh.2 a.toNat (by omega)
      have hkd : tkd a.toNat = 1 := by omega
      rw [cer_1 hkd] at h5
      obtain ⟨f, g1, g2⟩ := h5
      have ea : ((a.toNat : Nat) : Int) = a := Int.toNat_of_nonneg a1
      rw [ea] at g2
      refine ⟨pv_S h a.toNat (.inl (1, tln a.toNat, .inr (.inl (vp_updL f x.toNat V)))), lv', s2, fun n => p_h (i := .lastore) hco rfl rfl rfl ?_ n, hr_upd hh (by omega) g1 rfl (fun b j hb => wr_ne (by rw [ea] at hb; exact hb)) ?_, hl, hs2⟩
      · show pv_astl pv_G pv_S h (.long V :: .int X :: .ref a.toNat :: s2) = _
        unfold pv_astl
        dsimp only
        rw [g1]
        dsimp only
        rw [if_pos rfl, idx_ok hX hx0 hx1]
      · rw [cer_1 hkd]
        refine ⟨_, rfl, fun j hj => ?_⟩
        rw [ea]
        show vr _ (.long (if j = x.toNat then V else f j))
        by_cases hjx : j = x.toNat
        · rw [if_pos hjx, show ((j : Nat) : Int) = x from by omega, wr_self]; exact e0
        · rw [if_neg hjx, wr_ni (by omega)]; exact g2 j hj
  · exact H.elim
theorem w8r (x : Int) : -128 ≤ w8 x ∧ w8 x ≤ 127 := by unfold w8; omega
theorem k_bst (hco : pt_cox y pc = some .bastore) {k : tD → List tV → Prop} (hk : ∀ d s, k d s → WP sc y (pc + 1) d lv s K E) (H : t_bst D st k) : WP sc y pc D lv st K E := by
  unfold t_bst at H
  split at H
  · rename_i v x t a r
    cases hb : Nat.beq t 1002 with
    | true =>
      rw [hb] at H
      have et := nbeq.mp hb
      subst et
      obtain ⟨⟨hx0, hx1⟩, H2⟩ := H
      refine wp_go (fun _ fr lo h lv' st' _ _ hh hl hs => ?_) (hk _ _ H2)
      obtain ⟨u0, s0, rfl, e0, hs0⟩ := sr_cons hs
      obtain ⟨u1, s1, rfl, e1, hs1⟩ := sr_cons hs0
      obtain ⟨u2, s2, rfl, e2, hs2⟩ := sr_cons hs1
      obtain ⟨V, rfl, hV⟩ := vi e0
      obtain ⟨X, rfl, hX⟩ := vi e1
      obtain ⟨a1, a2, rfl, a4⟩ := vnp (by omega) e2
      have h5 := hh.2 a.toNat (by omega)
      have hkd : tkd a.toNat = 2 := by omega
      rw [cer_2 hkd] at h5
      obtain ⟨f, g1, g2⟩ := h5
      have ea : ((a.toNat : Nat) : Int) = a := Int.toNat_of_nonneg a1
      rw [ea] at g2
      refine ⟨pv_S h a.toNat (.inl (2, tln a.toNat, .inl (upd f x.toNat V.toInt8.toInt32))), lv', s2, fun n => p_h (i := .bastore) hco rfl rfl rfl ?_ n, hr_upd hh (by omega) g1 rfl (fun b j hb => wr_ne (by rw [ea] at hb; exact hb)) ?_, hl, hs2⟩
      · show pv_astb pv_G pv_S h (.int V :: .int X :: .ref a.toNat :: s2) = _
        unfold pv_astb
        dsimp only
        rw [g1]
        dsimp only
        rw [if_pos rfl, idx_ok hX hx0 hx1]
      · rw [cer_2 hkd]
        refine ⟨_, rfl, fun j hj => ?_⟩
        rw [ea, upd_at]
        by_cases hjx : j = x.toNat
        · rw [if_pos hjx, show ((j : Nat) : Int) = x from by omega, wr_self]
          exact ⟨vi' (by rw [Int8.toInt_toInt32, Int32.toInt_toInt8, bm8, hV]), w8r v⟩
        · rw [if_neg hjx, wr_ni (by omega)]; exact g2 j hj
    | false =>
      rw [hb] at H
      cases hb3 : Nat.beq t 1003 with
      | false => rw [hb3] at H; exact H.elim
      | true =>
        rw [hb3] at H
        have et := nbeq.mp hb3
        subst et
        obtain ⟨⟨hx0, hx1⟩, H2⟩ := H
        obtain ⟨hv01, H2⟩ := tbl_spec H2
        refine wp_go (fun _ fr lo h lv' st' _ _ hh hl hs => ?_) (hk _ _ H2)
        obtain ⟨u0, s0, rfl, e0, hs0⟩ := sr_cons hs
        obtain ⟨u1, s1, rfl, e1, hs1⟩ := sr_cons hs0
        obtain ⟨u2, s2, rfl, e2, hs2⟩ := sr_cons hs1
        obtain ⟨V, rfl, hV⟩ := vi e0
        obtain ⟨X, rfl, hX⟩ := vi e1
        obtain ⟨a1, a2, rfl, a4⟩ := vnp (by omega) e2
        have h5 := hh.2 a.toNat (by omega)
        have hkd : tkd a.toNat = 3 := by omega
        rw [cer_3 hkd] at h5
        obtain ⟨f, g1, g2⟩ := h5
        have ea : ((a.toNat : Nat) : Int) = a := Int.toNat_of_nonneg a1
        rw [ea] at g2
        have hV2 : V &&& 1 = V := by
          have hV3 : V = 0 ∨ V = 1 := by
            rcases hv01 with hx | hx
            · exact Or.inl (Int32.toInt_inj.mp (by rw [hV, hx]; rfl))
            · exact Or.inr (Int32.toInt_inj.mp (by rw [hV, hx]; rfl))
          rcases hV3 with rfl | rfl <;> rfl
        refine ⟨pv_S h a.toNat (.inl (3, tln a.toNat, .inl (upd f x.toNat V))), lv', s2, fun n => p_h (i := .bastore) hco rfl rfl rfl ?_ n, hr_upd hh (by omega) g1 rfl (fun b j hb => wr_ne (by rw [ea] at hb; exact hb)) ?_, hl, hs2⟩
        · show pv_astb pv_G pv_S h (.int V :: .int X :: .ref a.toNat :: s2) = _
          unfold pv_astb
          dsimp only
          rw [g1]
          dsimp only
          rw [if_neg (by decide), if_pos rfl, idx_ok hX hx0 hx1, hV2]
        · rw [cer_3 hkd]
          refine ⟨_, rfl, fun j hj => ?_⟩
          rw [ea, upd_at]
          by_cases hjx : j = x.toNat
          · rw [if_pos hjx, show ((j : Nat) : Int) = x from by omega, wr_self]; exact ⟨e0, by omega, by omega⟩
          · rw [if_neg hjx, wr_ni (by omega)]; exact g2 j hj
  · exact H.elim
/-! returns -/
theorem k_ret (hco : pt_cox y pc = some i) (hi : i = .ireturn ∨ i = .lreturn ∨ i = .areturn ∨ i = .return_) (H : t_ret (pt_rt y) (trt y) i st (K D)) : WP sc y pc D lv st K E := by
  intro hsc fr lo h lv' st' hf hl hh h1 hs
  have fin : ∀ (v : Option Value) (x : Int), pv_ret (pt_rt y) i st' = some v → rrl (trt y) v x → K D x → ∃ (n : Nat) (h' : List pv_E) (o : pv_O) (D' : tD), pr sc n fr lo h y pc lv' st' = some (h', o) ∧ hr h' D' ∧ tpost y h' o (K D') (E D') := fun v x hp hx hK => by
    refine ⟨1, h, .inl v, D, ?_, hh, x, hx, hK⟩
    refine p_ret hco ?_ ?_ ?_ (ph_no1 hp) hp 0
    · rcases hi with rfl | rfl | rfl | rfl <;> rfl
    · rcases hi with rfl | rfl | rfl | rfl <;> rfl
    · rcases hi with rfl | rfl | rfl | rfl <;> rfl
  rcases hi with rfl | rfl | rfl | rfl
  · unfold t_ret at H
    dsimp only at H
    split at H
    · rename_i x
      obtain ⟨v1, s1, rfl, e1, hs1⟩ := sr_cons hs
      obtain ⟨X, rfl, hX⟩ := vi e1
      have e8 := sr_nil hs1
      subst e8
      split at H
      · rename_i hrt
        cases hc : Nat.beq (trt y) 6 with
        | false => rw [hc] at H; exact H.elim
        | true =>
          rw [hc] at H
          obtain ⟨hx, H2⟩ := tbl_spec H
          rw [nbeq.mp hc] at fin
          rw [hrt] at fin
          have hX2 : X = 0 ∨ X = 1 := by
            rcases hx with hx | hx
            · exact Or.inl (Int32.toInt_inj.mp (by rw [hX, hx]; rfl))
            · exact Or.inr (Int32.toInt_inj.mp (by rw [hX, hx]; rfl))
          refine fin (some (.int X)) x ?_ ⟨_, rfl, e1, by omega, by omega⟩ H2
          rcases hX2 with rfl | rfl <;> rfl
      · rename_i hrt
        cases hc : Nat.beq (trt y) 0 with
        | false => rw [hc] at H; exact H.elim
        | true =>
          rw [hc] at H
          rw [nbeq.mp hc] at fin
          rw [hrt] at fin
          exact fin (some (.int X)) x (by exact if_pos rfl) ⟨_, rfl, Or.inr e1⟩ H
      · exact H.elim
    · exact H.elim
  · unfold t_ret at H
    dsimp only at H
    split at H
    · rename_i x
      obtain ⟨v1, s1, rfl, e1, hs1⟩ := sr_cons hs
      obtain ⟨X, rfl, hX⟩ := vl e1
      have e8 := sr_nil hs1
      subst e8
      split at H
      · rename_i hrt
        cases hc : Nat.beq (trt y) 1 with
        | false => rw [hc] at H; exact H.elim
        | true =>
          rw [hc] at H
          rw [nbeq.mp hc] at fin
          rw [hrt] at fin
          exact fin (some (.long X)) x rfl ⟨_, rfl, Or.inr e1⟩ H
      · exact H.elim
    · exact H.elim
  · unfold t_ret at H
    dsimp only at H
    split at H
    · rename_i t x
      obtain ⟨v1, s1, rfl, e1, hs1⟩ := sr_cons hs
      have e8 := sr_nil hs1
      subst e8
      split at H
      · rename_i nm hrt
        rw [hrt] at fin
        cases hc : (Nat.beq t 2 && Nat.ble 1000 (trt y)) with
        | true =>
          rw [hc] at H
          obtain ⟨hc1, hc2⟩ := (Bool.and_eq_true _ _).mp hc
          have et := nbeq.mp hc1
          subst et
          have e9 : v1 = .null := e1
          subst e9
          refine fin (some .null) (-1) rfl ?_ H
          have hge := Nat.le_of_ble_eq_true hc2
          unfold rrl
          split
          · omega
          · omega
          · exact ⟨_, rfl, Or.inl ⟨rfl, rfl, hge⟩⟩
        | false =>
          rw [hc] at H
          cases hc2 : (Nat.beq t (trt y) && (Nat.beq (trt y) 4 || Nat.ble 1000 (trt y))) with
          | false => rw [hc2] at H; exact H.elim
          | true =>
            rw [hc2] at H
            obtain ⟨hc3, hc4⟩ := (Bool.and_eq_true _ _).mp hc2
            have et := nbeq.mp hc3
            have hor : trt y = 4 ∨ 1000 ≤ trt y := by
              rcases (Bool.or_eq_true _ _).mp hc4 with q | q
              · exact Or.inl (nbeq.mp q)
              · exact Or.inr (Nat.le_of_ble_eq_true q)
            have hrr : rrl (trt y) (some v1) x := by
              unfold rrl
              split
              · omega
              · omega
              · exact ⟨_, rfl, Or.inr (et ▸ e1)⟩
            refine fin (some v1) x ?_ hrr H
            rcases vref2 (by omega) e1 with ⟨a, rfl⟩ | ⟨a, rfl⟩ <;> rfl
      · exact H.elim
    · exact H.elim
  · unfold t_ret at H
    dsimp only at H
    split at H
    · have e8 := sr_nil hs
      subst e8
      split at H
      · rename_i hrt
        cases hc : Nat.beq (trt y) 9 with
        | false => rw [hc] at H; exact H.elim
        | true =>
          rw [hc] at H
          rw [nbeq.mp hc] at fin
          rw [hrt] at fin
          exact fin none 0 rfl ⟨rfl, rfl⟩ H
      · exact H.elim
    · exact H.elim
theorem tstr_n : pt_str.length = 62 := by decide +kernel
theorem k_cst (hco : pt_cox y pc = some i) (hi : pv_isld i = true) {k : tV → Prop} (hk : ∀ t, k t → WP sc y (pc + pv_len i) D lv (t :: st) K E) (H : t_cst (pt_cst y i) k) : WP sc y pc D lv st K E := by
  have e1 : ∀ a b, pv_s2 (pt_nL y) i a b = none := fun a b => by cases i <;> first | rfl | cases hi
  have e2 : ∀ b, pv_s1 i b = none := fun b => by cases i <;> first | rfl | cases hi
  have e3 : ∀ b, pv_j i b = none := fun b => by cases i <;> first | rfl | cases hi
  have e5 : ∀ b, pv_ret (pt_rt y) i b = none := fun b => by cases i <;> first | rfl | cases hi
  have go : ∀ v t, pt_cst y i = some v → vr t v → k t → WP sc y pc D lv st K E := fun v t hc hv hkt =>
    wp_go (st2 := t :: st) (fun _ fr lo h lv' st' _ _ hh hl hs => ⟨h, lv', v :: st', fun n => p_ld hco (e1 _ _) (e2 _) (e3 _) (ph_no2 hi) (e5 _) hi hc n, hh, hl, ⟨hv, hs⟩⟩) (hk t hkt)
  unfold t_cst at H
  split at H
  · rename_i x hx
    exact go _ _ hx (vi' rfl) H
  · rename_i x hx
    exact go _ _ hx (vl' rfl) H
  · rename_i n hx
    cases hb : Nat.blt n 62 with
    | false => rw [hb] at H; exact H.elim
    | true =>
      rw [hb] at H
      refine go _ (4, (n : Nat)) hx ⟨by omega, ?_, ?_⟩ H
      · rw [tstr_n]
        have := nblt.mp hb
        show ((n : Nat) : Int).toNat < 62
        omega
      · show Value.retAddr (n + 1) = .retAddr (((n : Nat) : Int).toNat + 1)
        rw [Int.toNat_natCast]
  · exact H.elim
end TSR
