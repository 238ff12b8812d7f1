/-! a call, by what its link says -/
theorem rn_iv {sc : Nat × (Nat → Int32)} {n fr lo : Nat} {h : List pv_E} {y pc : Nat} {lv : List (Nat × Value)} {st : List Value} {i : Instr} (hco : pt_cox y pc = some i) (hi : pv_isiv i = true) (hkd : (pt_ax y i).1 < 3) (hlen : ¬ st.length < (pt_ax y i).2.2)
    (hc : pv_recv pv_G pt_rc (pt_ax y i).1 (pt_ax y i).2.1 h (st.take (pt_ax y i).2.2).reverse = true ∧ ((st.drop (pt_ax y i).2.2).map Value.category).sum + (pt_nL (pt_ax y i).2.1 + 11) ≤ lo ∧ (lg_sl (st.take (pt_ax y i).2.2).reverse).length ≤ pt_nL (pt_ax y i).2.1) {h1 : List pv_E} {v : Option Value}
    (hcal : pr sc n fr (lo - (((st.drop (pt_ax y i).2.2).map Value.category).sum + (pt_nL (pt_ax y i).2.1 + 11))) h (pt_ax y i).2.1 0 (lv_args 0 (st.take (pt_ax y i).2.2).reverse) [] = some (h1, .inl v)) :
    pr sc (n + 1) (fr + 1) lo h y pc lv st = pr sc n (fr + 1) lo h1 y (pc + 3) lv (v.toList ++ st.drop (pt_ax y i).2.2) := by
  show pv_body pv_G pv_S pv_P pv_N pv_M sc 601024 7293034 pt_ar pt_nw pt_fty pt_cox pt_ax pt_nL pt_cst pt_rt pt_hs pt_rc (pt_xtA pv_G pv_S) (pr sc n) (fr + 1) lo h y pc lv st = _
  have e1 : pv_s2 (pt_nL y) i lv st = none := by cases i <;> first | rfl | cases hi
  have e2 : pv_s1 i st = none := by cases i <;> first | rfl | cases hi
  have e3 : pv_j i st = none := by cases i <;> first | rfl | cases hi
  have e5 : pv_ret (pt_rt y) i st = none := by cases i <;> first | rfl | cases hi
  have e6 : pv_isld i = false := by cases i <;> first | rfl | cases hi
  have e7 : pv_isth i (pt_ax y i).1 = false := by cases i <;> first | rfl | cases hi
  have e4 := ph_no3 (G2 := pv_G) (S2 := pv_S) (P2 := pv_P) (N2 := pv_N) (M2 := pv_M) (sc := sc) (capC := 601024) (capS := 7293034) (ar := pt_ar) (nw := pt_nw) (b := h) (st := st) (fty := pt_fty) (a1 := (pt_ax y i).1) (a2 := (pt_ax y i).2.1) hi
  unfold pv_body
  rw [hco]
  dsimp only
  rw [e1]
  dsimp only
  rw [e2]
  dsimp only
  rw [e3]
  dsimp only
  rw [e4]
  dsimp only
  rw [e5]
  dsimp only
  rw [e6]
  dsimp only
  rw [e7]
  dsimp only
  rw [hi]
  dsimp only
  rw [if_neg (by omega), if_neg hlen, if_pos hc]
  try dsimp only
  rw [hcal]
