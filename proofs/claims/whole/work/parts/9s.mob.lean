/-! observe, the other side -/
section MOB
variable {sc : Nat × (Nat → Int32)} {D D' : tD} {K : tD → Int → Prop} {E : tD → Nat → Prop} {c : Int}
def moV (D : tD) (x v : Int) : Prop := mkC D x 2 2 ∧ 0 ≤ v ∧ v ≤ 999999999999999
def moB (D : tD) (x v b : Int) : Prop := bkP (fun j => D 1987 (6 * D 1995 x + j)) (D 1988 (D 1995 x)) v b
def mo2 (D1 : tD) (x n b q : Int) : tD := wr (wr D1 1999 x n) 2002 (7 * x + b) q
/-- what the other side must know of the child -/
def moH (D : tD) (x : Int) : Prop := (-mostN ≤ D 1999 x ∧ D 1999 x ≤ mostN) ∧ (∀ b, 0 ≤ b → b < 7 → D 2003 (7 * x + b) = 1 → 0 ≤ D 2005 (7 * x + b) ∧ D 2005 (7 * x + b) ≤ 2000000000000000) ∧ (∀ b, 0 ≤ b → b < 7 → 0 ≤ D 2002 (7 * x + b) ∧ D 2002 (7 * x + b) ≤ 1000000000600) ∧ (0 ≤ D 1988 (D 1995 x) ∧ D 1988 (D 1995 x) ≤ 6) ∧ ∀ k, 0 ≤ k → k + 1 < D 1988 (D 1995 x) → D 1987 (6 * D 1995 x + k) < D 1987 (6 * D 1995 x + (k + 1))
theorem m_ob12 {x v x4 : Int} {D0 : tD} (hD : MX x4 D0 D) (hb : mkB D0) (hH : mkC D0 x 2 2 → moH D0 x) (htm : 0 ≤ D0 1977 3 ∧ D0 1977 3 ≤ 2147483647 * 600) (hset : x4 ≠ 0 → ∃ S, exG (D0 1978) (D0 1977 2) S ∧ setIs D S.flatten ∧ S.flatten.length ≤ 44)
    (hN : ∀ D2, MX x4 D0 D2 → D2 1977 0 = 1 → ¬ mkC D0 x 2 2 → K D2 0)
    (hV : ∀ D2, MX x4 D0 D2 → D2 1977 0 = 2 → mkC D0 x 2 2 → (¬ moV D0 x v ∨ (x4 ≠ 0 ∧ ¬ ∃ S, exG (D0 1978) (D0 1977 2) S)) → K D2 0)
    (hS : ∀ D2, MX x4 D0 D2 → D2 1977 0 = 3 → moV D0 x v → (x4 ≠ 0 → ∃ S, exG (D0 1978) (D0 1977 2) S) → ¬ numP (D0 1999 x + v) → K D2 0)
    (hT0 : ∀ D1 b, MX x4 D0 D1 → D1 1977 0 = 0 → moV D0 x v → (x4 ≠ 0 → ∃ S, exG (D0 1978) (D0 1977 2) S) → numP (D0 1999 x + v) → moB D0 x v b → (x4 = 0 ∨ ¬ kxM D0 (7 * x + b)) → K (mo2 D1 x (D0 1999 x + v) b (D0 2002 (7 * x + b) + 1)) 0)
    (hT1 : ∀ D1 b S D2, MX x4 D0 D1 → D1 1977 0 = 0 → moV D0 x v → x4 ≠ 0 → exG (D0 1978) (D0 1977 2) S → numP (D0 1999 x + v) → moB D0 x v b → kxM D0 (7 * x + b) → D2 2003 (7 * x + b) = 1 → D2 2004 (7 * x + b) = v → D2 2005 (7 * x + b) = D0 1977 3 → D2 2007 (7 * x + b) = (S.flatten.length : Int) → atL D2 2006 (44 * (7 * x + b)) S.flatten → (∀ a j, a = 2003 ∨ a = 2004 ∨ a = 2005 ∨ a = 2007 → j ≠ 7 * x + b → D2 a j = D1 a j) → (∀ j, ¬ (44 * (7 * x + b) ≤ j ∧ j < 44 * (7 * x + b) + 44) → D2 2006 j = D1 2006 j) → (∀ a j, a < 2003 ∨ 2007 < a → D2 a j = (mo2 D1 x (D0 1999 x + v) b (D0 2002 (7 * x + b) + 1)) a j) → K D2 0) : WP sc 228 12 D [(0, (1211, 1977)), (1, (0, x)), (2, (1, v)), (4, (0, x4))] [] K E := by
  have mN : mostN = 999999999999999 := rfl
  have hex : x4 ≠ 0 → ∃ S, exG (D0 1978) (D0 1977 2) S := fun h => by obtain ⟨S, w, _⟩ := hset h; exact ⟨S, w⟩
  have hm := MX_m hD
  refine v228_12 (c_mkC (mkB_fr hm hb) (by omega) (fun h => ?_) (fun h => ?_))
  · have h' := (mkC_fr hm).mp h
    have hx := h.1
    have hx2 := h.2.1
    have hbx := hb x hx hx2 h'.2.2.1
    obtain ⟨hn, hx5, hct, hf6, hris⟩ := hH h'
    have w1 := MX_w (t := 0) hD
    have w2 := MX_w (t := 0) w1
    have w3 := MX_w (t := 0) w2
    rw [if_neg (by omega)]
    refine c_fails0 ?_
    rw [if_pos rfl]
    refine c_within (fun hw => ?_) (fun hw => ?_)
    · rw [if_neg (by omega)]
      have ho : moV D0 x v := ⟨h', hw⟩
      refine c_fails0 ?_
      rw [if_pos rfl, w2.2.2 1999 x (by omega) (by omega), w64_id (x := D0 1999 x + v) (by omega) (by omega)]
      refine ⟨by omega, m_num (fun hns => ?_) (fun hns => ?_)⟩
      · rw [if_neg (by omega)]
        refine c_fails0 ?_
        rw [if_pos rfl]
        generalize hW : wr (wr (wr D 1977 0 0) 1977 0 0) 1977 0 0 = W at w3 ⊢
        have W0 : W 1977 0 = 0 := by rw [← hW, wr_self]
        have Wf : ∀ a j, 1978 ≤ a → W a j = D a j := fun a j u => by rw [← hW, wr_ne (by omega), wr_ne (by omega), wr_ne (by omega)]
        have W37 : W 1977 37 = D 1977 37 := by rw [← hW, wr_ni (by omega), wr_ni (by omega), wr_ni (by omega)]
        have e95 : W 1995 x = D0 1995 x := w3.2.2 _ _ (by omega) (by omega)
        have e88 : ∀ j, W 1988 j = D0 1988 j := fun j => w3.2.2 _ _ (by omega) (by omega)
        have e87 : ∀ j, W 1987 j = D0 1987 j := fun j => w3.2.2 _ _ (by omega) (by omega)
        have n1 := hns.1
        have n2 := hns.2
        rw [e95]
        refine ⟨by omega, m_falls (by omega) (by rw [e88]; exact hf6) (fun k u w => ?_) (fun b hbk => ?_)⟩
        · rw [e88] at w
          rw [e87, e87]
          exact hris k u w
        · have hb' : moB D0 x v b := by
            unfold moB
            rw [e88, show W 1987 = D0 1987 from funext e87] at hbk
            exact hbk
          have hb7 : 0 ≤ b ∧ b < 7 := ⟨hb'.1, by have := hb'.2.1; omega⟩
          have c0 := hct b hb7.1 hb7.2
          rw [w3.2.2 1999 x (by omega) (by omega), w64_id (x := D0 1999 x + v) (by omega) (by omega), w32_id (x := 7 * x) (by omega) (by omega), w32_id (x := 7 * x + b) (by omega) (by omega), wr_ne (show (2002 : Int) ≠ 1999 by omega), w3.2.2 2002 (7 * x + b) (by omega) (by omega), w64_id (x := D0 2002 (7 * x + b) + 1) (by omega) (by omega)]
          refine ⟨by omega, by omega, by omega, by omega, ?_⟩
          by_cases z4 : x4 = 0
          · rw [if_pos z4]
            exact hT0 W b w3 W0 ho hex hns hb' (Or.inl z4)
          · rw [if_neg z4]
            obtain ⟨S, s1, s2, s3⟩ := hset z4
            show WP sc 224 0 (mo2 W x (D0 1999 x + v) b (D0 2002 (7 * x + b) + 1)) _ [] _ _
            have eo : ∀ a j, a ≠ 1999 → a ≠ 2002 → (mo2 W x (D0 1999 x + v) b (D0 2002 (7 * x + b) + 1)) a j = W a j := fun a j u w => by unfold mo2; rw [wr_ne w, wr_ne u]
            have e3 : ∀ a j, 2002 < a → a < 2009 → (mo2 W x (D0 1999 x + v) b (D0 2002 (7 * x + b) + 1)) a j = D0 a j := fun a j u1 u2 => by rw [eo a j (by omega) (by omega), w3.2.2 a j (by omega) (by omega)]
            have e77 : (mo2 W x (D0 1999 x + v) b (D0 2002 (7 * x + b) + 1)) 1977 3 = D0 1977 3 := by rw [eo _ _ (by omega) (by omega), w3.2.2 _ _ (by omega) (by omega)]
            have kxe : kxM (mo2 W x (D0 1999 x + v) b (D0 2002 (7 * x + b) + 1)) (7 * x + b) ↔ kxM D0 (7 * x + b) := by unfold kxM; rw [e3 2003 _ (by omega) (by omega), e3 2005 _ (by omega) (by omega), e77]
            refine m_keep (l := S.flatten) (by omega) ⟨by rw [eo _ _ (by omega) (by omega), W37]; exact s2.1, atL_fr (fun j u w => by rw [eo _ _ (by omega) (by omega), Wf _ _ (by omega)]) s2.2⟩ s3 (by rw [e77]; exact htm) (fun w => by rw [e3 _ _ (by omega) (by omega)] at w ⊢; exact hx5 b hb7.1 hb7.2 w) (fun hk D2 p1 p2 p3 p4 p5 p6 p7 p8 => ?_) (fun hk => ?_)
            · rw [e77] at p3
              exact hT1 W b S D2 w3 W0 ho z4 s1 hns hb' (kxe.mp hk) p1 p2 p3 p4 p5 (fun a j u w => by rw [p6 a j u w, eo _ _ (by omega) (by omega)]) (fun j u => by rw [p7 j u, eo _ _ (by omega) (by omega)]) p8
            · exact hT0 W b w3 W0 ho hex hns hb' (Or.inr (fun w => hk (kxe.mpr w)))
      · rw [if_pos rfl]
        refine c_fails1 ?_
        rw [if_neg (by omega)]
        exact hS _ (MX_w w2) wr_self ho hex hns
    · rw [if_pos rfl]
      refine c_fails1 ?_
      rw [if_neg (by omega)]
      exact hV _ (MX_w w1) wr_self h' (Or.inl (fun w => hw w.2))
  · rw [if_pos rfl]
    refine c_fails1 ?_
    rw [if_neg (by omega)]
    exact hN _ (MX_w hD) wr_self (fun w => h ((mkC_fr hm).mpr w))
theorem m_observe {x v x4 : Int} (hb : mkB D) (hH : mkC D x 2 2 → moH D x) (htm : 0 ≤ D 1977 3 ∧ D 1977 3 ≤ 2147483647 * 600) (hbt : ∀ j, 0 ≤ j → j < D 1977 2 → 0 ≤ D 1978 j ∧ D 1978 j ≤ 255) (hN4 : 0 ≤ D 1977 2 ∧ D 1977 2 ≤ 4000)
    (hN : ∀ D2, MX x4 D D2 → D2 1977 0 = 1 → ¬ mkC D x 2 2 → K D2 0)
    (hV : ∀ D2, MX x4 D D2 → D2 1977 0 = 2 → mkC D x 2 2 → (¬ moV D x v ∨ (x4 ≠ 0 ∧ ¬ ∃ S, exG (D 1978) (D 1977 2) S)) → K D2 0)
    (hS : ∀ D2, MX x4 D D2 → D2 1977 0 = 3 → moV D x v → (x4 ≠ 0 → ∃ S, exG (D 1978) (D 1977 2) S) → ¬ numP (D 1999 x + v) → K D2 0)
    (hT0 : ∀ D1 b, MX x4 D D1 → D1 1977 0 = 0 → moV D x v → (x4 ≠ 0 → ∃ S, exG (D 1978) (D 1977 2) S) → numP (D 1999 x + v) → moB D x v b → (x4 = 0 ∨ ¬ kxM D (7 * x + b)) → K (mo2 D1 x (D 1999 x + v) b (D 2002 (7 * x + b) + 1)) 0)
    (hT1 : ∀ D1 b S D2, MX x4 D D1 → D1 1977 0 = 0 → moV D x v → x4 ≠ 0 → exG (D 1978) (D 1977 2) S → numP (D 1999 x + v) → moB D x v b → kxM D (7 * x + b) → D2 2003 (7 * x + b) = 1 → D2 2004 (7 * x + b) = v → D2 2005 (7 * x + b) = D 1977 3 → D2 2007 (7 * x + b) = (S.flatten.length : Int) → atL D2 2006 (44 * (7 * x + b)) S.flatten → (∀ a j, a = 2003 ∨ a = 2004 ∨ a = 2005 ∨ a = 2007 → j ≠ 7 * x + b → D2 a j = D1 a j) → (∀ j, ¬ (44 * (7 * x + b) ≤ j ∧ j < 44 * (7 * x + b) + 44) → D2 2006 j = D1 2006 j) → (∀ a j, a < 2003 ∨ 2007 < a → D2 a j = (mo2 D1 x (D 1999 x + v) b (D 2002 (7 * x + b) + 1)) a j) → K D2 0) : WP sc 228 0 D [(0, (1211, 1977)), (1, (0, x)), (2, (1, v)), (4, (0, x4))] [] K E := by
  refine v228_0 ?_
  by_cases z4 : x4 = 0
  · rw [if_pos z4]
    exact m_ob12 ⟨fun _ => rfl, fun h => absurd z4 h, fun _ _ _ _ => rfl⟩ hb hH htm (fun h => absurd z4 h) hN hV hS hT0 hT1
  · rw [if_neg z4]
    refine m_msample hbt rfl hN4 (fun S D1 g1 g2 g3 g4 => ?_) (fun D1 g1 g3 g4 => ?_)
    · have hD : MX x4 D D1 := ⟨fun h => absurd h z4, fun _ => g3, fun a j u w => g4 a j u (fun e => ⟨(w e).1, (w e).2.1⟩)⟩
      rw [if_neg (by omega)]
      have hl : S.flatten.length ≤ 44 := by
        obtain ⟨g, h1, h2, h3⟩ := g1.1
        have l1 := insAll_len h3
        have lS := tkP_len g1.1
        have := g1.2
        omega
      exact m_ob12 hD hb hH htm (fun _ => ⟨S, g1, g2, hl⟩) hN hV hS hT0 hT1
    · have hD : MX x4 D D1 := ⟨fun h => absurd h z4, fun _ => g3, fun a j u w => g4 a j u (fun e => ⟨(w e).1, (w e).2.1⟩)⟩
      have hm := MX_m hD
      have w1 := MX_w (t := 0) hD
      rw [if_pos rfl]
      refine c_mkC (mkB_fr hm hb) (by omega) (fun h => ?_) (fun h => ?_)
      · have h' := (mkC_fr hm).mp h
        have fin := hV _ (MX_w (t := 2) w1) wr_self h' (Or.inr ⟨z4, g1⟩)
        rw [if_neg (by omega)]
        refine c_fails0 ?_
        rw [if_pos rfl]
        refine c_within (fun hw => ?_) (fun hw => ?_)
        · rw [if_neg (by omega)]
          refine c_fails1 ?_
          rw [if_neg (by omega)]
          exact fin
        · rw [if_pos rfl]
          refine c_fails1 ?_
          rw [if_neg (by omega)]
          exact fin
      · rw [if_pos rfl]
        refine c_fails1 ?_
        rw [if_neg (by omega)]
        exact hN _ (MX_w hD) wr_self (fun w => h ((mkC_fr hm).mpr w))
end MOB
