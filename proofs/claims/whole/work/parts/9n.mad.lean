/-! add, the other side -/
section MAD
variable {sc : Nat × (Nat → Int32)} {D D' : tD} {K : tD → Int → Prop} {E : tD → Nat → Prop} {c : Int}
def mdV (D : tD) (x v : Int) : Prop := mkC D x 0 1 ∧ numP v ∧ (D 1980 (D 1995 x) = 0 → 0 ≤ v)
theorem MX_w {x4 t : Int} {D D1 : tD} (h : MX x4 D D1) : MX x4 D (wr D1 1977 0 t) := ⟨fun e => by rw [wr_ni (by omega)]; exact h.1 e, fun e => by rw [wr_ni (by omega)]; exact h.2.1 e, fun a j u v => by
  by_cases e : a = 1977
  · rw [wr_ni (v e).2.2, h.2.2 a j u v]
  · rw [wr_ne e, h.2.2 a j u v]⟩
theorem MX_m {x4 : Int} {D D1 : tD} (h : MX x4 D D1) : ∀ a j, (1980 ≤ a ∧ a ≤ 1995) → D1 a j = D a j := fun a j u => h.2.2 a j (by omega) (by omega)
theorem m_add12 {x v x4 : Int} {D0 : tD} (hD : MX x4 D0 D) (hb : mkB D0) (hnr : mkC D0 x 0 1 → -mostN ≤ D0 1999 x ∧ D0 1999 x ≤ mostN)
    (hx5 : mkC D0 x 0 1 → D0 2003 (7 * x) = 1 → 0 ≤ D0 2005 (7 * x) ∧ D0 2005 (7 * x) ≤ 2000000000000000) (htm : 0 ≤ D0 1977 3 ∧ D0 1977 3 ≤ 2147483647 * 600) (hset : x4 ≠ 0 → ∃ S, exG (D0 1978) (D0 1977 2) S ∧ setIs D S.flatten ∧ S.flatten.length ≤ 44)
    (hN : ∀ D2, MX x4 D0 D2 → D2 1977 0 = 1 → ¬ mkC D0 x 0 1 → K D2 0)
    (hV : ∀ D2, MX x4 D0 D2 → D2 1977 0 = 2 → mkC D0 x 0 1 → (¬ mdV D0 x v ∨ (x4 ≠ 0 ∧ ¬ ∃ S, exG (D0 1978) (D0 1977 2) S)) → K D2 0)
    (hS : ∀ D2, MX x4 D0 D2 → D2 1977 0 = 3 → mdV D0 x v → (x4 ≠ 0 → ∃ S, exG (D0 1978) (D0 1977 2) S) → ¬ numP (D0 1999 x + v) → K D2 0)
    (hT0 : ∀ D1, MX x4 D0 D1 → D1 1977 0 = 0 → mdV D0 x v → (x4 ≠ 0 → ∃ S, exG (D0 1978) (D0 1977 2) S) → numP (D0 1999 x + v) → (x4 = 0 ∨ D0 1980 (D0 1995 x) ≠ 0 ∨ ¬ kxM D0 (7 * x)) → K (wr D1 1999 x (D0 1999 x + v)) 0)
    (hT1 : ∀ D1 S D2, MX x4 D0 D1 → D1 1977 0 = 0 → mdV D0 x v → x4 ≠ 0 → exG (D0 1978) (D0 1977 2) S → numP (D0 1999 x + v) → D0 1980 (D0 1995 x) = 0 → kxM D0 (7 * x) → D2 2003 (7 * x) = 1 → D2 2004 (7 * x) = v → D2 2005 (7 * x) = D0 1977 3 → D2 2007 (7 * x) = (S.flatten.length : Int) → atL D2 2006 (44 * (7 * x)) S.flatten → (∀ a j, a = 2003 ∨ a = 2004 ∨ a = 2005 ∨ a = 2007 → j ≠ 7 * x → D2 a j = D1 a j) → (∀ j, ¬ (44 * (7 * x) ≤ j ∧ j < 44 * (7 * x) + 44) → D2 2006 j = D1 2006 j) → (∀ a j, a < 2003 ∨ 2007 < a → D2 a j = (wr D1 1999 x (D0 1999 x + v)) a j) → K D2 0) : WP sc 225 12 D [(0, (1211, 1977)), (1, (0, x)), (2, (1, v)), (4, (0, x4))] [] K E := by
  have mN : mostN = 999999999999999 := rfl
  have hex : x4 ≠ 0 → ∃ S, exG (D0 1978) (D0 1977 2) S := fun h => by obtain ⟨S, w, _⟩ := hset h; exact ⟨S, w⟩
  have hm := MX_m hD
  refine v225_12 (c_mkC (mkB_fr hm hb) (by omega) (fun h => ?_) (fun h => ?_))
  · have h' := (mkC_fr hm).mp h
    have hx := h.1
    have hx2 := h.2.1
    have hbx := hb x hx hx2 h'.2.2.1
    have hn := hnr h'
    have w1 := MX_w (t := 0) hD
    have w2 := MX_w (t := 0) w1
    have w3 := MX_w (t := 0) w2
    rw [if_neg (by omega)]
    refine c_fails0 ?_
    rw [if_pos rfl]
    refine ⟨by omega, by rw [wr_ne (by omega), hm 1995 _ (by omega)]; omega, ?_⟩
    rw [wr_ne (show (1995 : Int) ≠ 1977 by omega), wr_ne (show (1980 : Int) ≠ 1977 by omega), hm 1995 _ (by omega), hm 1980 _ (by omega)]
    have e99 : ∀ D1, MX x4 D0 D1 → D1 1999 x = D0 1999 x := fun D1 g => g.2.2 _ _ (by omega) (by omega)
    have bad : ∀ (D1 : tD), MX x4 D0 D1 → (¬ mdV D0 x v) → K (wr D1 1977 0 2) 0 := fun D1 g q => hV _ (MX_w g) wr_self h' (Or.inl q)
    split
    · rename_i k0
      refine m_num (fun hnv => ?_) (fun hnv => ?_)
      · rw [if_neg (by omega)]
        split
        · rename_i hlt
          rw [tlc_lt] at hlt
          refine c_fails1 ?_
          rw [if_neg (by omega)]
          exact bad _ w1 (fun w => by have := w.2.2 k0; omega)
        · rename_i hge
          rw [tlc_lt] at hge
          have had : mdV D0 x v := ⟨h', hnv, fun _ => by omega⟩
          refine c_fails0 ?_
          rw [if_pos rfl, e99 _ w2, w64_id (by omega) (by omega)]
          refine ⟨by omega, m_num (fun hns => ?_) (fun hns => ?_)⟩
          · rw [if_neg (by omega)]
            refine c_fails0 ?_
            rw [if_pos rfl, e99 _ w3, w64_id (by omega) (by omega)]
            refine ⟨by omega, by omega, ?_⟩
            split
            · rename_i z4
              exact hT0 _ w3 wr_self had hex hns (Or.inl z4)
            · rename_i z4
              obtain ⟨S, s1, s2, s3⟩ := hset z4
              rw [w32_id (by omega) (by omega)]
              have e3 : ∀ a j, 1999 < a → a < 2009 → (wr (wr (wr (wr D 1977 0 0) 1977 0 0) 1977 0 0) 1999 x (D0 1999 x + v)) a j = D0 a j := fun a j u1 u2 => by rw [wr_ne (by omega), w3.2.2 a j (by omega) (by omega)]
              have e77 : (wr (wr (wr (wr D 1977 0 0) 1977 0 0) 1977 0 0) 1999 x (D0 1999 x + v)) 1977 3 = D0 1977 3 := by rw [wr_ne (by omega), w3.2.2 _ _ (by omega) (by omega)]
              have kxe : kxM (wr (wr (wr (wr D 1977 0 0) 1977 0 0) 1977 0 0) 1999 x (D0 1999 x + v)) (7 * x) ↔ kxM D0 (7 * x) := by unfold kxM; rw [e3 2003 _ (by omega) (by omega), e3 2005 _ (by omega) (by omega), e77]
              refine m_keep (l := S.flatten) (by omega) ⟨by rw [wr_ne (by omega), wr_ni (by omega), wr_ni (by omega), wr_ni (by omega)]; exact s2.1, atL_fr (fun j u w => by rw [wr_ne (by omega), wr_ne (by omega), wr_ne (by omega), wr_ne (by omega)]) s2.2⟩ s3 (by rw [e77]; exact htm) (fun w => by rw [e3 _ _ (by omega) (by omega)] at w ⊢; exact hx5 h' w) (fun hk D2 p1 p2 p3 p4 p5 p6 p7 p8 => ?_) (fun hk => ?_)
              · rw [e77] at p3
                exact hT1 _ S D2 w3 wr_self had z4 s1 hns k0 (kxe.mp hk) p1 p2 p3 p4 p5 (fun a j u w => by rw [p6 a j u w, wr_ne (by omega)]) (fun j u => by rw [p7 j u, wr_ne (by omega)]) p8
              · exact hT0 _ w3 wr_self had hex hns (Or.inr (Or.inr (fun w => hk (kxe.mpr w))))
          · rw [if_pos rfl]
            refine c_fails1 ?_
            rw [if_neg (by omega)]
            exact hS _ (MX_w w2) wr_self had hex hns
      · rw [if_pos rfl]
        refine c_fails1 ?_
        rw [if_neg (by omega)]
        exact bad _ w1 (fun w => hnv w.2.1)
    · rename_i k0
      refine m_num (fun hnv => ?_) (fun hnv => ?_)
      · rw [if_neg (by omega)]
        have had : mdV D0 x v := ⟨h', hnv, fun w => absurd w k0⟩
        refine c_fails0 ?_
        rw [if_pos rfl, e99 _ w2, w64_id (by omega) (by omega)]
        refine ⟨by omega, m_num (fun hns => ?_) (fun hns => ?_)⟩
        · rw [if_neg (by omega)]
          refine c_fails0 ?_
          rw [if_pos rfl, e99 _ w3, w64_id (by omega) (by omega)]
          refine ⟨by omega, by omega, ?_⟩
          have := hT0 _ w3 wr_self had hex hns (Or.inr (Or.inl k0))
          split <;> exact this
        · rw [if_pos rfl]
          refine c_fails1 ?_
          rw [if_neg (by omega)]
          exact hS _ (MX_w w2) wr_self had hex hns
      · rw [if_pos rfl]
        refine c_fails1 ?_
        rw [if_neg (by omega)]
        exact bad _ w1 (fun w => hnv w.2.1)
  · rw [if_pos rfl]
    refine c_fails1 ?_
    rw [if_neg (by omega)]
    exact hN _ (MX_w hD) wr_self (fun w => h ((mkC_fr hm).mpr w))
theorem m_add {x v x4 : Int} (hb : mkB D) (hnr : mkC D x 0 1 → -mostN ≤ D 1999 x ∧ D 1999 x ≤ mostN) (hx5 : mkC D x 0 1 → D 2003 (7 * x) = 1 → 0 ≤ D 2005 (7 * x) ∧ D 2005 (7 * x) ≤ 2000000000000000) (htm : 0 ≤ D 1977 3 ∧ D 1977 3 ≤ 2147483647 * 600) (hbt : ∀ j, 0 ≤ j → j < D 1977 2 → 0 ≤ D 1978 j ∧ D 1978 j ≤ 255) (hN4 : 0 ≤ D 1977 2 ∧ D 1977 2 ≤ 4000)
    (hN : ∀ D2, MX x4 D D2 → D2 1977 0 = 1 → ¬ mkC D x 0 1 → K D2 0)
    (hV : ∀ D2, MX x4 D D2 → D2 1977 0 = 2 → mkC D x 0 1 → (¬ mdV D x v ∨ (x4 ≠ 0 ∧ ¬ ∃ S, exG (D 1978) (D 1977 2) S)) → K D2 0)
    (hS : ∀ D2, MX x4 D D2 → D2 1977 0 = 3 → mdV D x v → (x4 ≠ 0 → ∃ S, exG (D 1978) (D 1977 2) S) → ¬ numP (D 1999 x + v) → K D2 0)
    (hT0 : ∀ D1, MX x4 D D1 → D1 1977 0 = 0 → mdV D x v → (x4 ≠ 0 → ∃ S, exG (D 1978) (D 1977 2) S) → numP (D 1999 x + v) → (x4 = 0 ∨ D 1980 (D 1995 x) ≠ 0 ∨ ¬ kxM D (7 * x)) → K (wr D1 1999 x (D 1999 x + v)) 0)
    (hT1 : ∀ D1 S D2, MX x4 D D1 → D1 1977 0 = 0 → mdV D x v → x4 ≠ 0 → exG (D 1978) (D 1977 2) S → numP (D 1999 x + v) → D 1980 (D 1995 x) = 0 → kxM D (7 * x) → D2 2003 (7 * x) = 1 → D2 2004 (7 * x) = v → D2 2005 (7 * x) = D 1977 3 → D2 2007 (7 * x) = (S.flatten.length : Int) → atL D2 2006 (44 * (7 * x)) S.flatten → (∀ a j, a = 2003 ∨ a = 2004 ∨ a = 2005 ∨ a = 2007 → j ≠ 7 * x → D2 a j = D1 a j) → (∀ j, ¬ (44 * (7 * x) ≤ j ∧ j < 44 * (7 * x) + 44) → D2 2006 j = D1 2006 j) → (∀ a j, a < 2003 ∨ 2007 < a → D2 a j = (wr D1 1999 x (D 1999 x + v)) a j) → K D2 0) : WP sc 225 0 D [(0, (1211, 1977)), (1, (0, x)), (2, (1, v)), (4, (0, x4))] [] K E := by
  refine v225_0 ?_
  by_cases z4 : x4 = 0
  · rw [if_pos z4]
    exact m_add12 ⟨fun _ => rfl, fun h => absurd z4 h, fun _ _ _ _ => rfl⟩ hb hnr hx5 htm (fun h => absurd z4 h) hN hV hS hT0 hT1
  · rw [if_neg z4]
    refine m_msample hbt rfl hN4 (fun S D1 g1 g2 g3 g4 => ?_) (fun D1 g1 g3 g4 => ?_)
    · have hD : MX x4 D D1 := ⟨fun h => absurd h z4, fun _ => g3, fun a j u w => g4 a j u (fun e => ⟨(w e).1, (w e).2.1⟩)⟩
      rw [if_neg (by omega)]
      have hl : S.flatten.length ≤ 44 := by
        obtain ⟨g, h1, h2, h3⟩ := g1.1
        have l1 := insAll_len h3
        have lS := tkP_len g1.1
        have := g1.2
        omega
      exact m_add12 hD hb hnr hx5 htm (fun _ => ⟨S, g1, g2, hl⟩) hN hV hS hT0 hT1
    · have hD : MX x4 D D1 := ⟨fun h => absurd h z4, fun _ => g3, fun a j u w => g4 a j u (fun e => ⟨(w e).1, (w e).2.1⟩)⟩
      have hm := MX_m hD
      have w1 := MX_w (t := 0) hD
      rw [if_pos rfl]
      refine c_mkC (mkB_fr hm hb) (by omega) (fun h => ?_) (fun h => ?_)
      · have h' := (mkC_fr hm).mp h
        have hx := h.1
        have hx2 := h.2.1
        have hbx := hb x hx hx2 h'.2.2.1
        have fin := hV _ (MX_w (t := 2) w1) wr_self h' (Or.inr ⟨z4, g1⟩)
        rw [if_neg (by omega)]
        refine c_fails0 ?_
        rw [if_pos rfl]
        refine ⟨by omega, by rw [wr_ne (by omega), hm 1995 _ (by omega)]; omega, ?_⟩
        rw [wr_ne (show (1995 : Int) ≠ 1977 by omega), wr_ne (show (1980 : Int) ≠ 1977 by omega), hm 1995 _ (by omega), hm 1980 _ (by omega)]
        split
        · refine m_num (fun hnv => ?_) (fun hnv => ?_)
          · rw [if_neg (by omega)]
            split
            · refine c_fails1 ?_
              rw [if_neg (by omega)]
              exact fin
            · refine c_fails1 ?_
              rw [if_neg (by omega)]
              exact fin
          · rw [if_pos rfl]
            refine c_fails1 ?_
            rw [if_neg (by omega)]
            exact fin
        · refine m_num (fun hnv => ?_) (fun hnv => ?_)
          · rw [if_neg (by omega)]
            refine c_fails1 ?_
            rw [if_neg (by omega)]
            exact fin
          · rw [if_pos rfl]
            refine c_fails1 ?_
            rw [if_neg (by omega)]
            exact fin
      · rw [if_pos rfl]
        refine c_fails1 ?_
        rw [if_neg (by omega)]
        exact hN _ (MX_w hD) wr_self (fun w => h ((mkC_fr hm).mpr w))
end MAD
