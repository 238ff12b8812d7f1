/-! the law's loop: bucket -/
section BUK
variable {sc : Nat × (Nat → Int32)} {D : tD} {K : tD → Int → Prop} {E : tD → Nat → Prop} {s c i : Int}
def bkN (D : tD) (w k : Int) : Int := if D (aF w (D (aC w k) 4)) 5 = 2 then D (aF w (D (aC w k) 4)) 6 + 1 else if D (aF w (D (aC w k) 4)) 5 = 0 then 1 else 0
def bkC (D : tD) (w k b : Int) : Prop := chC D w k ∧ 0 ≤ b ∧ b < bkN D w k
def bkV (D : tD) (w k b x : Int) : Int := if x = 0 then (if b < D (aF w (D (aC w k) 4)) 6 then D (aF w (D (aC w k) 4) + 7) b else 0) else if x = 1 then D (aC w k + 4) b else if x = 2 then (if D (aX w k b) 1 = 0 then 0 else 1) else if x = 3 then D (aX w k b) 2 else if x = 4 then D (aX w k b) 3 else D (aX w k b + 2) 1
theorem c_bcnt {F : Int} (h : 0 ≤ D F 6 ∧ D F 6 ≤ 6) (hK : K D (if D F 5 = 2 then D F 6 + 1 else if D F 5 = 0 then 1 else 0)) : WP sc 73 0 D [(0, (1204, F))] [] K E := by
  refine v73_0 ?_
  rw [w32_id (by omega) (by omega)]
  split
  · rename_i q; rw [if_pos q] at hK; exact hK
  · rename_i q
    rw [if_neg q] at hK
    split
    · rename_i q2; rw [if_pos q2] at hK; exact hK
    · rename_i q2; rw [if_neg q2] at hK; exact hK
theorem c_bucket {w k b x : Int} (h0 : shR c D 0) (h1 : shR c D 1) (hT : (w = 0 ∨ w = 1) ∧ 0 ≤ x ∧ x ≤ 5 → bkC D w k b → K D (bkV D w k b x)) (hF : ¬ ((w = 0 ∨ w = 1) ∧ 0 ≤ x ∧ x ≤ 5) → D (-1) 0 < 599000 ∧ E (bump D) 90) (hN : (w = 0 ∨ w = 1) ∧ 0 ≤ x ∧ x ≤ 5 → ¬ bkC D w k b → D (-1) 0 < 599000 ∧ E (bump D) 93) : WP sc 25 0 D [(0, (1200, 0)), (1, (0, w)), (2, (0, k)), (3, (0, b)), (4, (0, x))] [] K E := by
  refine v25_0 ?_
  by_cases hw : w = 0 ∨ w = 1
  · have hsh := shR_of h0 h1 hw
    have hn := hsh.1
    refine sheetEq hw ?_
    rw [if_neg (by omega)]
    split
    · exact hF (fun h => by have := h.2; omega)
    split
    · exact hF (fun h => by have := h.2; omega)
    refine c_chAt hw (fun hk ht => ?_) (fun hk => ?_)
    · rw [if_neg (by unfold aC; omega)]
      obtain ⟨b1, b2, b3⟩ := hsh.2.2.1 k hk.1 hk.2
      have hch := b3 (by omega)
      have hp := hch.1
      have hfa := hsh.2.1 _ hp.1 hp.2.1
      have hl4 := ln_cnt hw hk
      have hl5 := ln_exs hw hk
      have hl7 := ln_bnd (f := D (aC w k) 4) hw (by omega)
      have h6 := hfa.2.2.2.2.1
      refine c_parent hw (by omega) ?_
      rw [if_neg (by unfold aF; omega)]
      refine c_bcnt (by omega) ?_
      change if b < bkN D w k then _ else _
      have hbk : bkN D w k ≤ 7 := by unfold bkN; split; omega; split <;> omega
      split
      · refine v33_0 ?_
        rw [hl5, show aC w k + 5 + 1 + 4 * b = aX w k b from by unfold aC aX; omega]
        split
        · rw [if_pos rfl]
          exact hN ⟨hw, by omega, by omega⟩ (fun h => by have := h.2.1; omega)
        · rw [if_pos (by omega)]
          refine ⟨by omega, ?_⟩
          rw [if_neg (by unfold aX; omega)]
          have hv := hT ⟨hw, by omega, by omega⟩ ⟨⟨hk.1, hk.2, ht⟩, by omega, by omega⟩
          unfold bkV at hv
          split
          · rename_i q0
            rw [if_pos q0] at hv
            refine c_parent hw (by omega) ?_
            rw [if_neg (by unfold aF; omega)]
            refine v74_0 ?_
            rw [if_neg (by omega)]
            split
            · rename_i z; rw [if_pos z] at hv; rw [if_pos (by omega), hl7]; exact ⟨by omega, hv⟩
            · rename_i z; rw [if_neg z] at hv; exact hv
          rename_i q0
          rw [if_neg q0] at hv
          split
          · rename_i q1
            rw [if_pos q1] at hv
            refine v34_0 ?_
            rw [if_neg (by omega), hl4, if_pos (by omega)]
            exact ⟨by omega, hv⟩
          rename_i q1
          rw [if_neg q1] at hv
          split
          · rename_i q2
            rw [if_pos q2] at hv
            intro _
            split
            · rename_i z; rw [if_pos z] at hv; exact hv
            · rename_i z; rw [if_neg z] at hv; exact hv
          rename_i q2
          rw [if_neg q2] at hv
          split
          · rename_i q3
            rw [if_pos q3] at hv
            exact hv
          rename_i q3
          rw [if_neg q3] at hv
          split
          · rename_i q4
            rw [if_pos q4] at hv
            exact hv
          rename_i q4
          rw [if_neg q4] at hv
          rw [show aX w k b + 1 + 1 = aX w k b + 2 from by omega]
          exact hv
      · exact hN ⟨hw, by omega, by omega⟩ (fun h => by have := h.2.2; omega)
    · rw [if_pos rfl]
      exact hN ⟨hw, by omega, by omega⟩ (fun h => hk h.1)
  · refine sheetNe hw ?_
    rw [if_pos rfl]
    exact hF (fun h => hw h.1)
theorem m_bucket {w k b x : Int} (hkr : -2147483648 ≤ k ∧ k ≤ 2147483647) (h0 : shR c D 0) (h1 : shR c D 1) (hT : (w = 0 ∨ w = 1) ∧ 0 ≤ x ∧ x ≤ 5 → bkC D w k b → K (wr (wr D 1977 0 0) 1977 0 0) (bkV D w k b x)) (hF : ¬ ((w = 0 ∨ w = 1) ∧ 0 ≤ x ∧ x ≤ 5) → K (wr D 1977 0 1) 0) (hN : (w = 0 ∨ w = 1) ∧ 0 ≤ x ∧ x ≤ 5 → ¬ bkC D w k b → K (wr (wr D 1977 0 0) 1977 0 2) 0) : WP sc 294 0 D [(0, (1211, 1977)), (1, (0, w)), (2, (0, k)), (3, (0, b)), (4, (0, x))] [] K E := by
  refine v294_0 (c_within (fun hw => ?_) (fun hw => ?_))
  · have hw2 : w = 0 ∨ w = 1 := by omega
    have hsh := shR_of h0 h1 hw2
    have hn := hsh.1
    rw [if_neg (by omega)]
    refine c_within (fun hx => ?_) (fun hx => ?_)
    · rw [if_neg (by omega)]
      refine c_fails0 ?_
      rw [if_pos rfl]
      have no : ∀ x5 x7, ¬ bkC D w k b → WP sc 294 147 (wr D 1977 0 0) [(0, (1211, 1977)), (3, (0, b)), (4, (0, x)), (5, (0, x5)), (7, (0, x7))] [] K E := fun x5 x7 hn => by
        refine v294_147 (c_fails1 ?_)
        rw [if_neg (by omega)]
        exact hN ⟨hw2, hx⟩ hn
      refine c_within (fun hk => ?_) (fun hk => ?_)
      · rw [if_neg (by omega), w32_id (x := 24 * w) (by omega) (by omega), w32_id (x := 24 * w + k) (by omega) (by omega), wr_ne (show (1994 : Int) ≠ 1977 by omega), wr_ne (show (1995 : Int) ≠ 1977 by omega), wr_ne (show (1980 : Int) ≠ 1977 by omega), wr_ne (show (1988 : Int) ≠ 1977 by omega)]
        obtain ⟨b1, b2, b3⟩ := hsh.2.2.1 k hk.1 (by omega)
        refine ⟨by omega, fun _ => ?_⟩
        rw [← b1]
        rcases b2 with b2 | b2
        · rw [if_pos b2]
          exact v294_72 (no _ _ (fun h => h.1.2.2 b2))
        · rw [if_neg (by omega)]
          have hch := b3 b2
          have hp := hch.1
          have hfa := hsh.2.1 _ hp.1 hp.2.1
          obtain ⟨f1, -, -, -, f5, -, -⟩ := hfa
          rw [hp.2.2, show D (aC w k) 4 + 8 * w = 8 * w + D (aC w k) 4 from by omega, ← f1.1, ← f5.1]
          refine ⟨by omega, by omega, ?_⟩
          have yes : 0 ≤ b → b < bkN D w k → WP sc 294 143 (wr D 1977 0 0) [(0, (1211, 1977)), (3, (0, b)), (4, (0, x)), (5, (0, 24 * w + k)), (7, (0, 8 * w + D (aC w k) 4))] [] K E := fun hb1 hb2 => by
            have hb7 : b < 7 := by
              have : bkN D w k ≤ 7 := by unfold bkN; split; omega; split <;> omega
              omega
            refine v294_143 (c_fails0 ?_)
            rw [if_pos rfl, w32_id (x := 7 * (24 * w + k)) (by omega) (by omega), w32_id (x := 7 * (24 * w + k) + b) (by omega) (by omega), w32_id (x := 6 * (8 * w + D (aC w k) 4)) (by omega) (by omega), w32_id (x := 6 * (8 * w + D (aC w k) 4) + b) (by omega) (by omega)]
            have e0 : ∀ a j, a ≠ 1977 → (wr (wr D 1977 0 0) 1977 0 0) a j = D a j := fun a j h => wr2 _ _ _ _ h
            rw [e0 1980 _ (by omega), e0 1988 _ (by omega), e0 1987 _ (by omega), e0 2002 _ (by omega), e0 2003 _ (by omega), e0 2004 _ (by omega), e0 2005 _ (by omega), e0 2007 _ (by omega), ← f1.1, ← f5.1]
            have hv := hT ⟨hw2, hx⟩ ⟨⟨hk.1, by omega, by omega⟩, hb1, hb2⟩
            have hcnt := hch.2.2.2.2.2.1 b hb1 hb7
            obtain ⟨x1, x2, x3⟩ := hch.2.2.2.2.2.2 b hb1 hb7
            rw [← x1, ← hcnt.1]
            unfold bkV at hv
            split
            · rename_i q0
              rw [if_pos q0] at hv
              refine ⟨by omega, ?_⟩
              split
              · rename_i z
                refine ⟨by omega, ?_⟩
                split
                · rename_i z2; rw [if_pos z2] at hv; rw [← (f5.2.2.2.2.1 b hb1 z2).1]; exact ⟨by omega, hv⟩
                · rename_i z2; rw [if_neg z2] at hv; exact hv
              · rename_i z
                have z3 := f5.2.2.2.1 z
                rw [if_neg (by omega)] at hv
                exact hv
            rename_i q0
            rw [if_neg q0] at hv
            split
            · rename_i q1
              rw [if_pos q1] at hv
              refine ⟨by omega, ?_⟩
              split
              · exact ⟨by omega, hv⟩
              · rename_i z; rw [hcnt.2.2.2 (Or.inl z)] at hv; exact hv
            rename_i q1
            rw [if_neg q1] at hv
            split
            · rename_i q2
              rw [if_pos q2] at hv
              refine ⟨by omega, fun _ => ?_⟩
              split
              · rename_i z; rw [if_pos z] at hv; exact hv
              · rename_i z; rw [if_neg z] at hv; exact hv
            rename_i q2
            rw [if_neg q2] at hv
            split
            · rename_i q3
              rw [if_pos q3] at hv
              refine ⟨by omega, fun _ => ?_⟩
              split
              · rename_i z; rw [(x3 z).1] at hv; exact hv
              · rename_i z; rw [← (x2 (by omega)).1.1]; exact ⟨by omega, hv⟩
            rename_i q3
            rw [if_neg q3] at hv
            split
            · rename_i q4
              rw [if_pos q4] at hv
              refine ⟨by omega, fun _ => ?_⟩
              split
              · rename_i z; rw [(x3 z).2.1] at hv; exact hv
              · rename_i z; rw [← (x2 (by omega)).2.1.1]; exact ⟨by omega, hv⟩
            rename_i q4
            rw [if_neg q4] at hv
            refine ⟨by omega, fun _ => ?_⟩
            split
            · rename_i z; rw [(x3 z).2.2] at hv; exact hv
            · rename_i z; rw [← (x2 (by omega)).2.2.1.1]; exact ⟨by omega, hv⟩
          split
          · rename_i h5
            split
            · rename_i hb0
              exact yes (by omega) (by unfold bkN; rw [if_neg (by omega), if_pos h5]; omega)
            · rename_i hb0
              exact no _ _ (fun h => by have q1 := h.2.1; have q2 := h.2.2; unfold bkN at q2; rw [if_neg (by omega), if_pos h5] at q2; omega)
          · rename_i h5
            refine ⟨by omega, ?_⟩
            split
            · rename_i h52
              refine ⟨by omega, c_within (fun hb => ?_) (fun hb => ?_)⟩
              · rw [if_neg (by omega)]
                exact yes hb.1 (by unfold bkN; rw [if_pos h52]; omega)
              · rw [if_pos rfl]
                exact no _ _ (fun h => hb (by have q1 := h.2.1; have q2 := h.2.2; unfold bkN at q2; rw [if_pos h52] at q2; omega))
            · rename_i h52
              exact no _ _ (fun h => by have q1 := h.2.1; have q2 := h.2.2; unfold bkN at q2; rw [if_neg h52, if_neg h5] at q2; omega)
      · rw [if_pos rfl]
        exact v294_72 (no _ _ (fun h => hk (by have := h.1.1; have := h.1.2.1; omega)))
    · rw [if_pos rfl]
      refine c_fails1 ?_
      rw [if_neg (by omega)]
      exact hF (fun h => hx h.2)
  · rw [if_pos rfl]
    refine c_fails1 ?_
    rw [if_neg (by omega)]
    exact hF (fun h => hw (by have := h.1; omega))
theorem bk_fr {D D' : tD} {w k b x : Int} (hs : w = 0 ∨ w = 1) (hk : 0 ≤ k ∧ k < 24) (hb : 0 ≤ b ∧ b < 7) (hf : 0 ≤ D (aC w k) 4 ∧ D (aC w k) 4 < 9) (h : ∀ a j, depS a j → D' a j = D a j) : bkV D' w k b x = bkV D w k b x ∧ bkN D' w k = bkN D w k := by
  unfold bkV bkN
  rw [h (aC w k) 4 (by unfold depS aC; omega), h (aF w (D (aC w k) 4)) 6 (by unfold depS aF; omega), h (aF w (D (aC w k) 4)) 5 (by unfold depS aF; omega), h (aF w (D (aC w k) 4) + 7) b (by unfold depS aF; omega), h (aC w k + 4) b (by unfold depS aC; omega), h (aX w k b) 1 (by unfold depS aX; omega), h (aX w k b) 2 (by unfold depS aX; omega), h (aX w k b) 3 (by unfold depS aX; omega), h (aX w k b + 2) 1 (by unfold depS aX; omega)]
  exact ⟨rfl, rfl⟩
theorem bkC_fr {D D' : tD} {w k b : Int} (hs : w = 0 ∨ w = 1) (hsh : shR c D w) (h : ∀ a j, depS a j → D' a j = D a j) : bkC D' w k b ↔ bkC D w k b := by
  have hn := hsh.1
  unfold bkC
  rw [chC_fr hs h]
  have key : chC D w k → bkN D' w k = bkN D w k := fun hk => by
    obtain ⟨b1, b2, b3⟩ := hsh.2.2.1 k hk.1 hk.2.1
    have hp := (b3 (by have := hk.2.2; omega)).1
    exact (bk_fr (b := 0) (x := 0) hs ⟨hk.1, hk.2.1⟩ (by omega) (by omega) h).2
  constructor
  · rintro ⟨a, b, d⟩
    rw [key a] at d
    exact ⟨a, b, d⟩
  · rintro ⟨a, b, d⟩
    exact ⟨a, b, by rw [key a]; exact d⟩
theorem l_bucket (hR : RL RSc D c) (hc : c < 600) (hi : 0 ≤ i ∧ i + 5 ≤ (sc.1 : Int) ∧ (sc.1 : Int) ≤ 2560) (hgo : ∀ D', RL RSc D' (c + 1) → WP sc 317 1610 D' (LV i) [] K E) : WP sc 317 1519 D (LV i) [] K E := by
  have r6 := hR.2.2.2.2.2.1
  have r8 := hR.2.2.2.2.2.2.2
  refine v317_1519 ?_
  rw [w32_id (x := i + 1) (by omega) (by omega), w32_id (x := i + 2) (by omega) (by omega), w32_id (x := i + 3) (by omega) (by omega), w32_id (x := i + 4) (by omega) (by omega)]
  refine ⟨by omega, fun hx => ⟨by omega, fun hy => ⟨by omega, fun hz => ⟨by omega, fun hu => v316_0 (c_bucket r8.1 r8.2.1 (fun h1 h2 => ?_) (fun h => ?_) (fun h1 h2 => ?_))⟩⟩⟩⟩
  · have hsh := shR_of r8.1 r8.2.1 h1.1
    have hn := hsh.1
    refine ⟨by decide +kernel, by omega, fun _ => ⟨by omega, fun _ => ⟨by omega, fun _ => ⟨by omega, fun _ => ?_⟩⟩⟩⟩
    refine m_bucket (c := c + 1) hy (shR_fr (Or.inl rfl) (by omega) (fr_out _) r8.1) (shR_fr (Or.inr rfl) (by omega) (fr_out _) r8.2.1) (fun _ _ => ?_) (fun h3 => absurd h1 h3) (fun _ h3 => absurd ((bkC_fr h1.1 hsh (fr_out _)).mpr h2) h3)
    refine tail_r wr_self (fun _ => ?_) (hgo _ (RL_ask2 hR hc))
    obtain ⟨b1, b2, b3⟩ := hsh.2.2.1 _ h2.1.1 h2.1.2.1
    have hch := b3 (by have := h2.1.2.2; omega)
    have hp := hch.1
    have h6 := (hsh.2.1 _ hp.1 hp.2.1).2.2.2.2.1
    rw [wr_ne (by omega), wr_ne (by omega), wr_self, (bk_fr h1.1 ⟨h2.1.1, h2.1.2.1⟩ (by
      have q1 := h2.2.1
      have q2 := h2.2.2
      unfold bkN at q2
      refine ⟨q1, ?_⟩
      split at q2
      · omega
      · split at q2 <;> omega) (by omega) (fr_out _)).1]
  · refine ⟨by omega, ?_⟩
    rw [if_pos rfl]
    refine ⟨by omega, fun _ => ⟨by omega, fun _ => ⟨by omega, fun _ => ⟨by omega, fun _ => ?_⟩⟩⟩⟩
    refine m_bucket (c := c + 1) hy (shR_fr (Or.inl rfl) (by omega) fr_bump r8.1) (shR_fr (Or.inr rfl) (by omega) fr_bump r8.2.1) (fun h3 _ => absurd h3 h) (fun _ => ?_) (fun h3 _ => absurd h3 h)
    exact tail_r wr_self (fun h => by omega) (hgo _ (RL_thr hR hc))
  · have hsh := shR_of r8.1 r8.2.1 h1.1
    refine ⟨by omega, ?_⟩
    rw [if_neg (by omega), if_pos rfl]
    refine ⟨by omega, fun _ => ⟨by omega, fun _ => ⟨by omega, fun _ => ⟨by omega, fun _ => ?_⟩⟩⟩⟩
    refine m_bucket (c := c + 1) hy (shR_fr (Or.inl rfl) (by omega) fr_bump r8.1) (shR_fr (Or.inr rfl) (by omega) fr_bump r8.2.1) (fun _ h3 => absurd ((bkC_fr h1.1 hsh fr_bump).mp h3) h2) (fun h3 => absurd h1 h3) (fun _ _ => ?_)
    exact tail_r wr_self (fun h => by omega) (hgo _ (RL_thr2 hR hc))
end BUK
