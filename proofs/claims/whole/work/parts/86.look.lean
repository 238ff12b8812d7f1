/-! the law's loop: cap, look, familyOf -/
section LOOK
variable {sc : Nat × (Nat → Int32)} {D : tD} {K : tD → Int → Prop} {E : tD → Nat → Prop} {s c i : Int}
/-- how many exemplars a child has, a sheet has -/
def exN (D : tD) (s k : Int) : Int := sm (fun b => if D (aX s k b) 1 = 0 then 0 else 1) 7
def exA (D : tD) (s : Int) : Int := sm (fun k => if D (aC s k) 3 = 0 then 0 else exN D s k) 24
theorem exN_b (D : tD) (s k : Int) : 0 ≤ exN D s k ∧ exN D s k ≤ 7 := by
  have := sm_bound (g := fun b => if D (aX s k b) 1 = 0 then 0 else 1) (a := 0) (b := 1) (n := 7) (fun k _ _ => by split <;> omega)
  unfold exN
  omega
theorem c_exN1 {k : Int} (hs : s = 0 ∨ s = 1) (hk : 0 ≤ k ∧ k < 24) (hK : K D (exN D s k)) : ∀ (q b : Nat), q + b = 7 → WP sc 38 4 D [(0, (1201, aC s k)), (1, (0, sm (fun b => if D (aX s k b) 1 = 0 then 0 else 1) b)), (2, (0, (b : Nat)))] [] K E := by
  have hl := ln_exs hs hk
  intro q
  induction q with
  | zero =>
    intro b hb
    have e : b = 7 := by omega
    subst e
    refine v38_4 ?_
    rw [if_neg (by omega)]
    exact hK
  | succ q ih =>
    intro b hb
    have hb2 := sm_bound (g := fun b => if D (aX s k b) 1 = 0 then 0 else 1) (a := 0) (b := 1) (n := b) (fun k _ _ => by split <;> omega)
    have h1 := ih (b + 1) (by omega)
    rw [sm_succ] at h1
    rw [show (((b + 1 : Nat)) : Int) = (b : Nat) + 1 from by omega] at h1
    refine v38_4 ?_
    rw [show aC s k + 5 + 1 + 4 * ((b : Nat) : Int) = aX s k (b : Nat) from by unfold aC aX; omega, if_pos (by omega), w32_id (x := ((b : Nat) : Int) + 1) (by omega) (by omega)]
    refine ⟨by omega, fun _ => ?_⟩
    rw [w32_id (x := _ + 0) (by omega) (by omega), w32_id (x := _ + 1) (by omega) (by omega)]
    split
    · rename_i h0
      rw [if_pos h0] at h1
      exact h1
    · rename_i h0
      rw [if_neg h0] at h1
      exact h1
theorem c_exN {k : Int} (hs : s = 0 ∨ s = 1) (hk : 0 ≤ k ∧ k < 24) (hK : K D (exN D s k)) : WP sc 38 0 D [(0, (1201, aC s k))] [] K E := v38_0 (c_exN1 hs hk hK 7 0 (by omega))
theorem c_exA1 (hs : s = 0 ∨ s = 1) (hK : K D (exA D s)) : ∀ (q k : Nat), q + k = 24 → WP sc 119 4 D [(0, (1208, 5 + 975 * s)), (1, (0, sm (fun k => if D (aC s k) 3 = 0 then 0 else exN D s k) k)), (2, (0, (k : Nat)))] [] K E := by
  have hl := ln_chs hs
  intro q
  induction q with
  | zero =>
    intro k hk
    have e : k = 24 := by omega
    subst e
    refine v119_4 ?_
    rw [if_neg (by omega)]
    exact hK
  | succ q ih =>
    intro k hk
    have hb := sm_bound (g := fun k => if D (aC s k) 3 = 0 then 0 else exN D s k) (a := 0) (b := 7) (n := k) (fun k _ _ => by have := exN_b D s k; split <;> omega)
    have hx := exN_b D s (k : Nat)
    have h1 := ih (k + 1) (by omega)
    rw [sm_succ] at h1
    rw [show (((k + 1 : Nat)) : Int) = (k : Nat) + 1 from by omega] at h1
    refine v119_4 ?_
    rw [show 5 + 975 * s + 155 + 1 + 34 * ((k : Nat) : Int) = aC s (k : Nat) from by unfold aC; omega, if_pos (by omega), w32_id (x := ((k : Nat) : Int) + 1) (by omega) (by omega)]
    refine ⟨by omega, fun _ => ?_⟩
    rw [w32_id (x := _ + 0) (by omega) (by omega)]
    split
    · rename_i h0
      rw [if_pos h0] at h1
      exact h1
    · rename_i h0
      rw [if_neg h0] at h1
      refine ⟨by omega, c_exN hs (by omega) ?_⟩
      rw [w32_id (by omega) (by omega)]
      exact h1
theorem c_exA (hs : s = 0 ∨ s = 1) (hK : K D (exA D s)) : WP sc 119 0 D [(0, (1208, 5 + 975 * s))] [] K E := v119_0 (c_exA1 hs hK 24 0 (by omega))
/-- the model's count of exemplars -/
theorem c_mex (hs : s = 0 ∨ s = 1) (h : shR c D s) (hK : K D (exA D s)) : ∀ (q k : Nat), q + k = 24 → WP sc 291 67 D [(0, (1211, 1977)), (1, (0, s)), (3, (0, sm (fun k => if D (aC s k) 3 = 0 then 0 else exN D s k) k)), (4, (0, 24 * s + (k : Nat)))] [] K E := by
  intro q
  induction q with
  | zero =>
    intro k hk
    have e : k = 24 := by omega
    subst e
    refine v291_67 ?_
    rw [w32_id (x := 24 * s) (by omega) (by omega), w32_id (by omega) (by omega), if_neg (by omega)]
    exact hK
  | succ q ih =>
    intro k hk
    have hb := sm_bound (g := fun k => if D (aC s k) 3 = 0 then 0 else exN D s k) (a := 0) (b := 7) (n := k) (fun k _ _ => by have := exN_b D s k; split <;> omega)
    have h1 := ih (k + 1) (by omega)
    rw [sm_succ] at h1
    rw [show 24 * s + (((k + 1 : Nat)) : Int) = 24 * s + (k : Nat) + 1 from by omega] at h1
    obtain ⟨b1, b2, b3⟩ := h.2.2.1 (k : Nat) (by omega) (by omega)
    generalize sm (fun k => if D (aC s k) 3 = 0 then 0 else exN D s k) k = t at hb h1 ⊢
    have inn : ∀ (r b : Nat), r + b = 7 → WP sc 291 86 D [(0, (1211, 1977)), (1, (0, s)), (3, (0, t + (if D (aC s (k : Nat)) 3 = 0 then 0 else sm (fun b => if D (aX s (k : Nat) b) 1 = 0 then 0 else 1) b))), (4, (0, 24 * s + (k : Nat))), (5, (0, 7 * (24 * s + (k : Nat)) + (b : Nat)))] [] K E := by
      intro r
      induction r with
      | zero =>
        intro b hbb
        have e : b = 7 := by omega
        subst e
        refine v291_86 ?_
        rw [w32_id (x := 7 * (24 * s + (k : Nat))) (by omega) (by omega), w32_id (x := 7 * (24 * s + (k : Nat)) + 7) (by omega) (by omega), if_neg (by omega), w32_id (x := 24 * s + (k : Nat) + 1) (by omega) (by omega)]
        exact h1
      | succ r ih2 =>
        intro b hbb
        have h2 := ih2 (b + 1) (by omega)
        rw [sm_succ, show 7 * (24 * s + (k : Nat)) + (((b + 1 : Nat)) : Int) = 7 * (24 * s + (k : Nat)) + (b : Nat) + 1 from by omega] at h2
        have hb2 := sm_bound (g := fun b => if D (aX s (k : Nat) b) 1 = 0 then 0 else 1) (a := 0) (b := 1) (n := b) (fun k _ _ => by split <;> omega)
        refine v291_86 ?_
        rw [w32_id (x := 7 * (24 * s + (k : Nat))) (by omega) (by omega), w32_id (x := 7 * (24 * s + (k : Nat)) + 7) (by omega) (by omega), if_pos (by omega), w32_id (x := 7 * (24 * s + (k : Nat)) + (b : Nat) + 1) (by omega) (by omega), ← b1]
        refine ⟨by omega, fun _ => ?_⟩
        generalize sm (fun b => if D (aX s (k : Nat) b) 1 = 0 then 0 else 1) b = u at hb2 h2 ⊢
        rcases b2 with b2 | b2
        · simp only [b2, ↓reduceIte] at h2 ⊢
          rw [w32_id (by omega) (by omega), Int.add_zero]
          exact h2
        · have hx := ((b3 b2).2.2.2.2.2.2 (b : Nat) (by omega) (by omega)).1
          simp only [b2, show ((1 : Int) = 0) = False from by simp, ↓reduceIte] at h2 ⊢
          refine ⟨by omega, fun _ => ?_⟩
          rw [w32_id (x := t + u + 0) (by omega) (by omega), w32_id (x := t + u + 1) (by omega) (by omega), ← hx]
          split
          · rename_i h0
            rw [if_pos h0] at h2
            rw [show t + u + 0 = t + (u + 0) from by omega]
            exact h2
          · rename_i h0
            rw [if_neg h0] at h2
            rw [show t + u + 1 = t + (u + 1) from by omega]
            exact h2
    refine v291_67 ?_
    rw [w32_id (x := 24 * s) (by omega) (by omega), w32_id (x := 24 * s + 24) (by omega) (by omega), if_pos (by omega), w32_id (x := 7 * (24 * s + (k : Nat))) (by omega) (by omega)]
    have h3 := inn 7 0 (by omega)
    rw [show t + (if D (aC s (k : Nat)) 3 = 0 then 0 else sm (fun b => if D (aX s (k : Nat) b) 1 = 0 then 0 else 1) 0) = t from by
      show t + (if D (aC s (k : Nat)) 3 = 0 then 0 else 0) = t
      split <;> omega, show 7 * (24 * s + (k : Nat)) + ((0 : Nat) : Int) = 7 * (24 * s + (k : Nat)) from by omega] at h3
    exact h3
/-- the model's count of children -/
theorem c_mchIn (hs : s = 0 ∨ s = 1) (h : shR c D s) (hK : K D (D (5 + 975 * s) 5)) : WP sc 202 0 D [(0, (1211, 1977)), (1, (0, s))] [] K E := by
  have e24 := h.2.2.2.1.2.2
  have go : ∀ (q k : Nat), q + k = 24 → WP sc 202 7 D [(0, (1211, 1977)), (1, (0, s)), (2, (0, sm (fun k => D (aC s k) 3) k)), (3, (0, 24 * s + (k : Nat)))] [] K E := by
    intro q
    induction q with
    | zero =>
      intro k hk
      have e : k = 24 := by omega
      subst e
      refine v202_7 ?_
      rw [w32_id (x := 24 * s) (by omega) (by omega), w32_id (by omega) (by omega), if_neg (by omega), e24]
      exact hK
    | succ q ih =>
      intro k hk
      have hb := sm_bound (g := fun k => D (aC s k) 3) (a := 0) (b := 1) (n := k) (fun k x y => by have := (h.2.2.1 k x (by omega)).2.1; omega)
      have h1 := ih (k + 1) (by omega)
      rw [sm_succ, show 24 * s + (((k + 1 : Nat)) : Int) = 24 * s + (k : Nat) + 1 from by omega] at h1
      obtain ⟨b1, b2, b3⟩ := h.2.2.1 (k : Nat) (by omega) (by omega)
      refine v202_7 ?_
      rw [w32_id (x := 24 * s) (by omega) (by omega), w32_id (x := 24 * s + 24) (by omega) (by omega), if_pos (by omega), w32_id (x := 24 * s + (k : Nat) + 1) (by omega) (by omega), ← b1]
      refine ⟨by omega, fun _ => ?_⟩
      rw [w32_id (x := _ + 0) (by omega) (by omega), w32_id (x := _ + 1) (by omega) (by omega)]
      rcases b2 with b2 | b2
      · rw [if_pos b2]
        rw [b2] at h1
        exact h1
      · rw [if_neg (by omega)]
        rw [b2] at h1
        exact h1
  refine v202_0 ?_
  have h0 := go 24 0 (by omega)
  rw [show 24 * s + ((0 : Nat) : Int) = 24 * s from by omega] at h0
  rw [w32_id (x := 24 * s) (by omega) (by omega)]
  exact h0
theorem sheetEq {w : Int} (h : w = 0 ∨ w = 1) (hK0 : K D (5 + 975 * w)) : WP sc 27 0 D [(0, (1200, 0)), (1, (0, w))] [] K E := by
  refine v27_0 ?_
  rcases h with rfl | rfl
  · rw [if_pos rfl]; exact hK0
  · rw [if_neg (by omega), if_pos rfl]; exact hK0
theorem sheetNe {w : Int} (h : ¬ (w = 0 ∨ w = 1)) (hK0 : K D (-1)) : WP sc 27 0 D [(0, (1200, 0)), (1, (0, w))] [] K E := by
  refine v27_0 ?_
  rw [if_neg (by omega), if_neg (by omega)]
  exact hK0
abbrev bump (D : tD) : tD := wr D (-1) 0 (D (-1) 0 + 1)
/-- look: the one side -/
def lookV (D : tD) (w x : Int) : Int := if x = 0 then D (5 + 975 * w) 4 else if x = 1 then D (5 + 975 * w) 5 else exA D w
theorem exA_fr {D D' : tD} (hs : s = 0 ∨ s = 1) (h : ∀ a j, depS a j → D' a j = D a j) : exA D' s = exA D s := by
  unfold exA exN
  refine sm_ext (fun k _ _ => ?_)
  have e : sm (fun b => if D' (aX s k b) 1 = 0 then 0 else 1) 7 = sm (fun b => if D (aX s k b) 1 = 0 then 0 else 1) 7 := sm_ext (fun b _ _ => by rw [h _ _ (by unfold depS aX; omega)])
  rw [h _ _ (by unfold depS aC; omega), e]
theorem lookV_fr {D D' : tD} {w x : Int} (hs : w = 0 ∨ w = 1) (h : ∀ a j, depS a j → D' a j = D a j) : lookV D' w x = lookV D w x := by
  unfold lookV
  rw [h _ _ (by unfold depS; omega), h _ _ (by unfold depS; omega), exA_fr hs h]
theorem c_look {w x : Int} (hT : (w = 0 ∨ w = 1) ∧ 0 ≤ x ∧ x ≤ 2 → K D (lookV D w x)) (hF : ¬ ((w = 0 ∨ w = 1) ∧ 0 ≤ x ∧ x ≤ 2) → D (-1) 0 < 599000 ∧ E (bump D) 90) : WP sc 22 0 D [(0, (1200, 0)), (1, (0, w)), (2, (0, x))] [] K E := by
  refine v22_0 ?_
  by_cases hw : w = 0 ∨ w = 1
  · refine sheetEq hw ?_
    rw [if_neg (by omega)]
    split
    · exact hF (by omega)
    split
    · exact hF (by omega)
    · have := hT ⟨hw, by omega, by omega⟩
      unfold lookV at this
      split
      · rename_i h0
        rw [if_pos h0] at this
        exact this
      · rename_i h0
        rw [if_neg h0] at this
        split
        · rename_i h1
          rw [if_pos h1] at this
          exact this
        · rename_i h1
          rw [if_neg h1] at this
          exact c_exA hw this
  · refine sheetNe hw ?_
    rw [if_pos rfl]
    exact hF (fun h => hw h.1)
/-- look: the other side -/
theorem m_look {w x : Int} (h0 : shR c D 0) (h1 : shR c D 1) (hT : (w = 0 ∨ w = 1) ∧ 0 ≤ x ∧ x ≤ 2 → K (wr D 1977 0 0) (lookV D w x)) (hF : ¬ ((w = 0 ∨ w = 1) ∧ 0 ≤ x ∧ x ≤ 2) → K (wr D 1977 0 1) 0) : WP sc 291 0 D [(0, (1211, 1977)), (1, (0, w)), (2, (0, x))] [] K E := by
  refine v291_0 (c_within (fun hw => ?_) (fun hw => ?_))
  · rw [if_neg (by omega)]
    refine c_within (fun hx => ?_) (fun hx => ?_)
    · rw [if_neg (by omega)]
      refine c_fails0 ?_
      rw [if_pos rfl]
      have hw2 : w = 0 ∨ w = 1 := by omega
      have hsh : shR c D w := by rcases hw2 with rfl | rfl; exact h0; exact h1
      have hsh2 : shR (c + 1) (wr D 1977 0 0) w := shR_fr hw2 (by omega) (fun a j h => by unfold depS at h; simp only [wr]; rw [if_neg (by omega)]) hsh
      have := hT ⟨hw2, hx⟩
      unfold lookV at this
      split
      · rename_i q
        rw [if_pos q] at this
        refine ⟨by omega, ?_⟩
        rw [wr_ne (by omega), ← hsh.1.1]
        exact this
      · rename_i q
        rw [if_neg q] at this
        split
        · rename_i q2
          rw [if_pos q2] at this
          refine c_mchIn hw2 hsh2 ?_
          rw [wr_ne (by omega)]
          exact this
        · rename_i q2
          rw [if_neg q2] at this
          rw [w32_id (by omega) (by omega)]
          have h3 := c_mex (sc := sc) (K := K) (E := E) hw2 hsh2 (by
            rw [exA_fr hw2 (D := D) (fun a j h => by unfold depS at h; simp only [wr]; rw [if_neg (by omega)])]
            exact this) 24 0 (by omega)
          rw [show 24 * w + ((0 : Nat) : Int) = 24 * w from by omega] at h3
          exact h3
    · rw [if_pos rfl]
      refine c_fails1 ?_
      rw [if_neg (by omega)]
      exact hF (fun h => hx h.2)
  · rw [if_pos rfl]
    refine c_fails1 ?_
    rw [if_neg (by omega)]
    exact hF (by omega)
theorem l_look (hR : RL RSc D c) (hc : c < 600) (hi : 0 ≤ i ∧ i + 5 ≤ (sc.1 : Int) ∧ (sc.1 : Int) ≤ 2560) (hgo : ∀ D', RL RSc D' (c + 1) → WP sc 317 1610 D' (LV i) [] K E) : WP sc 317 1292 D (LV i) [] K E := by
  have r6 := hR.2.2.2.2.2.1
  have r8 := hR.2.2.2.2.2.2.2
  refine v317_1292 ?_
  rw [w32_id (x := i + 1) (by omega) (by omega), w32_id (x := i + 2) (by omega) (by omega)]
  refine ⟨by omega, fun hx => ⟨by omega, fun hy => v313_0 (c_look (fun h => ?_) (fun h => ?_))⟩⟩
  · refine ⟨by decide +kernel, by omega, fun _ => ⟨by omega, fun _ => ?_⟩⟩
    have fr : ∀ a j, depS a j → (wr D 2017 0 (lookV D (tsv sc (i + 1)) (tsv sc (i + 2)))) a j = D a j := fun a j h => by unfold depS at h; exact wr_ne (by omega)
    refine m_look (c := c + 1) (shR_fr (Or.inl rfl) (by omega) fr r8.1) (shR_fr (Or.inr rfl) (by omega) fr r8.2.1) (fun _ => ?_) (fun h2 => absurd h h2)
    refine tail_r wr_self (fun _ => ?_) (hgo _ (RL_frame RSc_dep hR hc (Or.inl (by simp [wr])) (fun a j h => ?_)))
    · rw [wr_ne (by omega), wr_self, lookV_fr h.1 fr]
    · unfold depA depS at h
      simp only [wr]
      rw [if_neg (by omega), if_neg (by omega)]
  · refine ⟨by omega, ?_⟩
    rw [if_pos rfl]
    refine ⟨by omega, fun _ => ⟨by omega, fun _ => ?_⟩⟩
    have fr : ∀ a j, depS a j → (bump D) a j = D a j := fun a j h => by unfold depS at h; exact wr_ne (by omega)
    refine m_look (c := c + 1) (shR_fr (Or.inl rfl) (by omega) fr r8.1) (shR_fr (Or.inr rfl) (by omega) fr r8.2.1) (fun h2 => absurd h2 h) (fun _ => ?_)
    refine tail_r wr_self (fun h => by omega) (hgo _ (RL_frame RSc_dep hR hc (Or.inr (by simp [wr])) (fun a j h => ?_)))
    unfold depA depS at h
    simp only [wr]
    rw [if_neg (by omega), if_neg (by omega)]
end LOOK
