/-! the law's loop: familyOf, childOf, cap -/
section FOF
variable {sc : Nat × (Nat → Int32)} {D : tD} {K : tD → Int → Prop} {E : tD → Nat → Prop} {s c i : Int}
theorem tia1 {w : Int} (h : w = 0 ∨ w = 1) : tia w 1 = w := by rcases h with rfl | rfl <;> rfl
theorem nch_fr {D D' : tD} {f : Int} (hs : s = 0 ∨ s = 1) (h : ∀ a j, depS a j → D' a j = D a j) : nch D' s f = nch D s f := by
  unfold nch
  refine sm_ext (fun k _ _ => ?_)
  rw [h _ _ (by unfold depS aC; omega), h (aC s k) 4 (by unfold depS aC; omega)]
theorem shR_of {w : Int} (h0 : shR c D 0) (h1 : shR c D 1) (hw : w = 0 ∨ w = 1) : shR c D w := by
  rcases hw with rfl | rfl
  · exact h0
  · exact h1
theorem fr_thr (t : Int) : ∀ a j, depS a j → (wr D 1977 0 t) a j = D a j := fun a j h => by
  unfold depS at h
  simp only [wr]
  rw [if_neg (by omega)]
theorem fr_out (t : Int) : ∀ a j, depS a j → (wr D 2017 0 t) a j = D a j := fun a j h => by
  unfold depS at h
  exact wr_ne (by omega)
theorem fr_bump : ∀ a j, depS a j → (bump D) a j = D a j := fun a j h => by
  unfold depS at h
  exact wr_ne (by omega)
/-- a call that only asks: the answer stands -/
theorem RL_ask {t v : Int} (hR : RL RSc D c) (hc : c < 600) : RL RSc (wr (wr D 2017 0 v) 1977 0 t) (c + 1) := RL_frame RSc_dep hR hc (Or.inl (by simp [wr])) (fun a j h => by
  unfold depA depS at h
  simp only [wr]
  rw [if_neg (by omega), if_neg (by omega)])
/-- a call that throws and leaves all -/
theorem RL_thr {t : Int} (hR : RL RSc D c) (hc : c < 600) : RL RSc (wr (bump D) 1977 0 t) (c + 1) := RL_frame RSc_dep hR hc (Or.inr (by simp [wr])) (fun a j h => by
  unfold depA depS at h
  simp only [wr]
  rw [if_neg (by omega), if_neg (by omega)])
def famV (D : tD) (w f x : Int) : Int := if x = 0 then D (aF w f) 5 else if x = 1 then nch D w f else if x = 2 then D (aF w f + 1) 1 else if x = 3 then D (aF w f + 3) 1 else if x = 4 then D (aF w f + 5) 1 else if x = 5 then D (aF w f) 6 else D (aF w f) 7
def famC (D : tD) (w f x : Int) : Prop := (w = 0 ∨ w = 1) ∧ (0 ≤ f ∧ f < D (5 + 975 * w) 4) ∧ 0 ≤ x ∧ x ≤ 6
theorem c_famOf {w f x : Int} (h0 : shR c D 0) (h1 : shR c D 1) (hT : famC D w f x → K D (famV D w f x)) (hF : ¬ famC D w f x → D (-1) 0 < 599000 ∧ E (bump D) 90) : WP sc 23 0 D [(0, (1200, 0)), (1, (0, w)), (2, (0, f)), (3, (0, x))] [] K E := by
  refine v23_0 ?_
  by_cases hw : w = 0 ∨ w = 1
  · have hsh := shR_of h0 h1 hw
    refine sheetEq hw ?_
    rw [if_neg (by omega)]
    refine c_famAt hw hsh.1.2.2 (fun hf => ?_) (fun hf => ?_)
    · rw [if_neg (by unfold aF; omega)]
      split
      · exact hF (fun h => by have := h.2.2; omega)
      split
      · exact hF (fun h => by have := h.2.2; omega)
      have hv := hT ⟨hw, hf, by omega, by omega⟩
      unfold famV at hv
      split
      · rename_i q0
        rw [if_pos q0] at hv
        exact hv
      rename_i q0
      rw [if_neg q0] at hv
      split
      · rename_i q1
        rw [if_pos q1] at hv
        exact c_chOf hw hv
      rename_i q1
      rw [if_neg q1] at hv
      split
      · rename_i q2
        rw [if_pos q2] at hv
        exact hv
      rename_i q2
      rw [if_neg q2] at hv
      split
      · rename_i q3
        rw [if_pos q3] at hv
        exact hv
      rename_i q3
      rw [if_neg q3] at hv
      split
      · rename_i q4
        rw [if_pos q4] at hv
        exact hv
      rename_i q4
      rw [if_neg q4] at hv
      split
      · rename_i q5
        rw [if_pos q5] at hv
        exact hv
      rename_i q5
      rw [if_neg q5] at hv
      exact hv
    · rw [if_pos rfl]
      exact hF (fun h => hf h.2.1)
  · refine sheetNe hw ?_
    rw [if_pos rfl]
    exact hF (fun h => hw h.1)
theorem m_famOf {w f x : Int} (h0 : shR c D 0) (h1 : shR c D 1) (hT : famC D w f x → K (wr D 1977 0 0) (famV D w f x)) (hF : ¬ famC D w f x → K (wr D 1977 0 1) 0) : WP sc 292 0 D [(0, (1211, 1977)), (1, (0, w)), (2, (0, f)), (3, (0, x))] [] K E := by
  refine v292_0 (c_within (fun hw => ?_) (fun hw => ?_))
  · have hw2 : w = 0 ∨ w = 1 := by omega
    have hsh := shR_of h0 h1 hw2
    have hn := hsh.1
    rw [if_neg (by omega), tia1 hw2]
    refine ⟨by omega, ?_⟩
    rw [w32_id (x := D 1979 w - 1) (by omega) (by omega)]
    refine c_within (fun hf => ?_) (fun hf => ?_)
    · rw [if_neg (by omega)]
      refine c_within (fun hx => ?_) (fun hx => ?_)
      · rw [if_neg (by omega)]
        refine c_fails0 ?_
        rw [if_pos rfl, w32_id (x := 8 * w) (by omega) (by omega), w32_id (x := 8 * w + f) (by omega) (by omega)]
        have hv := hT ⟨hw2, by omega, hx⟩
        obtain ⟨a1, ⟨a2, -⟩, a4, ⟨a5, -⟩, a7, a8, -⟩ := hsh.2.1 f (by omega) (by omega)
        unfold famV at hv
        split
        · rename_i q0
          rw [if_pos q0] at hv
          refine ⟨by omega, ?_⟩
          rw [wr_ne (by omega), ← a1.1]
          exact hv
        rename_i q0
        rw [if_neg q0] at hv
        split
        · rename_i q1
          rw [if_pos q1] at hv
          refine c_mchOf ?_
          rw [mch_eq (c := c + 1) hw2 (shR_fr (Or.inl rfl) (by omega) (fr_thr _) h0) (shR_fr (Or.inr rfl) (by omega) (fr_thr _) h1) (by omega), nch_fr hw2 (fr_thr _)]
          exact hv
        rename_i q1
        rw [if_neg q1] at hv
        split
        · rename_i q2
          rw [if_pos q2] at hv
          refine ⟨by omega, ?_⟩
          rw [wr_ne (by omega), ← a2.1]
          exact hv
        rename_i q2
        rw [if_neg q2] at hv
        split
        · rename_i q3
          rw [if_pos q3] at hv
          refine ⟨by omega, ?_⟩
          rw [wr_ne (by omega), ← a4.1]
          exact hv
        rename_i q3
        rw [if_neg q3] at hv
        split
        · rename_i q4
          rw [if_pos q4] at hv
          refine ⟨by omega, ?_⟩
          rw [wr_ne (by omega), ← a5.1]
          exact hv
        rename_i q4
        rw [if_neg q4] at hv
        split
        · rename_i q5
          rw [if_pos q5] at hv
          refine ⟨by omega, ?_⟩
          rw [wr_ne (by omega), ← a7.1]
          exact hv
        rename_i q5
        rw [if_neg q5] at hv
        refine ⟨by omega, ?_⟩
        rw [wr_ne (by omega), ← a8.1]
        exact hv
      · rw [if_pos rfl]
        refine c_fails1 ?_
        rw [if_neg (by omega)]
        exact hF (fun h => hx h.2.2)
    · rw [if_pos rfl]
      refine c_fails1 ?_
      rw [if_neg (by omega)]
      exact hF (fun h => hf (by have := h.2.1; omega))
  · rw [if_pos rfl]
    refine c_fails1 ?_
    rw [if_neg (by omega)]
    exact hF (fun h => hw (by have := h.1; omega))
theorem famV_fr {D D' : tD} {w f x : Int} (hs : w = 0 ∨ w = 1) (hf : 0 ≤ f ∧ f < 9) (h : ∀ a j, depS a j → D' a j = D a j) : famV D' w f x = famV D w f x := by
  unfold famV
  rw [h (aF w f) 5 (by unfold depS aF; omega), h (aF w f + 1) 1 (by unfold depS aF; omega), h (aF w f + 3) 1 (by unfold depS aF; omega), h (aF w f + 5) 1 (by unfold depS aF; omega), h (aF w f) 6 (by unfold depS aF; omega), h (aF w f) 7 (by unfold depS aF; omega), nch_fr hs h]
theorem famC_fr {D D' : tD} {w f x : Int} (h : ∀ a j, depS a j → D' a j = D a j) : famC D' w f x ↔ famC D w f x := by
  unfold famC
  by_cases hs : w = 0 ∨ w = 1
  · rw [h (5 + 975 * w) 4 (by unfold depS; omega)]
  · constructor
    · intro q; exact absurd q.1 hs
    · intro q; exact absurd q.1 hs
theorem l_famOf (hR : RL RSc D c) (hc : c < 600) (hi : 0 ≤ i ∧ i + 5 ≤ (sc.1 : Int) ∧ (sc.1 : Int) ≤ 2560) (hgo : ∀ D', RL RSc D' (c + 1) → WP sc 317 1610 D' (LV i) [] K E) : WP sc 317 1360 D (LV i) [] K E := by
  have r6 := hR.2.2.2.2.2.1
  have r8 := hR.2.2.2.2.2.2.2
  refine v317_1360 ?_
  rw [w32_id (x := i + 1) (by omega) (by omega), w32_id (x := i + 2) (by omega) (by omega), w32_id (x := i + 3) (by omega) (by omega)]
  refine ⟨by omega, fun hx => ⟨by omega, fun hy => ⟨by omega, fun hz => v314_0 (c_famOf r8.1 r8.2.1 (fun h => ?_) (fun h => ?_))⟩⟩⟩
  · refine ⟨by decide +kernel, by omega, fun _ => ⟨by omega, fun _ => ⟨by omega, fun _ => ?_⟩⟩⟩
    refine m_famOf (c := c + 1) (shR_fr (Or.inl rfl) (by omega) (fr_out _) r8.1) (shR_fr (Or.inr rfl) (by omega) (fr_out _) r8.2.1) (fun _ => ?_) (fun h2 => absurd ((famC_fr (fr_out _)).mpr h) h2)
    refine tail_r wr_self (fun _ => ?_) (hgo _ (RL_ask hR hc))
    have h8 := (shR_of r8.1 r8.2.1 h.1).1
    rw [wr_ne (by omega), wr_self, famV_fr h.1 (by have := h.2.1; omega) (fr_out _)]
  · refine ⟨by omega, ?_⟩
    rw [if_pos rfl]
    refine ⟨by omega, fun _ => ⟨by omega, fun _ => ⟨by omega, fun _ => ?_⟩⟩⟩
    refine m_famOf (c := c + 1) (shR_fr (Or.inl rfl) (by omega) fr_bump r8.1) (shR_fr (Or.inr rfl) (by omega) fr_bump r8.2.1) (fun h2 => absurd ((famC_fr fr_bump).mp h2) h) (fun _ => ?_)
    exact tail_r wr_self (fun h => by omega) (hgo _ (RL_thr hR hc))
/-- the number of observations of a child -/
def obs (D : tD) (s k : Int) : Int := sm (fun b => D (aC s k + 4) b) 7
theorem c_obs {k : Int} (hs : s = 0 ∨ s = 1) (hk : 0 ≤ k ∧ k < 24) (hb : ∀ b, 0 ≤ b → b < 7 → 0 ≤ D (aC s k + 4) b ∧ D (aC s k + 4) b ≤ 1000000001000) (hK : K D (obs D s k)) : WP sc 37 0 D [(0, (1201, aC s k))] [] K E := by
  have hl := ln_cnt hs hk
  have go : ∀ (q b : Nat), q + b = 7 → WP sc 37 4 D [(0, (1201, aC s k)), (1, (1, sm (fun b => D (aC s k + 4) b) b)), (3, (0, (b : Nat)))] [] K E := by
    intro q
    induction q with
    | zero =>
      intro b hbb
      have e : b = 7 := by omega
      subst e
      refine v37_4 ?_
      rw [if_neg (by omega)]
      exact hK
    | succ q ih =>
      intro b hbb
      have hb2 := sm_bound (g := fun b => D (aC s k + 4) b) (a := 0) (b := 1000000001000) (n := b) (fun k x y => hb k x (by omega))
      have hb3 := hb (b : Nat) (by omega) (by omega)
      have h1 := ih (b + 1) (by omega)
      rw [sm_succ, show (((b + 1 : Nat)) : Int) = (b : Nat) + 1 from by omega] at h1
      refine v37_4 ?_
      rw [if_pos (by omega), w32_id (by omega) (by omega), w64_id (by omega) (by omega)]
      exact ⟨by omega, h1⟩
  exact v37_0 (go 7 0 (by omega))
def chV (D : tD) (w k x : Int) : Int := if x = 0 then D (aC w k) 4 else if x = 1 then D (aC w k + 2) 1 else if x = 2 then D (aC w k) 5 else if x = 3 then obs D w k else if x = 4 then D (aC w k) 6 else D (aC w k) 7
def chC (D : tD) (w k : Int) : Prop := 0 ≤ k ∧ k < 24 ∧ D (aC w k) 3 ≠ 0
theorem c_childOf {w k x : Int} (h600 : c ≤ 600) (h0 : shR c D 0) (h1 : shR c D 1) (hT : (w = 0 ∨ w = 1) ∧ 0 ≤ x ∧ x ≤ 5 → chC D w k → K D (chV D w k x)) (hF : ¬ ((w = 0 ∨ w = 1) ∧ 0 ≤ x ∧ x ≤ 5) → D (-1) 0 < 599000 ∧ E (bump D) 90) (hN : (w = 0 ∨ w = 1) ∧ 0 ≤ x ∧ x ≤ 5 → ¬ chC D w k → D (-1) 0 < 599000 ∧ E (bump D) 93) : WP sc 24 0 D [(0, (1200, 0)), (1, (0, w)), (2, (0, k)), (3, (0, x))] [] K E := by
  refine v24_0 ?_
  by_cases hw : w = 0 ∨ w = 1
  · have hsh := shR_of h0 h1 hw
    refine sheetEq hw ?_
    rw [if_neg (by omega)]
    split
    · exact hF (fun h => by have := h.2; omega)
    split
    · exact hF (fun h => by have := h.2; omega)
    refine c_chAt hw (fun hk ht => ?_) (fun hk => ?_)
    · rw [if_neg (by unfold aC; omega)]
      have hv := hT ⟨hw, by omega, by omega⟩ ⟨hk.1, hk.2, ht⟩
      obtain ⟨b1, b2, b3⟩ := hsh.2.2.1 k hk.1 hk.2
      have hch := b3 (by omega)
      unfold chV at hv
      split
      · rename_i q0
        rw [if_pos q0] at hv
        exact hv
      rename_i q0
      rw [if_neg q0] at hv
      split
      · rename_i q1
        rw [if_pos q1] at hv
        rw [show aC w k + 1 + 1 = aC w k + 2 from by omega]
        exact hv
      rename_i q1
      rw [if_neg q1] at hv
      split
      · rename_i q2
        rw [if_pos q2] at hv
        exact hv
      rename_i q2
      rw [if_neg q2] at hv
      split
      · rename_i q3
        rw [if_pos q3] at hv
        exact c_obs hw hk (fun b x y => by have := hch.2.2.2.2.2.1 b x y; omega) hv
      rename_i q3
      rw [if_neg q3] at hv
      split
      · rename_i q4
        rw [if_pos q4] at hv
        exact hv
      rename_i q4
      rw [if_neg q4] at hv
      exact hv
    · rw [if_pos rfl]
      exact hN ⟨hw, by omega, by omega⟩ hk
  · refine sheetNe hw ?_
    rw [if_pos rfl]
    exact hF (fun h => hw h.1)
end FOF
