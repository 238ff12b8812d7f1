/-! the law's loop: childOf, cap -/
section COF
variable {sc : Nat × (Nat → Int32)} {D : tD} {K : tD → Int → Prop} {E : tD → Nat → Prop} {s c i : Int}
theorem fr_thr2 (t u : Int) : ∀ a j, depS a j → (wr (wr D 1977 0 t) 1977 0 u) a j = D a j := fun a j h => by rw [fr_thr _ a j h, fr_thr _ a j h]
theorem RL_ask2 {t u v : Int} (hR : RL RSc D c) (hc : c < 600) : RL RSc (wr (wr (wr D 2017 0 v) 1977 0 t) 1977 0 u) (c + 1) := RL_frame RSc_dep hR hc (Or.inl (by simp [wr])) (fun a j h => by
  unfold depA depS at h
  simp only [wr]
  rw [if_neg (by omega), if_neg (by omega), if_neg (by omega)])
theorem RL_thr2 {t u : Int} (hR : RL RSc D c) (hc : c < 600) : RL RSc (wr (wr (bump D) 1977 0 t) 1977 0 u) (c + 1) := RL_frame RSc_dep hR hc (Or.inr (by simp [wr])) (fun a j h => by
  unfold depA depS at h
  simp only [wr]
  rw [if_neg (by omega), if_neg (by omega), if_neg (by omega)])
theorem obs_fr {D D' : tD} {k : Int} (hs : s = 0 ∨ s = 1) (hk : 0 ≤ k ∧ k < 24) (h : ∀ a j, depS a j → D' a j = D a j) : obs D' s k = obs D s k := by
  unfold obs
  exact sm_ext (fun b _ _ => h _ _ (by unfold depS aC; omega))
theorem chV_fr {D D' : tD} {w k x : Int} (hs : w = 0 ∨ w = 1) (hk : 0 ≤ k ∧ k < 24) (h : ∀ a j, depS a j → D' a j = D a j) : chV D' w k x = chV D w k x := by
  unfold chV
  rw [h (aC w k) 4 (by unfold depS aC; omega), h (aC w k + 2) 1 (by unfold depS aC; omega), h (aC w k) 5 (by unfold depS aC; omega), h (aC w k) 6 (by unfold depS aC; omega), h (aC w k) 7 (by unfold depS aC; omega), obs_fr hs hk h]
theorem chC_fr {D D' : tD} {w k : Int} (hs : w = 0 ∨ w = 1) (h : ∀ a j, depS a j → D' a j = D a j) : chC D' w k ↔ chC D w k := by
  unfold chC
  constructor
  · rintro ⟨a, b, d⟩
    rw [h _ _ (by unfold depS aC; omega)] at d
    exact ⟨a, b, d⟩
  · rintro ⟨a, b, d⟩
    exact ⟨a, b, by rw [h _ _ (by unfold depS aC; omega)]; exact d⟩
theorem wr2 {D : tD} (t u a j : Int) (h : a ≠ 1977) : (wr (wr D 1977 0 t) 1977 0 u) a j = D a j := by rw [wr_ne h, wr_ne h]
theorem m_obs {k : Int} (h600 : c ≤ 601) (hs : s = 0 ∨ s = 1) (hk : 0 ≤ k ∧ k < 24) (hch : chR c D s k) (hK : K D (obs D s k)) : WP sc 293 157 D [(0, (1211, 1977)), (4, (0, 24 * s + k)), (5, (1, 0)), (7, (0, w32 (7 * (24 * s + k))))] [] K E := by
  have hb := hch.2.2.2.2.2.1
  have go : ∀ (q b : Nat), q + b = 7 → WP sc 293 157 D [(0, (1211, 1977)), (4, (0, 24 * s + k)), (5, (1, sm (fun b => D (aC s k + 4) b) b)), (7, (0, 7 * (24 * s + k) + (b : Nat)))] [] K E := by
    intro q
    induction q with
    | zero =>
      intro b hbb
      have e : b = 7 := by omega
      subst e
      refine v293_157 ?_
      rw [w32_id (x := 7 * (24 * s + k)) (by omega) (by omega), w32_id (by omega) (by omega), if_neg (by omega)]
      exact hK
    | succ q ih =>
      intro b hbb
      have hb2 := sm_bound (g := fun b => D (aC s k + 4) b) (a := 0) (b := 1000000001000) (n := b) (fun k x y => by have := hb k x (by omega); omega)
      have hb3 := hb (b : Nat) (by omega) (by omega)
      have h1 := ih (b + 1) (by omega)
      rw [sm_succ, show 7 * (24 * s + k) + (((b + 1 : Nat)) : Int) = 7 * (24 * s + k) + (b : Nat) + 1 from by omega] at h1
      refine v293_157 ?_
      rw [w32_id (x := 7 * (24 * s + k)) (by omega) (by omega), w32_id (x := 7 * (24 * s + k) + 7) (by omega) (by omega), if_pos (by omega), w32_id (by omega) (by omega), ← hb3.1, w64_id (by omega) (by omega)]
      exact ⟨by omega, h1⟩
  have h0 := go 7 0 (by omega)
  rw [show 7 * (24 * s + k) + ((0 : Nat) : Int) = 7 * (24 * s + k) from by omega] at h0
  rw [w32_id (by omega) (by omega)]
  exact h0
theorem m_childOf {w k x : Int} (h600 : c ≤ 600) (hkr : -2147483648 ≤ k ∧ k ≤ 2147483647) (h0 : shR c D 0) (h1 : shR c D 1) (hT : (w = 0 ∨ w = 1) ∧ 0 ≤ x ∧ x ≤ 5 → chC D w k → K (wr (wr D 1977 0 0) 1977 0 0) (chV D w k x)) (hF : ¬ ((w = 0 ∨ w = 1) ∧ 0 ≤ x ∧ x ≤ 5) → K (wr D 1977 0 1) 0) (hN : (w = 0 ∨ w = 1) ∧ 0 ≤ x ∧ x ≤ 5 → ¬ chC D w k → K (wr (wr D 1977 0 0) 1977 0 2) 0) : WP sc 293 0 D [(0, (1211, 1977)), (1, (0, w)), (2, (0, k)), (3, (0, x))] [] K E := by
  refine v293_0 (c_within (fun hw => ?_) (fun hw => ?_))
  · have hw2 : w = 0 ∨ w = 1 := by omega
    have hsh := shR_of h0 h1 hw2
    have hn := hsh.1
    rw [if_neg (by omega)]
    refine c_within (fun hx => ?_) (fun hx => ?_)
    · rw [if_neg (by omega)]
      refine c_fails0 ?_
      rw [if_pos rfl]
      refine c_within (fun hk => ?_) (fun hk => ?_)
      · rw [if_neg (by omega), w32_id (x := 24 * w) (by omega) (by omega), w32_id (x := 24 * w + k) (by omega) (by omega), wr_ne (show (1994 : Int) ≠ 1977 by omega)]
        obtain ⟨b1, b2, b3⟩ := hsh.2.2.1 k hk.1 (by omega)
        refine ⟨by omega, fun _ => ?_⟩
        rw [← b1]
        rcases b2 with b2 | b2
        · rw [if_pos b2]
          refine c_fails1 ?_
          rw [if_neg (by omega)]
          exact hN ⟨hw2, hx⟩ (fun h => h.2.2 b2)
        · rw [if_neg (by omega)]
          refine c_fails0 ?_
          rw [if_pos rfl]
          have hch := b3 b2
          have hv := hT ⟨hw2, hx⟩ ⟨hk.1, by omega, by omega⟩
          obtain ⟨a1, ⟨a2, -⟩, a4, a5, a6, a7, -⟩ := hch
          unfold chV at hv
          rw [w32_id (x := 8 * w) (by omega) (by omega)]
          split
          · rename_i q0
            rw [if_pos q0] at hv
            refine ⟨by omega, ?_⟩
            rw [wr_ne (by omega), wr_ne (by omega), a1.2.2, w32_id (by omega) (by omega), show D (aC w k) 4 + 8 * w - 8 * w = D (aC w k) 4 from by omega]
            exact hv
          rename_i q0
          rw [if_neg q0] at hv
          split
          · rename_i q1
            rw [if_pos q1] at hv
            refine ⟨by omega, ?_⟩
            rw [wr_ne (by omega), wr_ne (by omega), ← a2.1]
            exact hv
          rename_i q1
          rw [if_neg q1] at hv
          split
          · rename_i q2
            rw [if_pos q2] at hv
            refine ⟨by omega, ?_⟩
            rw [wr_ne (by omega), wr_ne (by omega), ← a4.1]
            exact hv
          rename_i q2
          rw [if_neg q2] at hv
          split
          · rename_i q3
            rw [if_pos q3] at hv
            refine m_obs (c := c + 1) (by omega) hw2 (by omega) ?_ ?_
            · exact chR_fr (by omega) (wr2 _ _ _ _ (by omega)) (kfR (fun j => wr2 _ _ _ _ (by unfold aF; omega))) (fun a j u v => wr2 _ _ _ _ (by unfold aC at v; omega)) (fun a j u v _ => wr2 _ _ _ _ (by omega)) (b3 b2)
            · rw [obs_fr hw2 (by omega) (fr_thr2 _ _)]; exact hv
          rename_i q3
          rw [if_neg q3] at hv
          split
          · rename_i q4
            rw [if_pos q4] at hv
            refine ⟨by omega, ?_⟩
            rw [wr_ne (by omega), wr_ne (by omega), ← a5.1]
            exact hv
          rename_i q4
          rw [if_neg q4] at hv
          refine ⟨by omega, ?_⟩
          rw [wr_ne (by omega), wr_ne (by omega), ← a6.1]
          exact hv
      · rw [if_pos rfl]
        refine c_fails1 ?_
        rw [if_neg (by omega)]
        exact hN ⟨hw2, hx⟩ (fun h => hk (by have := h.1; have := h.2.1; omega))
    · rw [if_pos rfl]
      refine c_fails1 ?_
      rw [if_neg (by omega)]
      exact hF (fun h => hx h.2)
  · rw [if_pos rfl]
    refine c_fails1 ?_
    rw [if_neg (by omega)]
    exact hF (fun h => hw (by have := h.1; omega))
theorem l_childOf (hR : RL RSc D c) (hc : c < 600) (hi : 0 ≤ i ∧ i + 5 ≤ (sc.1 : Int) ∧ (sc.1 : Int) ≤ 2560) (hgo : ∀ D', RL RSc D' (c + 1) → WP sc 317 1610 D' (LV i) [] K E) : WP sc 317 1440 D (LV i) [] K E := by
  have r6 := hR.2.2.2.2.2.1
  have r8 := hR.2.2.2.2.2.2.2
  refine v317_1440 ?_
  rw [w32_id (x := i + 1) (by omega) (by omega), w32_id (x := i + 2) (by omega) (by omega), w32_id (x := i + 3) (by omega) (by omega)]
  refine ⟨by omega, fun hx => ⟨by omega, fun hy => ⟨by omega, fun hz => v315_0 (c_childOf (by omega) r8.1 r8.2.1 (fun h1 h2 => ?_) (fun h => ?_) (fun h1 h2 => ?_))⟩⟩⟩
  · refine ⟨by decide +kernel, by omega, fun _ => ⟨by omega, fun _ => ⟨by omega, fun _ => ?_⟩⟩⟩
    refine m_childOf (c := c + 1) (by omega) hy (shR_fr (Or.inl rfl) (by omega) (fr_out _) r8.1) (shR_fr (Or.inr rfl) (by omega) (fr_out _) r8.2.1) (fun _ _ => ?_) (fun h3 => absurd h1 h3) (fun _ h3 => absurd ((chC_fr h1.1 (fr_out _)).mpr h2) h3)
    refine tail_r wr_self (fun _ => ?_) (hgo _ (RL_ask2 hR hc))
    rw [wr_ne (by omega), wr_ne (by omega), wr_self, chV_fr h1.1 ⟨h2.1, h2.2.1⟩ (fr_out _)]
  · refine ⟨by omega, ?_⟩
    rw [if_pos rfl]
    refine ⟨by omega, fun _ => ⟨by omega, fun _ => ⟨by omega, fun _ => ?_⟩⟩⟩
    refine m_childOf (c := c + 1) (by omega) hy (shR_fr (Or.inl rfl) (by omega) fr_bump r8.1) (shR_fr (Or.inr rfl) (by omega) fr_bump r8.2.1) (fun h3 _ => absurd h3 h) (fun _ => ?_) (fun h3 _ => absurd h3 h)
    exact tail_r wr_self (fun h => by omega) (hgo _ (RL_thr hR hc))
  · refine ⟨by omega, ?_⟩
    rw [if_neg (by omega), if_pos rfl]
    refine ⟨by omega, fun _ => ⟨by omega, fun _ => ⟨by omega, fun _ => ?_⟩⟩⟩
    refine m_childOf (c := c + 1) (by omega) hy (shR_fr (Or.inl rfl) (by omega) fr_bump r8.1) (shR_fr (Or.inr rfl) (by omega) fr_bump r8.2.1) (fun _ h3 => absurd ((chC_fr h1.1 fr_bump).mp h3) h2) (fun h3 => absurd h1 h3) (fun _ _ => ?_)
    exact tail_r wr_self (fun h => by omega) (hgo _ (RL_thr2 hR hc))
end COF
