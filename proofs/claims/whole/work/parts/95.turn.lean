/-! the law's loop: turn, remove -/
section TURN
variable {sc : Nat × (Nat → Int32)} {D D' : tD} {K : tD → Int → Prop} {E : tD → Nat → Prop} {s c c' i : Int}
theorem tn_iff {x k : Int} (h0 : shR c D 0) : (tnM D x k ↔ tnC D x k) ∧ (mkC D x 4 4 → D 1991 (D 1995 x) = D (aF 0 (D (aC 0 x) 4)) 7 ∧ 0 ≤ D 1991 (D 1995 x) ∧ D 1991 (D 1995 x) ≤ 4) := by
  have hn := h0.1
  have key : mkC D x 4 4 → D 1991 (D 1995 x) = D (aF 0 (D (aC 0 x) 4)) 7 ∧ 0 ≤ D 1991 (D 1995 x) ∧ D 1991 (D 1995 x) ≤ 4 := fun hm => by
    have hk : kcC D x 4 := by rcases (mkC_iff h0).mp hm with w | w <;> exact w
    have hp := ((h0.2.2.1 x hk.1 hk.2.1).2.2 hk.2.2.1).1
    have h7 := (h0.2.1 _ hp.1 hp.2.1).2.2.2.2.2.1
    rw [show 24 * (0 : Int) + x = x from by omega] at hp
    rw [show 8 * (0 : Int) + D (aC 0 x) 4 = D (aC 0 x) 4 from by omega] at h7
    rw [hp.2.2, show D (aC 0 x) 4 + 8 * 0 = D (aC 0 x) 4 from by omega]
    omega
  refine ⟨?_, key⟩
  unfold tnM tnC
  constructor
  · rintro ⟨a, b, d⟩
    rw [(key a).1] at d
    exact ⟨by rcases (mkC_iff h0).mp a with w | w <;> exact w, b, d⟩
  · rintro ⟨a, b, d⟩
    have hm : mkC D x 4 4 := (mkC_iff h0).mpr (Or.inl a)
    exact ⟨hm, b, by rw [(key hm).1]; exact d⟩
theorem tnM_fr {x k : Int} (h : ∀ a j, (1980 ≤ a ∧ a ≤ 1995) → D' a j = D a j) : tnM D' x k ↔ tnM D x k := by
  unfold tnM
  rw [mkC_fr h, h 1995 _ (by omega), h 1991 _ (by omega)]
theorem l_turn (hR : RL RSc D c) (hc : c < 600) (hi : 0 ≤ i ∧ i + 5 ≤ (sc.1 : Int) ∧ (sc.1 : Int) ≤ 2560) (hgo : ∀ D', RL RSc D' (c + 1) → WP sc 317 1610 D' (LV i) [] K E) : WP sc 317 999 D (LV i) [] K E := by
  have r6 := hR.2.2.2.2.2.1
  have r8 := hR.2.2.2.2.2.2.2
  have hb := mkB_of r8.1
  have frb : ∀ a j, (1980 ≤ a ∧ a ≤ 1995) → bump D a j = D a j := fun a j u => bump_ne (by omega)
  have yes : ∀ on x k, tnC D x k → WP sc 229 0 (wr D (aC 0 x) 7 (stv on (D (aC 0 x) 7) k)) [(0, (1211, 1977)), (1, (0, x)), (2, (0, k)), (3, (0, on))] [] (fun D4 _ => WP sc 166 0 D4 [(0, (1211, 1977))] [] (fun D7 r8 => if r8 = 0 then WP sc 317 1610 D7 (LV i) [] K E else K D7 0) (fun D7 e9 => E D7 e9)) (fun D4 e6 => E D4 e6) := fun on x k h => by
    have hx0 := h.1.1
    have hx1 := h.1.2.1
    have hch := (r8.1.2.2.1 x hx0 hx1).2.2 h.1.2.2.1
    have hst := hch.2.2.2.2.1
    rw [show 24 * (0 : Int) + x = x from by omega] at hst
    have hfa4 := (r8.1.2.1 _ hch.1.1 hch.1.2.1).2.2.2.2.2.1
    have hk2 := h.2
    have fr1 : ∀ a j, (1980 ≤ a ∧ a ≤ 1995) → (wr D (aC 0 x) 7 (stv on (D (aC 0 x) 7) k)) a j = D a j := fun a j u => wr_ne (by unfold aC; omega)
    have hv := stv_r (on := on) (a := D (aC 0 x) 7) (k := k) (by omega) (by omega)
    refine m_turn (mkB_fr fr1 hb) (fun _ _ _ => trivial) (fun w => ?_) (fun _ => ?_) (fun w => absurd ((tnM_fr fr1).mpr ((tn_iff r8.1).1.mpr h)) w)
    · rw [fr1 1995 _ (by omega), fr1 1991 _ (by omega)]
      exact ((tn_iff (k := k) r8.1).2 ((mkC_fr fr1).mp w)).2
    · rw [wr_ne (show (2001 : Int) ≠ aC 0 x by unfold aC; omega), ← hst.1]
      refine tail_v (by rw [wr_ne (by omega), wr_self]) (hgo _ (RL_fld (x := x) (fld := 7) (arr := 2001) (v := stv on (D (aC 0 x) 7) k) hR hc ⟨hx0, hx1⟩ h.1.2.2.1 (Or.inr ⟨rfl, rfl, hv⟩) ?_ wr_self ?_ (fun j u => ?_) (fun j u => ?_) (fun j u => ?_) (fun a j u1 u2 u3 u4 u5 => ?_)))
      · rw [wr_ne (by unfold aC; omega), wr_ne (by unfold aC; omega), wr_self]
      · rw [wr_ne (by omega), wr_ne (by omega), wr_ne (by unfold aC; omega)]
      · rw [wr_ne (by unfold aC; omega), wr_ne (by unfold aC; omega), wr_ni u]
      · rw [wr_ni u, wr_ne (by omega), wr_ne (by unfold aC; omega)]
      · rw [wr_ne (by omega), wr_ni u, wr_ne (by unfold aC; omega)]
      · rw [wr_ne u2, wr_ne u3, wr_ne u1]
  have no : ∀ on x k, ¬ tnC D x k → WP sc 229 0 (bump D) [(0, (1211, 1977)), (1, (0, x)), (2, (0, k)), (3, (0, on))] [] (fun D4 _ => WP sc 166 0 D4 [(0, (1211, 1977))] [] (fun D7 r8 => if r8 = 1 then WP sc 317 1610 D7 (LV i) [] K E else K D7 0) (fun D7 e9 => E D7 e9)) (fun D4 e6 => E D4 e6) := fun on x k h => by
    refine m_turn (mkB_fr frb hb) (fun _ _ _ => trivial) (fun w => ?_) (fun w => absurd ((tn_iff r8.1).1.mp ((tnM_fr frb).mp w)) h) (fun _ => ?_)
    · rw [frb 1995 _ (by omega), frb 1991 _ (by omega)]
      exact ((tn_iff (k := k) r8.1).2 ((mkC_fr frb).mp w)).2
    · exact tail_v wr_self (hgo _ (RL_thr hR hc))
  refine v317_999 ?_
  rw [w32_id (x := i + 1) (by omega) (by omega), w32_id (x := i + 2) (by omega) (by omega), w32_id (x := i + 3) (by omega) (by omega)]
  refine ⟨by omega, fun hx => ⟨by omega, fun hy => ⟨by omega, fun hz => ?_⟩⟩⟩
  by_cases hon : tsv sc (i + 3) = 0
  · rw [if_pos hon]
    refine v309_0 (c_turn r8.1 (fun h => ?_) (fun h => ?_))
    · refine ⟨by omega, fun _ => ⟨by omega, fun _ => ⟨by omega, fun _ => ?_⟩⟩⟩
      rw [if_pos hon]
      exact yes 0 _ _ h
    · refine ⟨by omega, ?_⟩
      rw [if_pos rfl]
      refine ⟨by omega, fun _ => ⟨by omega, fun _ => ⟨by omega, fun _ => ?_⟩⟩⟩
      rw [if_pos hon]
      exact no 0 _ _ h
  · rw [if_neg hon]
    refine v309_0 (c_turn r8.1 (fun h => ?_) (fun h => ?_))
    · refine ⟨by omega, fun _ => ⟨by omega, fun _ => ⟨by omega, fun _ => ?_⟩⟩⟩
      rw [if_neg hon]
      exact yes 1 _ _ h
    · refine ⟨by omega, ?_⟩
      rw [if_pos rfl]
      refine ⟨by omega, fun _ => ⟨by omega, fun _ => ⟨by omega, fun _ => ?_⟩⟩⟩
      rw [if_neg hon]
      exact no 1 _ _ h
end TURN
