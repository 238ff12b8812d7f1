/-! the law's loop, the whole -/
section FIN
variable {sc : Nat × (Nat → Int32)} {D : tD}
theorem D0_z {a i : Int} (h : a < 1955 ∨ (1957 < a ∧ a < 1968) ∨ (1968 < a ∧ a < 1977) ∨ (1977 < a ∧ a ≠ 1993)) : D0 a i = 0 := by
  unfold D0
  rw [if_neg (by omega), if_neg (by omega), if_neg (by omega), if_neg (by omega), if_neg (by omega), if_neg (by omega), if_neg (by omega), if_neg (by omega)]
theorem D0_7 {i : Int} (h : i ≠ 46) : D0 1977 i = 0 := by
  unfold D0
  rw [if_neg (by omega), if_neg (by omega), if_neg (by omega), if_neg (by omega), if_neg (by omega), if_neg (by omega), if_neg (by omega), if_neg (by omega)]
theorem shR_0 {s c : Int} (hs : s = 0 ∨ s = 1) : shR c D0 s := by
  have l : ∀ j, D0 (5 + 975 * s) j = 0 := fun j => D0_z (by omega)
  have lc : ∀ k j, 0 ≤ k → k < 24 → D0 (aC s k) j = 0 := fun k j u v => D0_z (by unfold aC; omega)
  refine ⟨?_, fun f u v => ?_, fun k u v => ?_, ⟨?_, ?_, ?_⟩, fun p u v => ?_, fun p q u v w => ?_, fun k u v w => ?_⟩
  · rw [l, D0_z (by omega)]; omega
  · rw [l] at v; omega
  · rw [lc k 3 u v, D0_z (by omega)]
    exact ⟨rfl, Or.inl rfl, fun w => by omega⟩
  · rw [l]; omega
  · rw [l]; omega
  · rw [l]
    exact sm_z (fun k u v => lc k 3 u (by omega))
  · rw [l] at v; omega
  · rw [l] at w; omega
  · rw [lc k 3 u v] at w; omega
theorem RL_0 : RL RSc D0 0 := by
  refine ⟨?_, ?_, ?_, ?_, ⟨?_, ?_⟩, ?_, by omega, shR_0 (Or.inl rfl), shR_0 (Or.inr rfl), ⟨?_, ?_, ?_⟩, ?_, ?_, ?_⟩
  · rw [D0_7 (by omega)]
    exact ⟨D0_z (by omega), by omega, by omega, fun j u v => by omega⟩
  · rw [D0_7 (by omega)]
    exact ⟨D0_z (by omega), by omega, by omega, fun j u v => by omega⟩
  · rw [D0_z (by omega), D0_7 (by omega)]; omega
  · rfl
  · rfl
  · rfl
  · rw [D0_z (by omega)]; omega
  · rw [D0_7 (by omega)]
    exact ⟨D0_z (by omega), by omega, by omega, fun j u v => by omega⟩
  · rw [D0_z (by omega)]
    refine ⟨by omega, fun _ => 0, rfl, ?_, fun q u v => by omega⟩
    rw [D0_z (by omega)]
  · rw [D0_z (by omega)]; omega
  · rw [D0_7 (by omega)]; omega
  · rw [D0_7 (by omega)]; omega
  · intro f g u v w
    rw [D0_z (by omega)] at w
    omega
theorem law_loop (hL : sc.1 ≤ 2560) : ∀ (m : Nat) (i c : Int) (D : tD), (sc.1 : Int) - i < (m : Int) → 0 ≤ i → 0 ≤ c ∧ 5 * c ≤ i → RL RSc D c → WP sc 317 23 D (LV i) [] (fun _ x => x = 1) (fun _ _ => False) := by
  intro m
  induction m with
  | zero =>
    intro i c D hm hi hc hR
    refine v317_23 ?_
    rw [w32_id (x := (sc.1 : Int) - 5) (by omega) (by omega), if_pos (by omega)]
  | succ m ih =>
    intro i c D hm hi hc hR
    refine v317_23 ?_
    rw [w32_id (x := (sc.1 : Int) - 5) (by omega) (by omega)]
    by_cases z : (sc.1 : Int) - 5 < i
    · rw [if_pos z]
    rw [if_neg z]
    refine ⟨⟨hi, by omega⟩, fun _ => ?_⟩
    have hi3 : 0 ≤ i ∧ i + 5 ≤ (sc.1 : Int) ∧ (sc.1 : Int) ≤ 2560 := by omega
    have c6 : c < 600 := by omega
    have nx : ∀ (D' : tD) (c' : Int), 0 ≤ c' ∧ 5 * c' ≤ i + 5 → RL RSc D' c' → WP sc 317 1610 D' (LV i) [] (fun _ x => x = 1) (fun _ _ => False) := fun D' c' hc' hR' => by
      refine v317_1610 ?_
      rw [w32_id (x := i + 5) (by omega) (by omega)]
      exact ih (i + 5) c' D' (by omega) (by omega) hc' hR'
    have go : ∀ D', RL RSc D' (c + 1) → WP sc 317 1610 D' (LV i) [] (fun _ x => x = 1) (fun _ _ => False) := fun D' hR' => nx D' (c + 1) (by omega) hR'
    generalize tia (tsv sc i) 31 = t
    by_cases t0 : t = 0
    · rw [if_pos t0]; exact l_feed RSc_dep hR c6 hi3 go
    rw [if_neg t0]
    by_cases t1 : t = 1
    · rw [if_pos t1]; exact l_copy RSc_dep hR c6 hi3 go
    rw [if_neg t1]
    by_cases t2 : t = 2
    · rw [if_pos t2]; exact l_poke RSc_dep hR c6 hi3 go
    rw [if_neg t2]
    by_cases t3 : t = 3
    · rw [if_pos t3]; exact l_cut RSc_dep hR c6 hi3 go
    rw [if_neg t3]
    by_cases t4 : t = 4
    · rw [if_pos t4]; exact l_family hR c6 hi3 go
    rw [if_neg t4]
    by_cases t5 : t = 5
    · rw [if_pos t5]; exact l_bound hR c6 hi3 go
    rw [if_neg t5]
    by_cases t6 : t = 6
    · rw [if_pos t6]; exact l_state hR c6 hi3 go
    rw [if_neg t6]
    by_cases t7 : t = 7
    · rw [if_pos t7]; exact l_common hR c6 hi3 go
    rw [if_neg t7]
    by_cases t8 : t = 8
    · rw [if_pos t8]; exact l_cap hR c6 hi3 go
    rw [if_neg t8]
    by_cases t9 : t = 9
    · rw [if_pos t9]; exact l_child hR c6 hi3 go
    rw [if_neg t9]
    by_cases t10 : t = 10
    · rw [if_pos t10]; exact l_remove hR c6 hi3 go
    rw [if_neg t10]
    by_cases t11 : t = 11
    · rw [if_pos t11]; exact l_add hR c6 hi3 go
    rw [if_neg t11]
    by_cases t12 : t = 12
    · rw [if_pos t12]; exact l_set hR c6 hi3 go
    rw [if_neg t12]
    by_cases t13 : t = 13
    · rw [if_pos t13]; exact l_observe hR c6 hi3 go
    rw [if_neg t13]
    by_cases t14 : t = 14
    · rw [if_pos t14]; exact l_turn hR c6 hi3 go
    rw [if_neg t14]
    by_cases t15 : t = 15
    · rw [if_pos t15]; exact l_tick RSc_dep hR c6 hi3 go
    rw [if_neg t15]
    by_cases t16 : t = 16
    · rw [if_pos t16]; exact l_write hR c6 hi3 go
    rw [if_neg t16]
    by_cases t17 : t = 17
    · rw [if_pos t17]; exact l_text RSc_dep hR c6 hi3 go
    rw [if_neg t17]
    by_cases t18 : t = 18
    · rw [if_pos t18]; exact l_read hR c6 go
    rw [if_neg t18]
    by_cases t19 : t = 19
    · rw [if_pos t19]; exact l_place RSc_dep hR c6 hi3 go
    rw [if_neg t19]
    by_cases t20 : t = 20
    · rw [if_pos t20]; exact l_same hR c6 hi3 go
    rw [if_neg t20]
    by_cases t21 : t = 21
    · rw [if_pos t21]; exact l_look hR c6 hi3 go
    rw [if_neg t21]
    by_cases t22 : t = 22
    · rw [if_pos t22]; exact l_famOf hR c6 hi3 go
    rw [if_neg t22]
    by_cases t23 : t = 23
    · rw [if_pos t23]; exact l_childOf hR c6 hi3 go
    rw [if_neg t23]
    by_cases t24 : t = 24
    · rw [if_pos t24]; exact l_bucket hR c6 hi3 go
    rw [if_neg t24]
    exact nx D c (by omega) hR
theorem pt_all (L : Nat) (xs : Nat → Int32) (hL : L ≤ 2560) : pt_runs L xs := law_start hL (law_loop (sc := (L, xs)) hL (L + 1) 0 0 D0 (by show (L : Int) - 0 < ((L + 1 : Nat) : Int); omega) (by omega) (by omega) RL_0)
end FIN
theorem i_vc : Claimed_1_1 ∧ Claimed_1_2 := pt_claim pt_all
