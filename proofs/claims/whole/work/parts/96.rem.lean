/-! the law's loop: remove -/
section REM
variable {sc : Nat × (Nat → Int32)} {D D' : tD} {K : tD → Int → Prop} {E : tD → Nat → Prop} {s c c' i : Int}
theorem sm_one {g h : Int → Int} {k : Int} : ∀ {n : Nat}, 0 ≤ k → k < (n : Nat) → (∀ j : Int, 0 ≤ j → j < (n : Nat) → j ≠ k → h j = g j) → sm h n = sm g n + (h k - g k) := by
  intro n
  induction n with
  | zero => intro h1 h2; omega
  | succ n ih =>
    intro h1 h2 h3
    rw [sm_succ, sm_succ]
    by_cases e : k = (n : Nat)
    · have : sm h n = sm g n := sm_ext (fun j x y => h3 j x (by omega) (by omega))
      rw [this, ← e]
      omega
    · rw [ih h1 (by omega) (fun j x y z => h3 j x (by omega) z), h3 (n : Nat) (by omega) (by omega) (by omega)]
      omega
/-- a child has been dropped from the order -/
def drpP (D D' : tD) (s x P : Int) : Prop := D' (5 + 975 * s) 5 = D (5 + 975 * s) 5 - 1 ∧ D' (aC s x) 3 = 0 ∧ (∀ j, D' (977 + 975 * s) j = if P ≤ j ∧ j < D (5 + 975 * s) 5 - 1 then D (977 + 975 * s) (j + 1) else D (977 + 975 * s) j) ∧ ∀ a j, a ≠ 977 + 975 * s → ¬ (a = 5 + 975 * s ∧ j = 5) → ¬ (a = aC s x ∧ j = 3) → D' a j = D a j
theorem c_drop {x P n : Int} (hs : s = 0 ∨ s = 1) (hx : 0 ≤ x ∧ x < 24) (hP : 0 ≤ P ∧ P < n) (hn : n ≤ 24) (D : tD) (hS : D (5 + 975 * s) 5 = n) (hI : D (977 + 975 * s) P = x) (hI2 : ∀ j, 0 ≤ j → j < n → j ≠ P → D (977 + 975 * s) j ≠ x) (hK : ∀ D', drpP D D' s x P → K D' 0) : WP sc 116 0 D [(0, (1208, 5 + 975 * s)), (1, (0, x))] [] K E := by
  have l1 := ln_chs hs
  have l2 : ln (5 + 975 * s + 972) = 24 := by rcases hs with rfl | rfl <;> rfl
  have e1 : 5 + 975 * s + 972 = 977 + 975 * s := by omega
  have e2 : 5 + 975 * s + 155 + 1 + 34 * x = aC s x := by unfold aC; omega
  have part2 : ∀ (m : Nat) (D1 : tD) (p : Int), n - p = (m : Nat) → P < p → D1 (aC s x) 3 = 0 → (∀ j, D1 (977 + 975 * s) j = if P ≤ j ∧ j < p - 1 then D (977 + 975 * s) (j + 1) else D (977 + 975 * s) j) → (∀ a j, a ≠ 977 + 975 * s → ¬ (a = aC s x ∧ j = 3) → D1 a j = D a j) → WP sc 116 4 D1 [(0, (1208, 5 + 975 * s)), (1, (0, x)), (2, (0, p - 1)), (3, (0, p))] [] K E := by
    intro m
    induction m with
    | zero =>
      intro D1 p hm hp h3 hj hf
      have ep : p = n := by omega
      subst ep
      refine v116_4 ?_
      rw [hf (5 + 975 * s) 5 (by omega) (by unfold aC; omega), hS, if_neg (by omega)]
      refine hK _ ⟨by rw [wr_self, hS], by rw [wr_ne (by unfold aC; omega)]; exact h3, fun j => ?_, fun a j u1 u2 u3 => ?_⟩
      · rw [wr_ne (by omega), hj, hS]
      · simp only [wr]
        rw [if_neg u2]
        exact hf a j u1 u3
    | succ m ih =>
      intro D1 p hm hp h3 hj hf
      refine v116_4 ?_
      rw [hf (5 + 975 * s) 5 (by omega) (by unfold aC; omega), hS, if_pos (by omega), if_pos (by omega), l2, e1]
      refine ⟨by omega, ?_⟩
      have e3 : D1 (977 + 975 * s) p = D (977 + 975 * s) p := by rw [hj, if_neg (by omega)]
      rw [e3, if_neg (hI2 p (by omega) (by omega) (by omega)), w32_id (x := p + 1) (by omega) (by omega), w32_id (x := p - 1 + 1) (by omega) (by omega)]
      refine ⟨by omega, by omega, ?_⟩
      have := ih (wr D1 (977 + 975 * s) (p - 1) (D (977 + 975 * s) p)) (p + 1) (by omega) (by omega) (by rw [wr_ne (by unfold aC; omega)]; exact h3) (fun j => ?_) (fun a j u1 u2 => by rw [wr_ne u1]; exact hf a j u1 u2)
      · rw [show p + 1 - 1 = p - 1 + 1 from by omega] at this
        exact this
      · by_cases e : j = p - 1
        · rw [e, wr_self, if_pos (by omega), show p - 1 + 1 = p from by omega]
        · rw [wr_ni e, hj]
          by_cases z : P ≤ j ∧ j < p - 1
          · rw [if_pos z, if_pos (by omega)]
          · rw [if_neg z, if_neg (by omega)]
  have part1 : ∀ (m : Nat) (D1 : tD) (p : Int), P - p = (m : Nat) → 0 ≤ p → (∀ a j, D1 a j = D a j) → WP sc 116 4 D1 [(0, (1208, 5 + 975 * s)), (1, (0, x)), (2, (0, p)), (3, (0, p))] [] K E := by
    intro m
    induction m with
    | zero =>
      intro D1 p hm hp hf
      have ep : p = P := by omega
      subst ep
      refine v116_4 ?_
      rw [hf, hS, if_pos (by omega), if_pos (by omega), l2, l1, e1, e2, hf, if_pos hI, w32_id (x := p + 1) (by omega) (by omega)]
      refine ⟨by omega, by omega, ?_⟩
      have := part2 (n - p - 1).toNat (wr D1 (aC s x) 3 0) (p + 1) (by omega) (by omega) wr_self (fun j => by rw [wr_ne (by unfold aC; omega), hf, if_neg (by omega)]) (fun a j u1 u2 => by simp only [wr]; rw [if_neg u2]; exact hf a j)
      rw [show p + 1 - 1 = p from by omega] at this
      exact this
    | succ m ih =>
      intro D1 p hm hp hf
      refine v116_4 ?_
      rw [hf, hS, if_pos (by omega), if_pos (by omega), l2, e1, hf, if_neg (hI2 p (by omega) (by omega) (by omega)), w32_id (x := p + 1) (by omega) (by omega)]
      refine ⟨by omega, by omega, by omega, ?_⟩
      refine ih _ (p + 1) (by omega) (by omega) (fun a j => ?_)
      by_cases z : a = 977 + 975 * s ∧ j = p
      · rw [z.1, z.2, wr_self]
      · simp only [wr]
        rw [if_neg z]
        exact hf a j
  exact v116_0 (part1 P.toNat D 0 (by omega) (by omega) (fun _ _ => rfl))
theorem c_remove {x : Int} (h0 : shR c D 0) (hT : 0 ≤ x ∧ x < 24 ∧ D (aC 0 x) 3 = 1 → ∀ P D', 0 ≤ P → P < D 5 5 → D 977 P = x → drpP D D' 0 x P → K D' 0) (hN : ¬ (0 ≤ x ∧ x < 24 ∧ D (aC 0 x) 3 = 1) → D (-1) 0 < 599000 ∧ E (bump D) 93) : WP sc 11 0 D [(0, (1200, 0)), (1, (0, x))] [] K E := by
  refine v11_0 (c_chAt (s := 0) (Or.inl rfl) (fun h1 h2 => ?_) (fun h => ?_))
  · obtain ⟨b1, b2, b3⟩ := h0.2.2.1 x h1.1 h1.2
    have h3 : D (aC 0 x) 3 = 1 := by omega
    rw [if_neg (by unfold aC; omega)]
    obtain ⟨d1, d2, d3, d4⟩ := h0.2.2.2
    obtain ⟨P, p1, p2, p3⟩ := d4 x h1.1 h1.2 h3
    refine c_drop (s := 0) (x := x) (P := P) (n := D (5 + 975 * 0) 5) (Or.inl rfl) h1 ⟨p1, p2⟩ d1.2.1 D rfl p3 (fun j q1 q2 q3 q4 => ?_) (fun D' hd => hT ⟨h1.1, h1.2, h3⟩ P D' p1 p2 p3 hd)
    rcases Int.lt_or_gt_of_ne q3 with z | z
    · have := d3 j P q1 z p2
      rw [p3, q4] at this
      omega
    · have := d3 P j p1 z q2
      rw [p3, q4] at this
      omega
  · rw [if_pos rfl]
    exact hN (fun w => h ⟨w.1, w.2.1, by omega⟩)
theorem m_remove {x : Int} (hT : 0 ≤ x ∧ x < 24 ∧ D 1994 x ≠ 0 → K (wr (wr D 1977 0 0) 1994 x 0) 0) (hN : ¬ (0 ≤ x ∧ x < 24 ∧ D 1994 x ≠ 0) → K (wr D 1977 0 1) 0) : WP sc 221 0 D [(0, (1211, 1977)), (1, (0, x))] [] K E := by
  have no : ¬ (0 ≤ x ∧ x < 24 ∧ D 1994 x ≠ 0) → (if (0 : Int) = 0 then WP sc 167 0 D [(0, (1211, 1977)), (1, (0, 1)), (2, (0, 1))] [] (fun D4 r5 => if r5 = 0 then ((0 : Int) ≤ x ∧ x < 48) ∧ K (wr D4 1994 x 0) 0 else K D4 0) (fun D4 e6 => E D4 e6) else WP sc 167 0 D [(0, (1211, 1977)), (1, (0, 0)), (2, (0, 1))] [] (fun D7 r8 => if r8 = 0 then ((0 : Int) ≤ x ∧ x < 48) ∧ K (wr D7 1994 x 0) 0 else K D7 0) (fun D7 e9 => E D7 e9)) := fun h => by
    rw [if_pos rfl]
    refine c_fails1 ?_
    rw [if_neg (by omega)]
    exact hN h
  refine v221_0 (v220_0 (c_within (fun hx => ?_) (fun hx => ?_)))
  · rw [if_neg (by omega)]
    refine ⟨by omega, fun _ => ?_⟩
    split
    · rename_i q
      exact no (fun w => w.2.2 q)
    · rename_i q
      rw [if_pos (by omega), if_neg (by omega)]
      refine c_fails0 ?_
      rw [if_pos rfl]
      exact ⟨by omega, hT ⟨by omega, by omega, q⟩⟩
  · rw [if_pos rfl]
    exact no (fun w => hx (by omega))
theorem l_remove (hR : RL RSc D c) (hc : c < 600) (hi : 0 ≤ i ∧ i + 5 ≤ (sc.1 : Int) ∧ (sc.1 : Int) ≤ 2560) (hgo : ∀ D', RL RSc D' (c + 1) → WP sc 317 1610 D' (LV i) [] K E) : WP sc 317 667 D (LV i) [] K E := by
  have r6 := hR.2.2.2.2.2.1
  have r8 := hR.2.2.2.2.2.2.2
  have h0 := r8.1
  refine v317_667 ?_
  rw [w32_id (x := i + 1) (by omega) (by omega)]
  refine ⟨by omega, fun hx => v305_0 ?_⟩
  generalize tsv sc (i + 1) = x at hx ⊢
  refine c_remove h0 (fun hk P D1 p1 p2 p3 hd => ?_) (fun hk => ?_)
  · obtain ⟨b1, b2, b3⟩ := h0.2.2.1 x hk.1 hk.2.1
    rw [show 24 * (0 : Int) + x = x from by omega] at b1
    obtain ⟨d1, d2, d3, d4⟩ := hd
    rw [show (5 : Int) + 975 * 0 = 5 from rfl, show (977 : Int) + 975 * 0 = 977 from rfl] at d3 d4
    rw [show (5 : Int) + 975 * 0 = 5 from rfl] at d1
    refine ⟨by omega, fun _ => m_remove (fun _ => ?_) (fun w => ?_)⟩
    · generalize hD2 : wr (wr D1 1977 0 0) 1994 x 0 = D2
      have ne : ∀ a j, a ≠ 977 → ¬ (a = 5 ∧ j = 5) → ¬ (a = aC 0 x ∧ j = 3) → ¬ (a = 1977 ∧ j = 0) → ¬ (a = 1994 ∧ j = x) → D2 a j = D a j := fun a j u1 u2 u3 u4 u5 => by
        rw [← hD2]
        simp only [wr]
        rw [if_neg u5, if_neg u4]
        exact d4 a j u1 u2 u3
      have n5 : D2 5 5 = D 5 5 - 1 := by rw [← hD2, wr_ne (by omega), wr_ne (by omega)]; exact d1
      have n3 : D2 (aC 0 x) 3 = 0 := by rw [← hD2, wr_ne (by unfold aC; omega), wr_ne (by unfold aC; omega)]; exact d2
      have n977 : ∀ j, D2 977 j = if P ≤ j ∧ j < D 5 5 - 1 then D 977 (j + 1) else D 977 j := fun j => by rw [← hD2, wr_ne (by omega), wr_ne (by omega)]; exact d3 j
      have n94 : D2 1994 x = 0 := by rw [← hD2, wr_self]
      have nth : ∀ g, 0 ≤ g → g < 24 → g ≠ x → D2 (aC 0 g) 3 = D (aC 0 g) 3 := fun g z1 z2 e => ne _ _ (by unfold aC; omega) (by unfold aC; omega) (by unfold aC; omega) (by unfold aC; omega) (by unfold aC; omega)
      have hsh : shR (c + 1) D2 0 := by
        obtain ⟨a1, a2, a3, ⟨o1, o2, o3, o4⟩⟩ := h0
        refine ⟨?_, fun f u v => ?_, fun k u v => ?_, ⟨?_, fun p u v => ?_, fun p q u v w => ?_, fun k u v w => ?_⟩⟩
        · rw [ne _ 4 (by omega) (by omega) (by unfold aC; omega) (by omega) (by omega), ne 1979 _ (by omega) (by omega) (by unfold aC; omega) (by omega) (by omega)]; exact a1
        · rw [ne _ 4 (by omega) (by omega) (by unfold aC; omega) (by omega) (by omega)] at v
          refine faR_fr2 (fun a j w => ?_) (a2 f u v)
          by_cases hl : a < 1980
          · have := fdep_lo w hl
            unfold aF at this
            exact ne _ _ (by omega) (by omega) (by unfold aC; omega) (by omega) (by omega)
          · have := fdep_hi (Or.inl rfl) (by omega) w hl
            exact ne _ _ (by omega) (by omega) (by unfold aC; omega) (by omega) (by omega)
        · by_cases e : k = x
          · subst e
            rw [n3, show 24 * (0 : Int) + k = k from by omega, n94]
            exact ⟨rfl, Or.inl rfl, fun z => by omega⟩
          · obtain ⟨f1, f2, f3⟩ := a3 k u v
            rw [nth k u v e, ne 1994 _ (by omega) (by omega) (by unfold aC; omega) (by omega) (by omega)]
            refine ⟨f1, f2, fun z => ?_⟩
            have hp := (f3 z).1
            refine chR_fr2 (by omega) (ne _ _ (by omega) (by omega) (by unfold aC; omega) (by omega) (by omega)) (kfR (fun j => ne _ _ (by unfold aF; omega) (by unfold aF; omega) (by have ek : aC 0 x = 161 + 975 * 0 + 34 * x := rfl; unfold aF; omega) (by unfold aF; omega) (by unfold aF; omega))) (fun a j w => ?_) (f3 z)
            by_cases hl : a < 1980
            · have := cdep_lo w hl
              unfold aC at this
              exact ne _ _ (by omega) (by omega) (by unfold aC; omega) (by omega) (by omega)
            · have := cdep_hi (Or.inl rfl) ⟨u, v⟩ w hl
              exact ne _ _ (by omega) (by omega) (by unfold aC; omega) (by omega) (by omega)
        · rw [show (5 : Int) + 975 * 0 = 5 from rfl, n5]
          rw [show (5 : Int) + 975 * 0 = 5 from rfl] at o1
          refine ⟨by omega, by omega, ?_⟩
          rw [sm_one (g := fun k => D (aC 0 k) 3) (k := x) hk.1 (by omega) (fun j z1 z2 e => nth j z1 (by omega) e), n3, o1.2.2, hk.2.2]
          omega
        · rw [show (5 : Int) + 975 * 0 = 5 from rfl, n5] at v
          rw [show (977 : Int) + 975 * 0 = 977 from rfl, n977, ne 1996 _ (by omega) (by omega) (by unfold aC; omega) (by omega) (by omega), ne 1977 22 (by omega) (by omega) (by unfold aC; omega) (by omega) (by omega)]
          rw [show (5 : Int) + 975 * 0 = 5 from rfl, show (977 : Int) + 975 * 0 = 977 from rfl] at o2 o3
          have hne : ∀ q, 0 ≤ q → q < D 5 5 → q ≠ P → D 977 q ≠ x := fun q q1 q2 q3 q4 => by
            rcases Int.lt_or_gt_of_ne q3 with z | z
            · have := o3 q P q1 z p2; rw [p3, q4] at this; omega
            · have := o3 P q p1 z q2; rw [p3, q4] at this; omega
          split
          · have := o2 (p + 1) (by omega) (by omega)
            rw [nth _ this.1 this.2.1 (hne (p + 1) (by omega) (by omega) (by omega))]
            exact this
          · have := o2 p u (by omega)
            rw [nth _ this.1 this.2.1 (hne p u (by omega) (by omega))]
            exact this
        · rw [show (5 : Int) + 975 * 0 = 5 from rfl, n5] at w
          rw [show (977 : Int) + 975 * 0 = 977 from rfl, n977, n977, ne 1996 _ (by omega) (by omega) (by unfold aC; omega) (by omega) (by omega), ne 1996 _ (by omega) (by omega) (by unfold aC; omega) (by omega) (by omega)]
          rw [show (5 : Int) + 975 * 0 = 5 from rfl, show (977 : Int) + 975 * 0 = 977 from rfl] at o3
          split
          · split
            · exact o3 _ _ (by omega) (by omega) (by omega)
            · omega
          · split
            · exact o3 _ _ (by omega) (by omega) (by omega)
            · exact o3 _ _ (by omega) (by omega) (by omega)
        · have ekx : k ≠ x := fun e => by rw [e, n3] at w; omega
          rw [nth k u v ekx] at w
          obtain ⟨p, g1, g2, g3⟩ := o4 k u v w
          rw [show (5 : Int) + 975 * 0 = 5 from rfl] at g2
          rw [show (977 : Int) + 975 * 0 = 977 from rfl] at g3
          have epP : p ≠ P := fun e => ekx (by rw [← g3, e]; exact p3)
          rw [show (5 : Int) + 975 * 0 = 5 from rfl, show (977 : Int) + 975 * 0 = 977 from rfl, n5]
          by_cases z : p < P
          · exact ⟨p, g1, by omega, by rw [n977, if_neg (by omega)]; exact g3⟩
          · exact ⟨p - 1, by omega, by omega, by rw [n977, if_pos (by omega), show p - 1 + 1 = p from by omega]; exact g3⟩
      refine tail_v (by rw [← hD2, wr_ne (by omega), wr_self]) (hgo _ (RL_upd hR hc (Or.inl (ne _ _ (by omega) (by omega) (by unfold aC; omega) (by omega) (by omega))) (fun a j u1 u2 => ?_) (RSc_kept r8 hsh (fun a j u => ne _ _ (by omega) (by omega) (by unfold aC; omega) (by omega) (by omega)) (fun a j u1 u2 u3 u4 u5 u6 => ?_) (fun a j u => ne _ _ (by omega) (by omega) (by unfold aC; omega) (by omega) (by omega)))))
      · rcases u1 with u1 | u1
        · exact absurd u1 u2
        · exact ne _ _ (by omega) (by omega) (by unfold aC; omega) (by omega) (by omega)
      · refine ne _ _ (by omega) (by omega) (by unfold aC; omega) (by omega) (fun w => ?_)
        rcases u6 with ⟨g, g1, g2, g3⟩ | ⟨g, g1, g2, g3⟩ | g | g
        · have := fdep_hi (Or.inr rfl) (by omega) g3 (by omega); omega
        · have := cdep_hi (Or.inr rfl) ⟨g1, g2⟩ g3 (by omega); omega
        · omega
        · omega
    · exfalso
      refine w ⟨hk.1, hk.2.1, ?_⟩
      rw [d4 1994 x (by omega) (by omega) (by unfold aC; omega)]
      omega
  · refine ⟨by omega, ?_⟩
    rw [if_pos rfl]
    refine ⟨by omega, fun _ => m_remove (fun w => ?_) (fun _ => ?_)⟩
    · exfalso
      rw [bump_ne (by omega)] at w
      obtain ⟨b1, b2, b3⟩ := h0.2.2.1 x w.1 w.2.1
      rw [show 24 * (0 : Int) + x = x from by omega] at b1
      exact hk ⟨w.1, w.2.1, by omega⟩
    · exact tail_v wr_self (hgo _ (RL_thr hR hc))
end REM
