/-! the law's loop: state -/
section STE
variable {sc : Nat × (Nat → Int32)} {D D' : tD} {K : tD → Int → Prop} {E : tD → Nat → Prop} {s c i : Int}
theorem l_state (hR : RL RSc D c) (hc : c < 600) (hi : 0 ≤ i ∧ i + 5 ≤ (sc.1 : Int) ∧ (sc.1 : Int) ≤ 2560) (hgo : ∀ D', RL RSc D' (c + 1) → WP sc 317 1610 D' (LV i) [] K E) : WP sc 317 483 D (LV i) [] K E := by
  refine wp_ok (fun hok => ?_)
  have hR0 := hR
  obtain ⟨r1, r2, r3, r4, r5, r6, r7, r8⟩ := hR
  have h0 := r8.1
  have hn := h0.1
  rw [show (5 : Int) + 975 * 0 = 5 from rfl] at hn
  obtain ⟨q1, q2, q3, q4⟩ := r1
  refine v317_483 ?_
  rw [w32_id (x := i + 1) (by omega) (by omega)]
  refine ⟨by omega, fun hx => v301_0 ?_⟩
  generalize tsv sc (i + 1) = f at hx ⊢
  have eF : aF 0 f = 7 + 17 * f := by unfold aF; omega
  have hiff := st_iff (f := f) hok hR0
  have hfm : ∀ (_ : 0 ≤ f) (_ : f < D 1979 0), faR D 0 f := fun x y => h0.2.1 f x (by rw [show (5 : Int) + 975 * 0 = 5 from rfl]; omega)
  have h91 : 0 ≤ f → f < D 1979 0 → D (aF 0 f) 7 = D 1991 f ∧ 0 ≤ D 1991 f ∧ D 1991 f ≤ 4 ∧ D (aF 0 f) 9 = D 1992 f := fun x y => by
    have hfa := hfm x y
    have h7 := hfa.2.2.2.2.2.1
    have h9 := (hfa.2.2.2.2.2.2 rfl).2.2.2
    rw [show 8 * (0 : Int) + f = f from by omega] at h7
    omega
  have h90 : 0 ≤ f → f < D 1979 0 → ∀ k, 0 ≤ k → k < D 1991 f → 0 ≤ D 1990 (4 * f + k) ∧ D 1990 (4 * f + k) ≤ 12 := fun x y k u v => by
    have h7 := (hfm x y).2.2.2.2.2.1
    rw [show 8 * (0 : Int) + f = f from by omega] at h7
    have := (h7.2.2.2.2 k u (by omega)).1
    exact ⟨this.2.1, this.2.2.1⟩
  have frb : ∀ a j, 1978 ≤ a → a ≤ 1992 → (bump (rclear D 1)) a j = D a j := fun a j u v => by
    rw [bump_ne (by omega)]
    unfold rclear
    rw [wr_ne (by omega), wr_ne (by omega)]
  have b77 : (bump (rclear D 1)) 1977 2 = D 1977 2 := by unfold rclear; simp [wr]
  refine c_state h0 (by omega) (by omega) (fun hst h4 hu D1 hp => ?_) (fun hst => ?_) (fun hst hfu => ?_)
  · refine ⟨by decide +kernel, by omega, fun _ => ?_⟩
    have hm := hiff.mpr hst
    have hf8 := hm.1
    have h912 := h91 hf8.1 hf8.2
    obtain ⟨p1, p2, p3, p4, p5⟩ := hp
    have fr1 : ∀ a j, 1977 ≤ a → a ≤ 2016 → (wr D1 2017 0 (D (aF 0 f) 7 + 1)) a j = D a j := fun a j u v => by
      rw [wr_ne (by omega)]
      exact p5 a j (by omega) (by omega) (by omega) (by omega)
    refine m_state (n := D 1977 2) (fr1 _ _ (by omega) (by omega)) (by omega) (by rw [fr1 _ _ (by omega) (by omega)]; omega) (fun x y => by rw [fr1 _ _ (by omega) (by omega)]; omega) (fun x y k u v => by rw [fr1 1991 _ (by omega) (by omega)] at v; rw [fr1 1990 _ (by omega) (by omega)]; exact h90 hf8.1 hf8.2 k u v) (fun _ _ _ D2 hp2 => ?_) (fun w => absurd ((stM_fr (fun a j u v => fr1 a j (by omega) (by omega))).mpr hm) w) (fun _ w => ?_)
    · rw [fr1 1991 _ (by omega) (by omega)]
      obtain ⟨t1, t2, t3, t4, t5, t6, t7⟩ := hp2
      have fr2 : ∀ a j, 1978 ≤ a → a ≤ 2016 → (wr (wr D1 2017 0 (D (aF 0 f) 7 + 1)) 1977 2 0) a j = D a j := fun a j u v => by rw [wr_ne (by omega), fr1 a j (by omega) v]
      rw [fr2 1991 _ (by omega) (by omega)] at t3 t4 t5 t6
      have ne : ∀ a j, a ≠ 1 → a ≠ aF 0 f + 9 + 2 * D (aF 0 f) 7 → a ≠ aF 0 f + 10 + 2 * D (aF 0 f) 7 → ¬ (a = aF 0 f ∧ j = 7) → a ≠ 2017 → a ≠ 1977 → a ≠ 1989 → a ≠ 1990 → a ≠ 1991 → D2 a j = D a j := fun a j u1 u2 u3 u4 u5 u6 u7 u8 u9 => by
        rw [t7 a j u6 u7 u8 u9, wr_ne u6, wr_ne u5]
        exact p5 a j u1 u2 u3 u4
      have lo : ∀ a j, a < 1977 → D2 a j = D1 a j := fun a j u => by rw [t7 a j (by omega) (by omega) (by omega) (by omega), wr_ne (by omega), wr_ne (by omega)]
      have n77 : ∀ j, j ≠ 0 → j ≠ 2 → D2 1977 j = D 1977 j := fun j u v => by rw [t2 j u, wr_ni v, fr1 _ _ (by omega) (by omega)]
      have n772 : D2 1977 2 = 0 := by rw [t2 2 (by omega), wr_self]
      have n90 : ∀ j, D2 1990 j = if j = 4 * f + D 1991 f then D 1977 2 else D 1990 j := fun j => by rw [t3, fr2 1990 _ (by omega) (by omega)]
      have n91 : ∀ j, D2 1991 j = if j = f then D 1991 f + 1 else D 1991 j := fun j => by rw [t6, fr2 1991 _ (by omega) (by omega)]
      have n89 : ∀ j, 0 ≤ j → j < D 1977 2 → D2 1989 (12 * (4 * f + D 1991 f) + j) = D 1978 j := fun j x y => by rw [t4 j x y, fr2 1978 _ (by omega) (by omega)]
      have n89' : ∀ j, ¬ (12 * (4 * f + D 1991 f) ≤ j ∧ j < 12 * (4 * f + D 1991 f) + D 1977 2) → D2 1989 j = D 1989 j := fun j u => by rw [t5 j u, fr2 1989 _ (by omega) (by omega)]
      have hfa := hfm hf8.1 hf8.2
      have h12 : D 1977 2 ≤ 12 := by have := hst.2.2.1.2.1; omega
      have nj : ∀ j, j ≠ 7 → D2 (aF 0 f) j = D (aF 0 f) j := fun j u => ne _ _ (by omega) (by omega) (by omega) (by omega) (by omega) (by omega) (by omega) (by omega) (by omega)
      have n7 : D2 (aF 0 f) 7 = D (aF 0 f) 7 + 1 := by rw [lo _ _ (by omega)]; exact p1
      have hfa2 : faR D2 0 f := by
        refine faR_mk (nj _ (by omega)) (fun a j x y => ne _ _ (by omega) (by omega) (by omega) (by omega) (by omega) (by omega) (by omega) (by omega) (by omega)) (fun a j x y => ne _ _ (by omega) (by omega) (by omega) (by omega) (by omega) (by omega) (by omega) (by omega) (by omega)) (faB_fr (nj _ (by omega)) (nj _ (by omega)) (fun j => ne _ _ (by omega) (by omega) (by omega) (by omega) (by omega) (by omega) (by omega) (by omega) (by omega)) (fun j => ne _ _ (by omega) (by omega) (by omega) (by omega) (by omega) (by omega) (by omega) (by omega) (by omega)) (fun j => ne _ _ (by omega) (by omega) (by omega) (by omega) (by omega) (by omega) (by omega) (by omega) (by omega)) hfa.2.2.2.2.1) ?_ (fun z => ?_) hfa
        · obtain ⟨b1, b2, b3, b4, b5⟩ := hfa.2.2.2.2.2.1
          rw [show 8 * (0 : Int) + f = f from by omega] at b1 b5
          unfold faT
          rw [show 8 * (0 : Int) + f = f from by omega, n7, n91, if_pos rfl, nj 5 (by omega)]
          refine ⟨by omega, by omega, by omega, fun w => absurd hst.2.1 w, fun k x y => ?_⟩
          by_cases e : k = D (aF 0 f) 7
          · have ek : k = D 1991 f := by omega
            have es : D2 (aF 0 f + 9 + 2 * k) 1 = D 1977 2 := by rw [e, lo _ _ (by omega), p2]; exact q1
            have eb : ∀ j, 0 ≤ j → j < D 1977 2 → D2 (aF 0 f + 9 + 2 * k + 1) j = D 2 j := fun j u v => by
              rw [show aF 0 f + 9 + 2 * k + 1 = aF 0 f + 10 + 2 * k from by omega, e, lo _ _ (by omega)]
              exact p3 j u (by omega)
            rw [n90, if_pos (by omega), es]
            refine ⟨⟨es, q2, h12, fun j u v => ?_⟩, ⟨q2, by omega, fun j u v => ?_⟩⟩
            · rw [eb j u v, ek, n89 j u v]
              have := q4 j u v
              rw [show (1 : Int) + 1 = 2 from rfl, show (0 : Int) + j = j from by omega] at this
              exact this
            · have hh := hst.2.2.1.2.2 j u (by omega)
              unfold rat at hh ⊢
              rw [if_pos ⟨u, by omega⟩] at hh
              rw [es, if_pos ⟨u, v⟩, eb j u v]
              exact hh
          · obtain ⟨c1, c2⟩ := b5 k x (by omega)
            have fr3 : ∀ a j, a = aF 0 f + 9 + 2 * k ∨ a = aF 0 f + 9 + 2 * k + 1 → D2 a j = D a j := fun a j u => ne _ _ (by omega) (by omega) (by omega) (by omega) (by omega) (by omega) (by omega) (by omega) (by omega)
            have e90 : D2 1990 (4 * f + k) = D 1990 (4 * f + k) := by rw [n90, if_neg (by omega)]
            refine ⟨rowm_fr2 (fun j => fr3 _ _ (Or.inl rfl)) (fun j => fr3 _ _ (Or.inr rfl)) (fun j u v => n89' _ (by omega)) e90 c1, ?_⟩
            rw [fr3 _ _ (Or.inl rfl)]
            exact txtP_fr (rat_fr (fr3 _ _ (Or.inl rfl)) (fun j => fr3 _ _ (Or.inr rfl))) c2
        · have h9 := hfa.2.2.2.2.2.2 rfl
          rw [nj 8 (by omega), nj 9 (by omega), ne 1993 f (by omega) (by omega) (by omega) (by omega) (by omega) (by omega) (by omega) (by omega) (by omega), ne 1992 f (by omega) (by omega) (by omega) (by omega) (by omega) (by omega) (by omega) (by omega) (by omega)]
          exact h9
      have hsh : shR (c + 1) D2 0 := by
        refine shR_fam (f := f) (Or.inl rfl) (by omega) (by omega) (fun _ => hfa2) ⟨nj _ (by omega), Int.le_of_eq (nj _ (by omega)).symm⟩ (fun a j u1 u2 => ?_) h0
        have v1 : ¬ (aF 0 f ≤ a ∧ a ≤ aF 0 f + 16) := fun w => u2 (Or.inl w)
        by_cases e1 : a = 1977
        · have : j = 22 := by
            rcases u1 with w | w | w | w | w | w | w <;> omega
          rw [e1, this]; exact n77 _ (by omega) (by omega)
        · by_cases e2 : a = 1989
          · rw [e2]
            exact n89' _ (fun w => u2 (Or.inr (Or.inr (Or.inr (Or.inr (Or.inr (Or.inr (Or.inl ⟨e2, by omega, by omega⟩))))))))
          · by_cases e3 : a = 1990
            · rw [e3, n90, if_neg (fun w => u2 (Or.inr (Or.inr (Or.inr (Or.inr (Or.inr (Or.inr (Or.inr (Or.inl ⟨e3, by omega, by omega⟩)))))))))]
            · by_cases e4 : a = 1991
              · rw [e4, n91, if_neg (fun w => u2 (Or.inr (Or.inl ⟨by omega, by omega⟩)))]
              · have e5 : a ≠ 2017 ∧ a ≠ 1 := by
                  rcases u1 with w | w | w | w | w | w | w <;> omega
                exact ne _ _ e5.2 (by omega) (by omega) (by omega) e5.1 e1 e2 e3 e4
      have hRS : RSc (c + 1) D2 := by
        refine RSc_kept r8 hsh (fun a j u => ?_) (fun a j u1 u2 u3 u4 u5 u6 => ?_) (fun a j u => ne _ _ (by omega) (by omega) (by omega) (by omega) (by omega) (by omega) (by omega) (by omega) (by omega))
        · by_cases e1 : a = 1977
          · rw [e1]; exact n77 _ (by omega) (by omega)
          · exact ne _ _ (by omega) (by omega) (by omega) (by omega) (by omega) e1 (by omega) (by omega) (by omega)
        · have key : a = 1989 ∨ a = 1990 ∨ a = 1991 → ∃ g, 0 ≤ g ∧ g < 8 ∧ fdep 1 g a j := fun w => by
            rcases u6 with g | ⟨g, g1, g2, g3⟩ | g | g
            · exact g
            · have := cdep_hi (Or.inr rfl) ⟨g1, g2⟩ g3 (by omega); omega
            · omega
            · omega
          by_cases e2 : a = 1989
          · obtain ⟨g, g1, g2, g3⟩ := key (Or.inl e2)
            have : 48 * (8 + g) ≤ j := by
              rcases g3 with z | z | z | z | z | z | z | z | z
              · unfold aF at z; omega
              all_goals omega
            rw [e2]
            exact n89' _ (by omega)
          · by_cases e3 : a = 1990
            · obtain ⟨g, g1, g2, g3⟩ := key (Or.inr (Or.inl e3))
              have : 4 * (8 + g) ≤ j := by
                rcases g3 with z | z | z | z | z | z | z | z | z
                · unfold aF at z; omega
                all_goals omega
              rw [e3, n90, if_neg (by omega)]
            · by_cases e4 : a = 1991
              · obtain ⟨g, g1, g2, g3⟩ := key (Or.inr (Or.inr e4))
                have : 8 + g = j := by
                  rcases g3 with z | z | z | z | z | z | z | z | z
                  · unfold aF at z; omega
                  all_goals omega
                rw [e4, n91, if_neg (by omega)]
              · exact ne _ _ (by omega) (by omega) (by omega) (by omega) (by omega) (by omega) e2 e3 e4
      refine tail_r t1 (fun _ => ?_) (hgo _ (RL_clr hR0 hc (Or.inl ?_) ⟨?_, n772⟩ (fun a j u => ?_) hRS))
      · rw [t7 _ _ (by omega) (by omega) (by omega) (by omega), wr_ne (by omega), wr_self]; omega
      · exact ne _ _ (by omega) (by omega) (by omega) (by omega) (by omega) (by omega) (by omega) (by omega) (by omega)
      · rw [lo _ _ (by omega)]; exact p4
      · by_cases e1 : a = 1977
        · rw [e1]; exact n77 _ (by omega) (by omega)
        · exact ne _ _ (by omega) (by omega) (by omega) (by omega) (by omega) e1 (by omega) (by omega) (by omega)
    · exfalso
      rw [fr1 1991 _ (by omega) (by omega), fr1 1992 _ (by omega) (by omega)] at w
      omega
  · rw [if_pos rfl]
    refine ⟨by omega, fun _ => ?_⟩
    refine m_state (n := D 1977 2) b77 (by omega) (by rw [frb _ _ (by omega) (by omega)]; omega) (fun x y => by rw [frb 1979 _ (by omega) (by omega)] at y; rw [frb 1991 _ (by omega) (by omega)]; have := h91 x y; omega) (fun x y k u v => by rw [frb 1979 _ (by omega) (by omega)] at y; rw [frb 1991 _ (by omega) (by omega)] at v; rw [frb 1990 _ (by omega) (by omega)]; exact h90 x y k u v) (fun w _ _ => absurd (hiff.mp ((stM_fr (fun a j u v => frb a j u (by omega))).mp w)) hst) (fun _ => ?_) (fun w _ => absurd (hiff.mp ((stM_fr (fun a j u v => frb a j u (by omega))).mp w)) hst)
    exact tail_r wr_self (fun h => by omega) (hgo _ (RL_thrc hR0 hc))
  · rw [if_neg (by omega), if_pos rfl]
    have hm := hiff.mpr hst
    have h912 := h91 hm.1.1 hm.1.2
    refine ⟨by omega, fun _ => ?_⟩
    refine m_state (n := D 1977 2) b77 (by omega) (by rw [frb _ _ (by omega) (by omega)]; omega) (fun x y => by rw [frb 1979 _ (by omega) (by omega)] at y; rw [frb 1991 _ (by omega) (by omega)]; have := h91 x y; omega) (fun x y k u v => by rw [frb 1979 _ (by omega) (by omega)] at y; rw [frb 1991 _ (by omega) (by omega)] at v; rw [frb 1990 _ (by omega) (by omega)]; exact h90 x y k u v) (fun _ w1 w2 => ?_) (fun w => absurd ((stM_fr (fun a j u v => frb a j u (by omega))).mpr hm) w) (fun _ _ => ?_)
    · exfalso
      rw [frb 1991 _ (by omega) (by omega)] at w1
      rw [frb 1992 _ (by omega) (by omega)] at w2
      exact hfu (by omega)
    · exact tail_r wr_self (fun h => by omega) (hgo _ (RL_thrc2 hR0 hc))
end STE
