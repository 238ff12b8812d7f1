/-! the law's loop: add, whole -/
section LAE
variable {sc : Nat × (Nat → Int32)} {D D' : tD} {K : tD → Int → Prop} {E : tD → Nat → Prop} {c i : Int}
/-- both sides apart: nothing but the tape -/
theorem RL_cm {x4 : Int} {D1 D2 : tD} (hR : RL RSc D c) (hc : c < 600) (h1 : CX x4 D D1) (h2 : MX x4 (bump D1) D2) : RL RSc D2 (c + 1) := by
  have f1 : ∀ a j, a ≠ -1 → bump D1 a j = D1 a j := fun a j u => bump_ne u
  refine RL_fr3 hR hc (Or.inr ?_) ?_ (fun a j u => ?_)
  · rw [h2.2.2 _ _ (by omega) (by omega)]
    show (bump D1) (-1) 0 = _
    have : (bump D1) (-1) 0 = D1 (-1) 0 + 1 := wr_self
    rw [this, h1.2.2 _ _ (by omega) (by omega)]
  · by_cases z : x4 = 0
    · refine Or.inl ⟨?_, fun j => ?_⟩
      · rw [h2.1 z, f1 _ _ (by omega), h1.2.2 _ _ (by omega) (by omega)]
      · rw [h2.2.2 _ _ (by omega) (by omega), f1 _ _ (by omega), h1.1 z]
    · refine Or.inr ⟨?_, h2.2.1 z⟩
      rw [h2.2.2 _ _ (by omega) (by omega), f1 _ _ (by omega), h1.2.1 z]
  · rw [h2.2.2 a j (by omega) (by omega), f1 _ _ (by omega), h1.2.2 _ _ (by omega) (by omega)]
theorem RL_ad0 {x n x4 : Int} {D1 D2 : tD} (hR : RL RSc D c) (hc : c < 600) (hx : 0 ≤ x ∧ x < 24) (h3 : D (aC 0 x) 3 = 1) (hn : numP n) (h1 : CX x4 D D1) (h2 : MX x4 (wr D1 (aC 0 x) 5 n) D2) : RL RSc (wr D2 1999 x n) (c + 1) := by
  have eC : aC 0 x = 161 + 34 * x := by unfold aC; omega
  have r8 := hR.2.2.2.2.2.2.2
  have hch := (r8.1.2.2.1 x hx.1 hx.2).2.2 h3
  have lo : ∀ a j, a < 1974 → (wr D2 1999 x n) a j = (wr D1 (aC 0 x) 5 n) a j := fun a j u => by rw [wr_ne (by omega), h2.2.2 _ _ (by omega) (by omega)]
  have lo2 : ∀ a j, a < 1974 → a ≠ 1 → a ≠ aC 0 x → (wr D2 1999 x n) a j = D a j := fun a j u v w => by rw [lo a j u, wr_ne w, h1.2.2 _ _ v (by omega)]
  have c5 : (wr D2 1999 x n) (aC 0 x) 5 = n := by rw [lo _ _ (by omega), wr_self]
  have cj : ∀ j, j ≠ 5 → (wr D2 1999 x n) (aC 0 x) j = D (aC 0 x) j := fun j u => by rw [lo _ _ (by omega), wr_ni u, h1.2.2 _ _ (by omega) (by omega)]
  have hi : ∀ a j, 1977 ≤ a → a < 2009 ∨ 2012 < a → a ≠ 1999 → (a = 1977 → j ≠ 37 ∧ j ≠ 2 ∧ j ≠ 0) → (wr D2 1999 x n) a j = D a j := fun a j u1 u2 u3 u4 => by rw [wr_ne u3, h2.2.2 _ _ u2 u4, wr_ne (by omega), h1.2.2 _ _ (by omega) (by omega)]
  have hp := hch.1
  have hn0 := r8.1.1
  refine RL_chx (x := x) hR hc hx h3 (lo2 _ _ (by omega) (by omega) (by omega)) ?_ ?_ ?_ (chK_fr (c := c) (by omega) (cj 4 (by omega)) (kfR (fun j => lo2 _ _ (by unfold aF; omega) (by unfold aF; omega) (by unfold aF; omega))) (fun j => lo2 _ _ (by omega) (by omega) (by omega)) (fun j => hi _ _ (by omega) (by omega) (by omega) (by omega)) hch.2.2.2.2.2.1) (chX_fr (fun a j u v => lo2 _ _ (by omega) (by omega) (by omega)) (fun a j u v => hi _ _ (by omega) (by omega) (by omega) (by omega)) hch.2.2.2.2.2.2) (fun j u v => cj j u) (fun j u v w => hi _ _ (by omega) (by omega) (by omega) (by omega)) (fun a j u v => ?_) (fun a j u v w z => hi _ _ (by omega) (by omega) (by omega) (by omega)) (fun j u => hi _ _ (by omega) (by omega) (by omega) (by omega)) (fun a j u => ?_)
  · by_cases z : x4 = 0
    · refine Or.inl ⟨?_, fun j => ?_⟩
      · rw [wr_ne (by omega), h2.1 z, wr_ne (by omega), h1.2.2 _ _ (by omega) (by omega)]
      · rw [lo _ _ (by omega), wr_ne (by omega), h1.1 z]
    · refine Or.inr ⟨?_, ?_⟩
      · rw [lo _ _ (by omega), wr_ne (by omega), h1.2.1 z]
      · rw [wr_ne (by omega), h2.2.1 z]
  · unfold chN
    rw [show 24 * (0 : Int) + x = x from by omega, c5, wr_self]
    exact ⟨rfl, hn⟩
  · have := hch.2.2.2.2.1
    unfold chS
    rw [show 24 * (0 : Int) + x = x from by omega] at this ⊢
    rw [cj 7 (by omega), hi 2001 _ (by omega) (by omega) (by omega) (by omega)]
    exact this
  · rcases u with u | u
    · subst u
      rw [wr_ni v, h2.2.2 _ _ (by omega) (by omega), wr_ne (by omega), h1.2.2 _ _ (by omega) (by omega)]
    · exact hi _ _ (by omega) (by omega) (by omega) (by omega)
  · rcases u with u | u
    · exact lo2 _ _ (by omega) (by omega) (by omega)
    · exact hi _ _ (by omega) (by omega) (by omega) (by omega)
theorem RL_ad1 {x n x4 v : Int} {S : List (List Int)} {D1 D2 D3 D4 : tD} (hR : RL RSc D c) (hc : c < 600) (hx : 0 ≤ x ∧ x < 24) (h3 : D (aC 0 x) 3 = 1) (hn : numP n) (hv : numP v) (hz : x4 ≠ 0) (hs : srtL S) (hl : S.flatten.length ≤ 44) (h1 : CX x4 D D1)
    (k1 : D2 (aX 0 x 0) 1 = 1) (k2 : D2 (aX 0 x 0) 2 = v) (k3 : D2 (aX 0 x 0) 3 = D 0 8) (k4 : lsIs D2 (aX 0 x 0 + 1) S) (k5 : ∀ a j, a < aX 0 x 0 ∨ aX 0 x 0 + 3 < a → D2 a j = (wr D1 (aC 0 x) 5 n) a j)
    (h2 : MX x4 D2 D3) (m1 : D4 2003 (7 * x) = 1) (m2 : D4 2004 (7 * x) = v) (m3 : D4 2005 (7 * x) = D 0 8) (m4 : D4 2007 (7 * x) = (S.flatten.length : Int)) (m5 : atL D4 2006 (44 * (7 * x)) S.flatten) (m6 : ∀ a j, a = 2003 ∨ a = 2004 ∨ a = 2005 ∨ a = 2007 → j ≠ 7 * x → D4 a j = D3 a j) (m7 : ∀ j, ¬ (44 * (7 * x) ≤ j ∧ j < 44 * (7 * x) + 44) → D4 2006 j = D3 2006 j) (m8 : ∀ a j, a < 2003 ∨ 2007 < a → D4 a j = (wr D3 1999 x n) a j) : RL RSc D4 (c + 1) := by
  have eC : aC 0 x = 161 + 34 * x := by unfold aC; omega
  have eX : aX 0 x 0 = 167 + 34 * x := by unfold aX; omega
  have r3 := hR.2.2.1
  have r8 := hR.2.2.2.2.2.2.2
  have hch := (r8.1.2.2.1 x hx.1 hx.2).2.2 h3
  have hp := hch.1
  have hn0 := r8.1.1
  have q1 : ∀ a j, a < 1977 → D4 a j = D2 a j := fun a j u => by rw [m8 _ _ (by omega), wr_ne (by omega), h2.2.2 _ _ (by omega) (by omega)]
  have lo2 : ∀ a j, a < 1974 → a ≠ 1 → a ≠ aC 0 x → a < aX 0 x 0 ∨ aX 0 x 0 + 3 < a → D4 a j = D a j := fun a j u v w z => by rw [q1 a j (by omega), k5 a j z, wr_ne w, h1.2.2 _ _ v (by omega)]
  have c5 : D4 (aC 0 x) 5 = n := by rw [q1 _ _ (by omega), k5 _ _ (by omega), wr_self]
  have cj : ∀ j, j ≠ 5 → D4 (aC 0 x) j = D (aC 0 x) j := fun j u => by rw [q1 _ _ (by omega), k5 _ _ (by omega), wr_ni u, h1.2.2 _ _ (by omega) (by omega)]
  have q3 : ∀ a j, 1977 ≤ a → a < 2009 ∨ 2012 < a → (a = 1977 → j ≠ 37 ∧ j ≠ 2 ∧ j ≠ 0) → D3 a j = D a j := fun a j u1 u2 u4 => by rw [h2.2.2 _ _ u2 u4, k5 _ _ (by omega), wr_ne (by omega), h1.2.2 _ _ (by omega) (by omega)]
  have hi : ∀ a j, 1977 ≤ a → a < 2003 ∨ a = 2008 ∨ 2012 < a → a ≠ 1999 → (a = 1977 → j ≠ 37 ∧ j ≠ 2 ∧ j ≠ 0) → D4 a j = D a j := fun a j u1 u2 u3 u4 => by rw [m8 _ _ (by omega), wr_ne u3, q3 _ _ u1 (by omega) u4]
  have h6 : ∀ a j, a = 2003 ∨ a = 2004 ∨ a = 2005 ∨ a = 2007 → j ≠ 7 * x → D4 a j = D a j := fun a j u w => by rw [m6 a j u w, q3 _ _ (by omega) (by omega) (by omega)]
  have h7 : ∀ j, ¬ (308 * x ≤ j ∧ j < 308 * x + 44) → D4 2006 j = D 2006 j := fun j u => by rw [m7 j (by omega), q3 _ _ (by omega) (by omega) (by omega)]
  refine RL_chx (x := x) hR hc hx h3 (lo2 _ _ (by omega) (by omega) (by omega) (by omega)) (Or.inr ⟨?_, ?_⟩) ?_ ?_ (chK_fr (c := c) (by omega) (cj 4 (by omega)) (kfR (fun j => lo2 _ _ (by unfold aF; omega) (by unfold aF; omega) (by unfold aF; omega) (by unfold aF; omega))) (fun j => lo2 _ _ (by omega) (by omega) (by omega) (by omega)) (fun j => hi _ _ (by omega) (by omega) (by omega) (by omega)) hch.2.2.2.2.2.1) (fun b u w => ?_) (fun j u v => cj j u) (fun j u v w => hi _ _ (by omega) (by omega) (by omega) (by omega)) (fun a j u v => ?_) (fun a j u v w z => ?_) (fun j u => h7 j (by omega)) (fun a j u => ?_)
  · rw [q1 _ _ (by omega), k5 _ _ (by omega), wr_ne (by omega), h1.2.1 hz]
  · rw [m8 _ _ (by omega), wr_ne (by omega), h2.2.1 hz]
  · unfold chN
    rw [show 24 * (0 : Int) + x = x from by omega, c5, m8 _ _ (by omega), wr_self]
    exact ⟨rfl, hn⟩
  · have := hch.2.2.2.2.1
    unfold chS
    rw [show 24 * (0 : Int) + x = x from by omega] at this ⊢
    rw [cj 7 (by omega), hi 2001 _ (by omega) (by omega) (by omega) (by omega)]
    exact this
  · by_cases z : b = 0
    · subst z
      rw [show 7 * (24 * (0 : Int) + x) + 0 = 7 * x from by omega]
      refine exR_new (v := v) (t := D 0 8) (S := S) ?_ ?_ ?_ ?_ hs hl m1 m2 m3 m4 m5 hv (by omega)
      · rw [q1 _ _ (by omega)]; exact k1
      · rw [q1 _ _ (by omega)]; exact k2
      · rw [q1 _ _ (by omega)]; exact k3
      · obtain ⟨g1, g2, g3, g4⟩ := k4
        exact ⟨by rw [q1 _ _ (by omega)]; exact g1, by rw [q1 _ _ (by omega)]; exact g2, atL_fr (fun j _ _ => q1 _ _ (by omega)) g3, g4⟩
    · have eB : aX 0 x b = 167 + 34 * x + 4 * b := by unfold aX; omega
      refine exR_fr2 (fun a j y => ?_) (hch.2.2.2.2.2.2 b u w)
      rw [show 7 * (24 * (0 : Int) + x) + b = 7 * x + b from by omega] at y
      rcases y with y | y | y
      · exact lo2 _ _ (by omega) (by omega) (by omega) (by omega)
      · exact h6 _ _ y.1 (by omega)
      · rw [y.1]; exact h7 _ (by omega)
  · rcases u with u | u
    · subst u
      rw [m8 _ _ (by omega), wr_ni v, q3 _ _ (by omega) (by omega) (by omega)]
    · exact hi _ _ (by omega) (by omega) (by omega) (by omega)
  · by_cases e : a = 2002
    · exact hi _ _ (by omega) (by omega) (by omega) (by omega)
    · exact h6 _ _ (by omega) (by omega)
  · rcases u with u | u
    · exact lo2 _ _ (by omega) (by omega) (by omega) (by omega)
    · exact hi _ _ (by omega) (by omega) (by omega) (by omega)
theorem l_add (hR : RL RSc D c) (hc : c < 600) (hi : 0 ≤ i ∧ i + 5 ≤ (sc.1 : Int) ∧ (sc.1 : Int) ≤ 2560) (hgo : ∀ D', RL RSc D' (c + 1) → WP sc 317 1610 D' (LV i) [] K E) : WP sc 317 703 D (LV i) [] K E := by
  refine wp_ok (fun hok => ?_)
  have h0 := hR.2.2.2.2.2.2.2.1
  have main : ∀ x v x4 : Int, WP sc 306 0 D [(0, (1200, 0)), (1, (0, x)), (2, (1, v)), (4, (0, x4))] [] (fun D1 r2 => WP sc 225 0 D1 [(0, (1211, 1977)), (1, (0, x)), (2, (1, v)), (4, (0, x4))] [] (fun D4 _ => WP sc 166 0 D4 [(0, (1211, 1977))] [] (fun D7 r8 => if r8 = r2 then WP sc 317 1610 D7 (LV i) [] K E else K D7 0) (fun D7 e9 => E D7 e9)) (fun D4 e6 => E D4 e6)) (fun D1 e3 => E D1 e3) := fun x v x4 => by
    have hc3 : adC D x → (0 ≤ x ∧ x < 24) ∧ D (aC 0 x) 3 = 1 := fun h => by rcases h with h | h <;> exact ⟨⟨h.1, h.2.1⟩, h.2.2.1⟩
    have vc : adV D x v → adC D x ∧ numP v := fun h => by rcases h with h | h; exact ⟨Or.inl h.1, h.2.1⟩; exact ⟨Or.inr h.1, h.2⟩
    have msb : ∀ D1, CX x4 D D1 → msm D (bump D1) := fun D1 h a j u w => by rw [bump_ne (by omega), h.2.2 _ _ (by omega) (by omega)]
    have msw : ∀ D1 n, 0 ≤ x → x < 24 → CX x4 D D1 → msm D (wr D1 (aC 0 x) 5 n) := fun D1 n u1 u2 h a j u w => by rw [wr_ne (by unfold aC; omega), h.2.2 _ _ (by omega) (by omega)]
    refine v306_0 (c_add hok hR (fun D1 c1 c2 => ?_) (fun D1 c1 c2 c3 => ?_) (fun D1 c1 c2 c3 c4 => ?_) (fun D1 c1 c2 c3 c4 c5 => ?_) (fun D1 S D2 c1 c2 c3 c4 c5 c6 c7 c8 k1 k2 k3 k4 k5 => ?_))
    · rw [if_pos rfl]
      exact m_addD hok hR (msb D1 c1) (fun D2 g1 g2 g3 => tail_v g2 (hgo _ (RL_cm hR hc c1 g1))) (fun D2 g1 g2 g3 => absurd g3 c2) (fun D2 g1 g2 g3 => absurd (vc g3).1 c2) (fun D2 g1 g2 g3 => absurd (vc g3).1 c2) (fun D2 S D3 g1 g2 g3 => absurd (vc g3).1 c2)
    · rw [if_neg (by omega), if_pos rfl]
      have no : adV D x v → (x4 ≠ 0 → ∃ S, exG (D 1978) (D 1977 2) S) → False := fun a b => by
        rcases c3 with w | w
        · exact w a
        · exact w.2 (b w.1)
      exact m_addD hok hR (msb D1 c1) (fun D2 g1 g2 g3 => absurd c2 g3) (fun D2 g1 g2 g3 g4 => tail_v g2 (hgo _ (RL_cm hR hc c1 g1))) (fun D2 g1 g2 g3 g4 => (no g3 g4).elim) (fun D2 g1 g2 g3 g4 => (no g3 g4).elim) (fun D2 S D3 g1 g2 g3 g4 g5 => (no g3 (fun _ => ⟨S, g5⟩)).elim)
    · rw [if_neg (by omega), if_neg (by omega), if_pos rfl]
      exact m_addD hok hR (msb D1 c1) (fun D2 g1 g2 g3 => absurd (vc c2).1 g3) (fun D2 g1 g2 g3 g4 => by
        rcases g4 with w | w
        · exact absurd c2 w
        · exact absurd (c3 w.1) w.2) (fun D2 g1 g2 g3 g4 g5 => tail_v g2 (hgo _ (RL_cm hR hc c1 g1))) (fun D2 g1 g2 g3 g4 g5 => absurd g5 c4) (fun D2 S D3 g1 g2 g3 g4 g5 g6 => absurd g6 c4)
    · have hx := hc3 (vc c2).1
      refine m_addD hok hR (msw D1 _ hx.1.1 hx.1.2 c1) (fun D2 g1 g2 g3 => absurd (vc c2).1 g3) (fun D2 g1 g2 g3 g4 => by
        rcases g4 with w | w
        · exact absurd c2 w
        · exact absurd (c3 w.1) w.2) (fun D2 g1 g2 g3 g4 g5 => absurd c4 g5) (fun D2 g1 g2 g3 g4 g5 g6 => tail_v (by rw [wr_ne (by omega)]; exact g2) (hgo _ (RL_ad0 hR hc hx.1 hx.2 c4 c1 g1))) (fun D2 S D3 g1 g2 g3 g4 g5 g6 g7 g8 => ?_)
      rcases c5 with w | w | w
      · exact absurd w g4
      · exact absurd g7 w
      · exact absurd g8 w
    · have hx := hc3 (vc c2).1
      have ms : msm D D2 := fun a j u w => by rw [k5 a j (by unfold aX; omega)]; exact msw D1 _ hx.1.1 hx.1.2 c1 a j u w
      refine m_addD hok hR ms (fun D2 g1 g2 g3 => absurd (vc c2).1 g3) (fun D2 g1 g2 g3 g4 => by
        rcases g4 with w | w
        · exact absurd c2 w
        · exact absurd ⟨S, c4⟩ w.2) (fun D2 g1 g2 g3 g4 g5 => absurd c6 g5) (fun D2 g1 g2 g3 g4 g5 g6 => ?_) (fun D3 S' D4 g1 g2 g3 g4 g5 g6 g7 g8 m1 m2 m3 m4 m5 m6 m7 m8 => ?_)
      · rcases g6 with w | w | w
        · exact absurd w c3
        · exact absurd c7 w
        · exact absurd c8 w
      · have eS := tkP_uni c4.1 g5.1
        subst eS
        have hl : S.flatten.length ≤ 44 := by
          have l2 := tkP_len c4.1
          have := c4.2
          omega
        refine tail_v ?_ (hgo _ (RL_ad1 hR hc hx.1 hx.2 c6 (vc c2).2 c3 c5 hl c1 k1 k2 k3 k4 k5 g1 m1 m2 m3 m4 m5 m6 m7 m8))
        rw [m8 _ _ (by omega), wr_ne (by omega)]
        exact g2
  refine v317_703 ?_
  rw [w32_id (x := i + 1) (by omega) (by omega), w32_id (x := i + 2) (by omega) (by omega), w32_id (x := i + 3) (by omega) (by omega), w32_id (x := i + 4) (by omega) (by omega)]
  refine ⟨by omega, fun hx => ⟨by omega, fun hy => ⟨by omega, fun hz => ⟨by omega, fun hw => ?_⟩⟩⟩⟩
  by_cases z : tsv sc (i + 4) = 0
  · rw [if_pos z]
    refine WP_mono (fun D' r h => ?_) (fun D' e h => h) (main _ _ 0)
    refine ⟨by omega, fun _ => ⟨by omega, fun _ => ⟨by omega, fun _ => ⟨by omega, fun _ => ?_⟩⟩⟩⟩
    rw [if_pos z]
    exact h
  · rw [if_neg z]
    refine WP_mono (fun D' r h => ?_) (fun D' e h => h) (main _ _ 1)
    refine ⟨by omega, fun _ => ⟨by omega, fun _ => ⟨by omega, fun _ => ⟨by omega, fun _ => ?_⟩⟩⟩⟩
    rw [if_neg z]
    exact h
end LAE
