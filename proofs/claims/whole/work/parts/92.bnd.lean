/-! the law's loop: bound -/
section BND
variable {sc : Nat × (Nat → Int32)} {D D' : tD} {K : tD → Int → Prop} {E : tD → Nat → Prop} {s c i : Int}
theorem c_num {v : Int} (hT : -mostN ≤ v ∧ v ≤ mostN → K D 1) (hF : ¬ (-mostN ≤ v ∧ v ≤ mostN) → K D 0) : WP sc 26 0 D [(0, (1, v))] [] K E := by
  unfold mostN at hT hF
  refine v26_0 ?_
  simp only [tlc_lt, tlc_gt]
  split
  · exact hF (by omega)
  split
  · exact hF (by omega)
  · exact hT (by omega)
theorem m_num {v : Int} (hT : -mostN ≤ v ∧ v ≤ mostN → K D 1) (hF : ¬ (-mostN ≤ v ∧ v ≤ mostN) → K D 0) : WP sc 169 0 D [(0, (1, v))] [] K E := by
  unfold mostN at hT hF
  exact v169_0 (c_within (fun h => tbl_of (Or.inr rfl) (hT h)) (fun h => tbl_of (Or.inl rfl) (hF h)))
def bgC (D : tD) (f v : Int) : Prop := (0 ≤ f ∧ f < D 5 4) ∧ D (aF 0 f) 5 = 2 ∧ (-mostN ≤ v ∧ v ≤ mostN) ∧ (D (aF 0 f) 6 = 0 ∨ D (aF 0 f + 7) (D (aF 0 f) 6 - 1) < v)
theorem c_bound {f v : Int} (hsh : shR c D 0) (hT : bgC D f v → D (aF 0 f) 6 ≠ 6 → D (aF 0 f) 9 = 0 → K (wr (wr D (aF 0 f + 7) (D (aF 0 f) 6) v) (aF 0 f) 6 (D (aF 0 f) 6 + 1)) (D (aF 0 f) 6 + 1)) (hF : ¬ bgC D f v → D (-1) 0 < 599000 ∧ E (bump D) 90) (hN : bgC D f v → (D (aF 0 f) 6 = 6 ∨ D (aF 0 f) 9 ≠ 0) → D (-1) 0 < 599000 ∧ E (bump D) 91) : WP sc 6 0 D [(0, (1200, 0)), (1, (0, f)), (2, (1, v))] [] K E := by
  have hn := hsh.1
  rw [show (5 : Int) + 975 * 0 = 5 from rfl] at hn
  refine v6_0 (c_famAt (s := 0) (Or.inl rfl) (by rw [show (5 : Int) + 975 * 0 = 5 from rfl]; omega) (fun h => ?_) (fun h => ?_))
  · rw [show (5 : Int) + 975 * 0 = 5 from rfl] at h
    have hfa := hsh.2.1 f h.1 (by rw [show (5 : Int) + 975 * 0 = 5 from rfl]; omega)
    have hb := hfa.2.2.2.2.1
    have hl := ln_bnd (s := 0) (f := f) (Or.inl rfl) (by omega)
    rw [if_neg (by unfold aF; omega)]
    split
    · rename_i hk
      refine c_num (fun hv => ?_) (fun hv => ?_)
      · rw [if_neg (by omega)]
        refine v67_0 ?_
        have go : (D (aF 0 f) 6 = 0 ∨ D (aF 0 f + 7) (D (aF 0 f) 6 - 1) < v) → (if (1 : Int) = 0 then D (-1) 0 < 599000 ∧ E (wr D (-1) 0 (D (-1) 0 + 1)) 90 else if D (aF 0 f) 6 < 6 then (0 ≤ D (aF 0 f) 9 ∧ D (aF 0 f) 9 ≤ 1 → if D (aF 0 f) 9 = 0 then WP sc 68 0 D [(0, (1204, aF 0 f)), (1, (1, v))] [] (fun D10 _ => K D10 (D10 (aF 0 f) 6)) (fun D10 e12 => E D10 e12) else D (-1) 0 < 599000 ∧ E (wr D (-1) 0 (D (-1) 0 + 1)) 91) else D (-1) 0 < 599000 ∧ E (wr D (-1) 0 (D (-1) 0 + 1)) 91) := fun hr => by
          have hg : bgC D f v := ⟨h, hk, hv, hr⟩
          rw [if_neg (by omega)]
          split
          · rename_i h6
            intro _
            split
            · rename_i hu
              refine v68_0 ?_
              rw [if_pos h6, wr_ne (show aF 0 f ≠ aF 0 f + 7 by omega), w32_id (by omega) (by omega)]
              refine ⟨by omega, ?_⟩
              rw [wr_self]
              exact hT hg (by omega) hu
            · rename_i hu
              exact hN hg (Or.inr hu)
          · exact hN hg (Or.inl (by omega))
        split
        · rename_i h0
          exact go (Or.inl h0)
        · rename_i h0
          rw [if_neg (by omega), w32_id (by omega) (by omega)]
          refine ⟨by omega, ?_⟩
          simp only [tlc_gt]
          split
          · rename_i hlt
            exact go (Or.inr hlt)
          · rename_i hlt
            rw [if_pos (by trivial)]
            exact hF (fun w => by rcases w.2.2.2 with w2 | w2; exact h0 w2; exact hlt w2)
      · rw [if_pos rfl]
        exact hF (fun w => hv w.2.2.1)
    · rename_i hk
      exact hF (fun w => hk w.2.1)
  · rw [if_pos rfl]
    rw [show (5 : Int) + 975 * 0 = 5 from rfl] at h
    exact hF (fun w => h w.1)
def bgM (D : tD) (f v : Int) : Prop := (0 ≤ f ∧ f < D 1979 0) ∧ D 1980 f = 2 ∧ (-mostN ≤ v ∧ v ≤ mostN) ∧ (D 1988 f = 0 ∨ D 1987 (6 * f + D 1988 f - 1) < v)
theorem m_bound {f v : Int} (hn : 0 ≤ D 1979 0 ∧ D 1979 0 ≤ 8) (he : 0 ≤ f → f < D 1979 0 → 0 ≤ D 1988 f ∧ D 1988 f ≤ 6) (hT : bgM D f v → D 1988 f ≠ 6 → D 1992 f = 0 → K (wr (wr (wr (wr D 1977 0 0) 1977 0 0) 1987 (6 * f + D 1988 f) v) 1988 f (D 1988 f + 1)) (D 1988 f + 1)) (hF : ¬ bgM D f v → K (wr D 1977 0 1) 0) (hN : bgM D f v → (D 1988 f = 6 ∨ D 1992 f ≠ 0) → K (wr (wr D 1977 0 0) 1977 0 2) 0) : WP sc 213 0 D [(0, (1211, 1977)), (1, (0, f)), (2, (1, v))] [] K E := by
  have no : ¬ bgM D f v → WP sc 213 52 D [(0, (1211, 1977)), (1, (0, f)), (2, (1, v))] [] K E := fun h => by
    refine v213_52 (c_fails1 ?_)
    rw [if_neg (by omega)]
    exact hF h
  refine v213_0 (c_isFam hn (fun hf => ?_) (fun hf => ?_))
  · have hk : D 1980 f = 2 := by rcases hf.2 with w | w; omega; exact w
    have he2 := he hf.1.1 hf.1.2
    rw [if_neg (by omega)]
    refine m_num (fun hv => ?_) (fun hv => ?_)
    · rw [if_neg (by omega)]
      refine ⟨by omega, ?_⟩
      split
      · rename_i h0
        have hg : bgM D f v := ⟨hf.1, hk, hv, Or.inl h0⟩
        refine c_fails0 ?_
        rw [if_pos rfl, wr_ne (show (1988 : Int) ≠ 1977 by omega), wr_ne (show (1992 : Int) ≠ 1977 by omega)]
        refine ⟨by omega, ?_⟩
        split
        · rename_i h6
          refine c_fails1 ?_
          rw [if_neg (by omega)]
          exact hN hg (Or.inl h6)
        · rename_i h6
          refine ⟨by omega, fun _ => ?_⟩
          split
          · rename_i hu
            refine c_fails0 ?_
            rw [if_pos rfl, wr_ne (show (1988 : Int) ≠ 1977 by omega), wr_ne (show (1988 : Int) ≠ 1977 by omega), wr_ne (show (1988 : Int) ≠ 1987 by omega), wr_ne (show (1988 : Int) ≠ 1977 by omega), wr_ne (show (1988 : Int) ≠ 1977 by omega), wr_self]
            try rw [w32_id (x := 6 * f) (by omega) (by omega)]
            try rw [w32_id (x := 6 * f + D 1988 f) (by omega) (by omega)]
            rw [w32_id (x := D 1988 f + 1) (by omega) (by omega)]
            exact ⟨by omega, by omega, by omega, by omega, by omega, hT hg h6 hu⟩
          · rename_i hu
            refine c_fails1 ?_
            rw [if_neg (by omega)]
            exact hN hg (Or.inr hu)
      · rename_i h0
        rw [w32_id (x := 6 * f) (by omega) (by omega), w32_id (x := 6 * f + D 1988 f) (by omega) (by omega), w32_id (x := 6 * f + D 1988 f - 1) (by omega) (by omega)]
        refine ⟨by omega, by omega, ?_⟩
        simp only [tlc_gt]
        split
        · rename_i hlt
          have hg : bgM D f v := ⟨hf.1, hk, hv, Or.inr hlt⟩
          refine c_fails0 ?_
          rw [if_pos rfl, wr_ne (show (1988 : Int) ≠ 1977 by omega), wr_ne (show (1992 : Int) ≠ 1977 by omega)]
          refine ⟨by omega, ?_⟩
          split
          · rename_i h6
            refine c_fails1 ?_
            rw [if_neg (by omega)]
            exact hN hg (Or.inl h6)
          · rename_i h6
            refine ⟨by omega, fun _ => ?_⟩
            split
            · rename_i hu
              refine c_fails0 ?_
              rw [if_pos rfl, wr_ne (show (1988 : Int) ≠ 1977 by omega), wr_ne (show (1988 : Int) ≠ 1977 by omega), wr_ne (show (1988 : Int) ≠ 1987 by omega), wr_ne (show (1988 : Int) ≠ 1977 by omega), wr_ne (show (1988 : Int) ≠ 1977 by omega), wr_self]
              try rw [w32_id (x := 6 * f) (by omega) (by omega)]
              try rw [w32_id (x := 6 * f + D 1988 f) (by omega) (by omega)]
              rw [w32_id (x := D 1988 f + 1) (by omega) (by omega)]
              exact ⟨by omega, by omega, by omega, by omega, by omega, hT hg h6 hu⟩
            · rename_i hu
              refine c_fails1 ?_
              rw [if_neg (by omega)]
              exact hN hg (Or.inr hu)
        · rename_i hlt
          exact no (fun w => by rcases w.2.2.2 with w2 | w2; exact h0 w2; exact hlt w2)
    · rw [if_pos rfl]
      exact no (fun w => hv w.2.2.1)
  · rw [if_pos rfl]
    exact no (fun w => hf ⟨w.1, Or.inr w.2.1⟩)
theorem bg_iff {f v : Int} (h0 : shR c D 0) : bgM D f v ↔ bgC D f v := by
  have hn := h0.1
  rw [show (5 : Int) + 975 * 0 = 5 from rfl] at hn
  unfold bgM bgC
  rw [← hn.1]
  constructor
  · rintro ⟨a, b, d, e⟩
    have hfa := h0.2.1 f a.1 (by rw [show (5 : Int) + 975 * 0 = 5 from rfl]; omega)
    have h1 := hfa.1.1
    have h2 := hfa.2.2.2.2.1
    rw [show 8 * (0 : Int) + f = f from by omega] at h1 h2
    refine ⟨a, by omega, d, ?_⟩
    rw [← h2.1] at e
    rcases e with e | e
    · exact Or.inl e
    · by_cases z : D (aF 0 f) 6 = 0
      · exact Or.inl z
      · right
        rw [(h2.2.2.2.2.1 (D (aF 0 f) 6 - 1) (by omega) (by omega)).1, show 6 * f + (D (aF 0 f) 6 - 1) = 6 * f + D (aF 0 f) 6 - 1 from by omega]
        exact e
  · rintro ⟨a, b, d, e⟩
    have hfa := h0.2.1 f a.1 (by rw [show (5 : Int) + 975 * 0 = 5 from rfl]; omega)
    have h1 := hfa.1.1
    have h2 := hfa.2.2.2.2.1
    rw [show 8 * (0 : Int) + f = f from by omega] at h1 h2
    refine ⟨a, by omega, d, ?_⟩
    rw [← h2.1]
    rcases e with e | e
    · exact Or.inl e
    · by_cases z : D (aF 0 f) 6 = 0
      · exact Or.inl z
      · right
        rw [(h2.2.2.2.2.1 (D (aF 0 f) 6 - 1) (by omega) (by omega)).1, show 6 * f + (D (aF 0 f) 6 - 1) = 6 * f + D (aF 0 f) 6 - 1 from by omega] at e
        exact e
theorem bgM_fr {f v : Int} (h : ∀ a j, (1979 ≤ a ∧ a ≤ 1988) → D' a j = D a j) : bgM D' f v ↔ bgM D f v := by
  unfold bgM
  rw [h 1979 0 (by omega), h 1980 f (by omega), h 1988 f (by omega), h 1987 _ (by omega)]
theorem l_bound (hR : RL RSc D c) (hc : c < 600) (hi : 0 ≤ i ∧ i + 5 ≤ (sc.1 : Int) ∧ (sc.1 : Int) ≤ 2560) (hgo : ∀ D', RL RSc D' (c + 1) → WP sc 317 1610 D' (LV i) [] K E) : WP sc 317 383 D (LV i) [] K E := by
  have r6 := hR.2.2.2.2.2.1
  have r8 := hR.2.2.2.2.2.2.2
  have hn := r8.1.1
  rw [show (5 : Int) + 975 * 0 = 5 from rfl] at hn
  have he : ∀ f, 0 ≤ f → f < D 1979 0 → D (aF 0 f) 6 = D 1988 f ∧ 0 ≤ D 1988 f ∧ D 1988 f ≤ 6 ∧ D (aF 0 f) 9 = D 1992 f := fun f x y => by
    have hfa := r8.1.2.1 f x (by rw [show (5 : Int) + 975 * 0 = 5 from rfl]; omega)
    have h2 := hfa.2.2.2.2.1
    have h9 := (hfa.2.2.2.2.2.2 rfl).2.2.2
    rw [show 8 * (0 : Int) + f = f from by omega] at h2
    omega
  refine v317_383 ?_
  rw [w32_id (x := i + 1) (by omega) (by omega), w32_id (x := i + 2) (by omega) (by omega), w32_id (x := i + 3) (by omega) (by omega)]
  refine ⟨by omega, fun hx => ⟨by omega, fun hy => ⟨by omega, fun hz => v300_0 ?_⟩⟩⟩
  generalize tlo (tlsl (tsv sc (i + 2)) 32) (tla (tsv sc (i + 3)) 4294967295) = v
  generalize tsv sc (i + 2) = y at hy ⊢
  generalize tsv sc (i + 3) = z at hz ⊢
  generalize tsv sc (i + 1) = f at hx ⊢
  have frb : ∀ a j, (1979 ≤ a ∧ a ≤ 1992) → bump D a j = D a j := fun a j u => bump_ne (by omega)
  refine c_bound r8.1 (fun hg h6 hu => ?_) (fun hg => ?_) (fun hg h6 => ?_)
  · refine ⟨by decide +kernel, by omega, fun _ => ⟨by omega, fun _ => ⟨by omega, fun _ => ?_⟩⟩⟩
    have hm := (bg_iff r8.1).mpr hg
    have he2 := he f hm.1.1 hm.1.2
    have hf8 := hm.1
    have fr1 : ∀ a j, (1979 ≤ a ∧ a ≤ 1992) → (wr (wr (wr D (aF 0 f + 7) (D (aF 0 f) 6) v) (aF 0 f) 6 (D (aF 0 f) 6 + 1)) 2017 0 (D (aF 0 f) 6 + 1)) a j = D a j := fun a j u => by rw [wr_ne (by omega), wr_ne (by unfold aF; omega), wr_ne (by unfold aF; omega)]
    refine m_bound (by rw [fr1 _ _ (by omega)]; omega) (fun x y => by rw [fr1 1979 _ (by omega)] at y; rw [fr1 1988 _ (by omega)]; have := he f x y; omega) (fun _ _ _ => ?_) (fun w => absurd ((bgM_fr (fun a j u => fr1 a j (by omega))).mpr hm) w) (fun _ w => ?_)
    · rw [fr1 1988 _ (by omega)]
      generalize hD2 : (wr (wr (wr (wr (wr (wr (wr D (aF 0 f + 7) (D (aF 0 f) 6) v) (aF 0 f) 6 (D (aF 0 f) 6 + 1)) 2017 0 (D (aF 0 f) 6 + 1)) 1977 0 0) 1977 0 0) 1987 (6 * f + D 1988 f) v) 1988 f (D 1988 f + 1)) = D2
      have ne : ∀ a j, a ≠ aF 0 f → a ≠ aF 0 f + 7 → a ≠ 2017 → a ≠ 1977 → a ≠ 1987 → a ≠ 1988 → D2 a j = D a j := fun a j u1 u2 u3 u4 u5 u6 => by rw [← hD2, wr_ne u6, wr_ne u5, wr_ne u4, wr_ne u4, wr_ne u3, wr_ne u1, wr_ne u2]
      have ntj : ∀ j, j ≠ 0 → D2 1977 j = D 1977 j := fun j u => by rw [← hD2, wr_ne (by omega), wr_ne (by omega), wr_ni u, wr_ni u, wr_ne (by omega), wr_ne (by unfold aF; omega), wr_ne (by unfold aF; omega)]
      have nj : ∀ j, j ≠ 6 → D2 (aF 0 f) j = D (aF 0 f) j := fun j u => by rw [← hD2, wr_ne (by unfold aF; omega), wr_ne (by unfold aF; omega), wr_ne (by unfold aF; omega), wr_ne (by unfold aF; omega), wr_ne (by unfold aF; omega), wr_ni u, wr_ne (by omega)]
      have n6 : D2 (aF 0 f) 6 = D (aF 0 f) 6 + 1 := by rw [← hD2, wr_ne (by unfold aF; omega), wr_ne (by unfold aF; omega), wr_ne (by unfold aF; omega), wr_ne (by unfold aF; omega), wr_ne (by unfold aF; omega), wr_self]
      have n7 : ∀ j, D2 (aF 0 f + 7) j = if j = D (aF 0 f) 6 then v else D (aF 0 f + 7) j := fun j => by
        rw [← hD2, wr_ne (by unfold aF; omega), wr_ne (by unfold aF; omega), wr_ne (by unfold aF; omega), wr_ne (by unfold aF; omega), wr_ne (by unfold aF; omega), wr_ne (by omega)]
        simp [wr]
      have n87 : ∀ j, D2 1987 j = if j = 6 * f + D 1988 f then v else D 1987 j := fun j => by
        rw [← hD2, wr_ne (by omega)]
        have e : (wr (wr (wr (wr (wr D (aF 0 f + 7) (D (aF 0 f) 6) v) (aF 0 f) 6 (D (aF 0 f) 6 + 1)) 2017 0 (D (aF 0 f) 6 + 1)) 1977 0 0) 1977 0 0) 1987 j = D 1987 j := by rw [wr_ne (by omega), wr_ne (by omega), fr1 _ _ (by omega)]
        rw [← e]
        simp [wr]
      have n88 : ∀ j, D2 1988 j = if j = f then D 1988 f + 1 else D 1988 j := fun j => by
        rw [← hD2]
        have e : (wr (wr (wr (wr (wr (wr D (aF 0 f + 7) (D (aF 0 f) 6) v) (aF 0 f) 6 (D (aF 0 f) 6 + 1)) 2017 0 (D (aF 0 f) 6 + 1)) 1977 0 0) 1977 0 0) 1987 (6 * f + D 1988 f) v) 1988 j = D 1988 j := by rw [wr_ne (by omega), wr_ne (by omega), wr_ne (by omega), fr1 _ _ (by omega)]
        rw [← e]
        simp [wr]
      have hfa := r8.1.2.1 f hm.1.1 (by rw [show (5 : Int) + 975 * 0 = 5 from rfl]; omega)
      refine tail_r ?_ (fun _ => ?_) (hgo _ (RL_upd hR hc (Or.inl (ne _ _ (by unfold aF; omega) (by unfold aF; omega) (by omega) (by omega) (by omega) (by omega))) (fun a j u1 u2 => ?_) (RSc_kept r8 (shR_fam (f := f) (Or.inl rfl) (by omega) (by omega) (fun _ => ?_) ⟨nj _ (by omega), by rw [n6]; omega⟩ (fun a j u1 u2 => ?_) r8.1) (fun a j u => ?_) (fun a j u1 u2 u3 u4 u5 u6 => ?_) (fun a j u => ne _ _ (by unfold aF; omega) (by unfold aF; omega) (by omega) (by omega) (by omega) (by omega)))))
      · rw [← hD2, wr_ne (by omega), wr_ne (by omega), wr_self]
      · rw [← hD2, wr_ne (by omega), wr_ne (by omega), wr_ne (by omega), wr_ne (by omega), wr_self]; omega
      · rcases u1 with u1 | u1
        · exact absurd u1 u2
        · by_cases e : a = 1977
          · rw [e]; exact ntj _ (by omega)
          · exact ne _ _ (by unfold aF; omega) (by unfold aF; omega) (by omega) e (by omega) (by omega)
      · refine faR_mk (nj _ (by omega)) (fun a j x y => ne _ _ (by omega) (by omega) (by unfold aF at y; omega) (by unfold aF at y; omega) (by unfold aF at y; omega) (by unfold aF at y; omega)) (fun a j x y => ne _ _ (by unfold aF; omega) (by unfold aF; omega) (by omega) (by omega) (by omega) (by omega)) ?_ (faT_fr (nj _ (by omega)) (nj _ (by omega)) (fun a j x y => ne _ _ (by omega) (by omega) (by unfold aF at y; omega) (by unfold aF at y; omega) (by unfold aF at y; omega) (by unfold aF at y; omega)) (fun a j x y => ne _ _ (by unfold aF; omega) (by unfold aF; omega) (by omega) (by omega) (by omega) (by omega)) hfa.2.2.2.2.2.1) (fun z => ?_) hfa
        · obtain ⟨b1, b2, b3, b4, b5, b6⟩ := hfa.2.2.2.2.1
          rw [show 8 * (0 : Int) + f = f from by omega] at b1 b5
          unfold faB
          rw [show 8 * (0 : Int) + f = f from by omega, n6, n88, if_pos rfl, nj 5 (by omega)]
          refine ⟨by omega, by omega, by omega, fun w => absurd hg.2.1 w, fun k x y => ?_, fun k x y => ?_⟩
          · rw [n7, n87]
            by_cases e : k = D (aF 0 f) 6
            · rw [if_pos e, if_pos (by omega)]
              exact ⟨rfl, hg.2.2.1⟩
            · rw [if_neg e, if_neg (by omega)]
              exact b5 k x (by omega)
          · rw [n7, n7, if_neg (by omega)]
            by_cases e : k + 1 = D (aF 0 f) 6
            · rw [if_pos e]
              rcases hg.2.2.2 with w | w
              · omega
              · rw [show D (aF 0 f) 6 - 1 = k from by omega] at w
                exact w
            · rw [if_neg e]
              exact b6 k x (by omega)
        · have h9 := hfa.2.2.2.2.2.2 rfl
          rw [nj 8 (by omega), nj 9 (by omega), ne 1993 f (by unfold aF; omega) (by unfold aF; omega) (by omega) (by omega) (by omega) (by omega), ne 1992 f (by unfold aF; omega) (by unfold aF; omega) (by omega) (by omega) (by omega) (by omega)]
          exact h9
      · have v1 : ¬ (aF 0 f ≤ a ∧ a ≤ aF 0 f + 16) := fun w => u2 (Or.inl w)
        by_cases e1 : a = 1977
        · have : j = 22 := by
            rcases u1 with w | w | w | w | w | w | w <;> omega
          rw [e1, this]; exact ntj _ (by omega)
        · by_cases e2 : a = 1987
          · rw [e2, n87, if_neg (fun w => u2 (Or.inr (Or.inr (Or.inr (Or.inr (Or.inr (Or.inl ⟨e2, by omega, by omega⟩)))))))]
          · by_cases e3 : a = 1988
            · rw [e3, n88, if_neg (fun w => u2 (Or.inr (Or.inl ⟨by omega, by omega⟩)))]
            · have e4 : a ≠ 2017 := fun w => by
                rcases u1 with w1 | w1 | w1 | w1 | w1 | w1 | w1 <;> omega
              exact ne _ _ (by omega) (by omega) e4 e1 e2 e3
      · by_cases e1 : a = 1977
        · rw [e1]; exact ntj _ (by omega)
        · exact ne _ _ (by unfold aF; omega) (by unfold aF; omega) (by omega) e1 (by omega) (by omega)
      · by_cases e2 : a = 1987
        · rw [e2, n87, if_neg]
          intro w
          rcases u6 with ⟨g, g1, g2, g3⟩ | ⟨g, g1, g2, g3⟩ | g | g
          · rcases g3 with q | q | q | q | q | q | q | q | q
            · unfold aF at q; omega
            all_goals omega
          · have := cdep_hi (Or.inr rfl) ⟨g1, g2⟩ g3 (by omega); omega
          · omega
          · omega
        · by_cases e3 : a = 1988
          · rw [e3, n88, if_neg]
            intro w
            rcases u6 with ⟨g, g1, g2, g3⟩ | ⟨g, g1, g2, g3⟩ | g | g
            · rcases g3 with q | q | q | q | q | q | q | q | q
              · unfold aF at q; omega
              all_goals omega
            · have := cdep_hi (Or.inr rfl) ⟨g1, g2⟩ g3 (by omega); omega
            · omega
            · omega
          · exact ne _ _ (by unfold aF; omega) (by unfold aF; omega) (by omega) (by omega) e2 e3
    · exfalso
      rw [fr1 1988 _ (by omega), fr1 1992 _ (by omega)] at w
      omega
  · refine ⟨by omega, ?_⟩
    rw [if_pos rfl]
    refine ⟨by omega, fun _ => ⟨by omega, fun _ => ⟨by omega, fun _ => ?_⟩⟩⟩
    refine m_bound (by rw [frb _ _ (by omega)]; omega) (fun x y => by rw [frb 1979 _ (by omega)] at y; rw [frb 1988 _ (by omega)]; have := he f x y; omega) (fun w _ _ => absurd ((bg_iff r8.1).mp ((bgM_fr (fun a j u => frb a j (by omega))).mp w)) hg) (fun _ => ?_) (fun w _ => absurd ((bg_iff r8.1).mp ((bgM_fr (fun a j u => frb a j (by omega))).mp w)) hg)
    exact tail_r wr_self (fun h => by omega) (hgo _ (RL_thr hR hc))
  · refine ⟨by omega, ?_⟩
    have hm := (bg_iff r8.1).mpr hg
    have he2 := he f hm.1.1 hm.1.2
    have hf8 := hm.1
    rw [if_neg (by omega), if_pos rfl]
    refine ⟨by omega, fun _ => ⟨by omega, fun _ => ⟨by omega, fun _ => ?_⟩⟩⟩
    refine m_bound (by rw [frb _ _ (by omega)]; omega) (fun x y => by rw [frb 1979 _ (by omega)] at y; rw [frb 1988 _ (by omega)]; have := he f x y; omega) (fun _ w1 w2 => ?_) (fun w => absurd ((bgM_fr (fun a j u => frb a j (by omega))).mpr hm) w) (fun _ _ => ?_)
    · exfalso
      rw [frb 1988 _ (by omega)] at w1
      rw [frb 1992 _ (by omega)] at w2
      omega
    · exact tail_r wr_self (fun h => by omega) (hgo _ (RL_thr2 hR hc))
end BND
