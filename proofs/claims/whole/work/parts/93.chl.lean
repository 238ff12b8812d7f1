/-! the law's loop: set, turn -/
section CHL
variable {sc : Nat × (Nat → Int32)} {D D' : tD} {K : tD → Int → Prop} {E : tD → Nat → Prop} {s c c' i : Int}
theorem cdep_ne {k g a j : Int} (hs : s = 0 ∨ s = 1) (hk : 0 ≤ k ∧ k < 24) (hg : 0 ≤ g ∧ g < 24) (u : cdep s k a j) (v : cdep s g a j) : k = g := by
  by_cases h : a < 1980
  · have h1 := cdep_lo u h
    have h2 := cdep_lo v h
    unfold aC at h1 h2
    omega
  · rcases u with u | u | u | u | u
    · unfold aC at u; omega
    all_goals
      rcases v with v | v | v | v | v
      · unfold aC at v; omega
      all_goals omega
theorem cdep_fdep {k f a j : Int} (hs : s = 0 ∨ s = 1) (hk : 0 ≤ k ∧ k < 24) (hf : 0 ≤ f ∧ f < 9) (u : cdep s k a j) (w : fdep s f a j) : False := by
  by_cases hl : a < 1980
  · have v1 := cdep_lo u hl
    have v2 := fdep_lo w hl
    unfold aC at v1
    unfold aF at v2
    omega
  · have v1 := cdep_hi hs hk u hl
    have v2 := fdep_hi hs hf w hl
    omega
/-- a sheet with one child other than before -/
theorem shR_chl {k : Int} (hs : s = 0 ∨ s = 1) (hk : 0 ≤ k ∧ k < 24) (hc : c ≤ c') (h3 : D' (aC s k) 3 = D (aC s k) 3) (hC : D (aC s k) 3 = 1 → chR c' D' s k) (h : ∀ a j, sdep s a j → ¬ cdep s k a j → D' a j = D a j) (hx : shR c D s) : shR c' D' s := by
  have nc : ∀ a j, a < 1980 → ¬ (aC s k ≤ a ∧ a ≤ aC s k + 33) → ¬ cdep s k a j := fun a j x y z => y (cdep_lo z x)
  have nh : ∀ a j, ¬ a < 1980 → ¬ (1995 ≤ a ∧ a ≤ 2007 ∧ a ≠ 1996) → ¬ cdep s k a j := fun a j x y z => y (cdep_hi hs hk z x)
  have h2 : ∀ a j, 5 + 975 * s ≤ a → a ≤ 979 + 975 * s → ¬ (aC s k ≤ a ∧ a ≤ aC s k + 33) → D' a j = D a j := fun a j x y z => h a j (Or.inl ⟨x, y⟩) (nc a j (by omega) z)
  have h94 : ∀ a j, a = 1994 ∨ a = 1996 → 24 * s ≤ j → j < 24 * s + 24 → D' a j = D a j := fun a j x y z => h a j (Or.inr (Or.inr (Or.inr (Or.inr (Or.inl ⟨x, y, z⟩))))) (nh _ _ (by omega) (by omega))
  have h22 : D' 1977 22 = D 1977 22 := h _ _ (Or.inr (Or.inr (Or.inr (Or.inr (Or.inr (Or.inr ⟨rfl, rfl⟩)))))) (nc _ _ (by omega) (by unfold aC; omega))
  have hS : ∀ j, D' (5 + 975 * s) j = D (5 + 975 * s) j := fun j => h2 _ _ (by omega) (by omega) (by unfold aC; omega)
  have hC3 : ∀ g, 0 ≤ g → g < 24 → D' (aC s g) 3 = D (aC s g) 3 := fun g x y => by
    by_cases e : g = k
    · rw [e]; exact h3
    · exact h2 _ _ (by unfold aC; omega) (by unfold aC; omega) (by unfold aC; omega)
  obtain ⟨a1, a2, a3, a4⟩ := hx
  refine ⟨by rw [hS, h 1979 s (Or.inr (Or.inl ⟨rfl, rfl⟩)) (nc _ _ (by omega) (by unfold aC; omega))]; exact a1, fun g x y => ?_, fun g x y => ?_, orR_fr2 hs (hS _) (fun j => h2 _ _ (by omega) (by omega) (by unfold aC; omega)) hC3 (fun j x y => h94 _ _ (Or.inr rfl) x y) h22 a4⟩
  · rw [hS] at y
    exact faR_fr2 (fun a j u => h a j (sdep_f hs (by omega) u) (fun w => cdep_fdep hs hk (by omega) w u)) (a2 g x y)
  · obtain ⟨b1, b2, b3⟩ := a3 g x y
    rw [hC3 g x y, h94 1994 _ (Or.inl rfl) (by omega) (by omega)]
    refine ⟨b1, b2, fun z => ?_⟩
    by_cases e : g = k
    · subst e
      exact hC z
    · have hp := (b3 z).1
      exact chR_fr2 hc (hS _) (kfR (fun j => h2 _ _ (by unfold aF; omega) (by unfold aF; omega) (by have ek : aC s k = 161 + 975 * s + 34 * k := rfl; unfold aF; omega))) (fun a j u => h a j (sdep_c hs ⟨x, y⟩ u) (fun w => e (cdep_ne hs ⟨x, y⟩ hk u w))) (b3 z)
/-- the parts of a child -/
def chN (D : tD) (s k : Int) : Prop := D (aC s k) 5 = D 1999 (24 * s + k) ∧ -mostN ≤ D (aC s k) 5 ∧ D (aC s k) 5 ≤ mostN
def chS (D : tD) (s k : Int) : Prop := D (aC s k) 7 = D 2001 (24 * s + k) ∧ 0 ≤ D (aC s k) 7 ∧ D (aC s k) 7 ≤ 15
def chK (c : Int) (D : tD) (s k : Int) : Prop := ∀ b, 0 ≤ b → b < 7 → D (aC s k + 4) b = D 2002 (7 * (24 * s + k) + b) ∧ 0 ≤ D (aC s k + 4) b ∧ D (aC s k + 4) b ≤ 1000000000000 + c ∧ (D (aF s (D (aC s k) 4)) 5 ≠ 2 ∨ D (aF s (D (aC s k) 4)) 6 < b → D (aC s k + 4) b = 0)
def chX (D : tD) (s k : Int) : Prop := ∀ b, 0 ≤ b → b < 7 → exR D (aX s k b) (7 * (24 * s + k) + b)
theorem chR_mk {k : Int} (hS : D' (5 + 975 * s) 4 = D (5 + 975 * s) 4) (h46 : D' (aC s k) 4 = D (aC s k) 4 ∧ D' (aC s k) 6 = D (aC s k) 6) (h1 : ∀ a j, aC s k + 1 ≤ a → a ≤ aC s k + 3 → D' a j = D a j) (hm : ∀ a j, a = 1995 ∨ a = 1997 ∨ a = 1998 ∨ a = 2000 → D' a j = D a j) (hN : chN D' s k) (hT : chS D' s k) (hK : chK c' D' s k) (hX : chX D' s k) (hx : chR c D s k) : chR c' D' s k := by
  obtain ⟨a1, ⟨a2, a3⟩, -, a5, -, -, -⟩ := hx
  exact ⟨by rw [hS, h46.1, hm 1995 _ (by omega)]; exact a1, ⟨rowm_fr (fun j => h1 _ _ (by omega) (by omega)) (fun j => h1 _ _ (by omega) (by omega)) (fun j => hm _ _ (by omega)) (hm _ _ (by omega)) a2, lsW_fr (h1 _ _ (by omega) (by omega)) (rat_fr (h1 _ _ (by omega) (by omega)) (fun j => h1 _ _ (by omega) (by omega))) (h1 _ _ (by omega) (by omega)) a3⟩, hN, by rw [h46.2, hm 2000 _ (by omega)]; exact a5, hT, hK, hX⟩
theorem chK_fr {k : Int} (hc : c ≤ c') (h4 : D' (aC s k) 4 = D (aC s k) 4) (hK : D' (aF s (D (aC s k) 4)) 5 = D (aF s (D (aC s k) 4)) 5 ∧ D (aF s (D (aC s k) 4)) 6 ≤ D' (aF s (D (aC s k) 4)) 6) (h : ∀ j, D' (aC s k + 4) j = D (aC s k + 4) j) (hm : ∀ j, D' 2002 j = D 2002 j) (hx : chK c D s k) : chK c' D' s k := by
  intro b x y
  rw [h, hm, h4, hK.1]
  obtain ⟨u1, u2, u3, u4⟩ := hx b x y
  exact ⟨u1, u2, by omega, fun w => u4 (w.imp id (fun z => Int.lt_of_le_of_lt hK.2 z))⟩
theorem chX_fr {k : Int} (h : ∀ a j, aC s k + 6 ≤ a → a ≤ aC s k + 33 → D' a j = D a j) (hm : ∀ a j, 2003 ≤ a → a ≤ 2007 → D' a j = D a j) (hx : chX D s k) : chX D' s k := by
  intro b x y
  refine exR_fr (fun a j u v => h _ _ ?_ ?_) hm (hx b x y)
  · unfold aX at u; unfold aC; omega
  · unfold aX at v; unfold aC; omega
theorem c_isCh {x k1 k2 : Int} (h0 : shR c D 0) (h1 : k1 = k2 ∨ k1 ≠ k2) (hk : 0 ≤ k1) (hT : 0 ≤ x ∧ x < 24 → D (aC 0 x) 3 = 1 → (D (aF 0 (D (aC 0 x) 4)) 5 = k1 ∨ D (aF 0 (D (aC 0 x) 4)) 5 = k2) → K D 1) (hF : ¬ (0 ≤ x ∧ x < 24 ∧ D (aC 0 x) 3 = 1 ∧ (D (aF 0 (D (aC 0 x) 4)) 5 = k1 ∨ D (aF 0 (D (aC 0 x) 4)) 5 = k2)) → K D 0) : WP sc 220 0 D [(0, (1211, 1977)), (1, (0, x)), (2, (0, k1)), (3, (0, k2))] [] K E := by
  have hn := h0.1
  refine v220_0 (c_within (fun hx => ?_) (fun hx => ?_))
  · rw [if_neg (by omega)]
    obtain ⟨b1, b2, b3⟩ := h0.2.2.1 x hx.1 (by omega)
    rw [show 24 * (0 : Int) + x = x from by omega] at b1
    refine ⟨by omega, fun _ => ?_⟩
    rw [← b1]
    split
    · exact hF (fun w => by omega)
    · rename_i q
      have hch := b3 (by omega)
      have hp := hch.1
      have hfa := (h0.2.1 _ hp.1 hp.2.1).1.1
      rw [show 24 * (0 : Int) + x = x from by omega] at hp
      rw [show 8 * (0 : Int) + D (aC 0 x) 4 = D (aC 0 x) 4 from by omega] at hfa
      rw [if_neg (by omega), hp.2.2, show D (aC 0 x) 4 + 8 * 0 = D (aC 0 x) 4 from by omega, ← hfa]
      refine ⟨by omega, by omega, ?_⟩
      split
      · rename_i z
        exact hT (by omega) (by omega) (Or.inl z)
      · rename_i z
        refine ⟨by omega, by omega, ?_⟩
        split
        · rename_i z2
          exact hT (by omega) (by omega) (Or.inr z2)
        · rename_i z2
          exact hF (fun w => by rcases w.2.2.2 with w2 | w2; exact z w2; exact z2 w2)
  · rw [if_pos rfl]
    exact hF (fun w => hx (by omega))
/-- a kept child of a kind -/
def kcC (D : tD) (x kd : Int) : Prop := 0 ≤ x ∧ x < 24 ∧ D (aC 0 x) 3 = 1 ∧ D (aF 0 (D (aC 0 x) 4)) 5 = kd
theorem c_kc {x kd : Int} (h0 : shR c D 0) (hT : kcC D x kd → K D (aC 0 x)) (hF : ¬ kcC D x kd → K D (-1)) : WP sc 117 0 D [(0, (1208, 5)), (1, (0, kd)), (2, (0, x))] [] K E := by
  have hn := h0.1
  refine c_ofKind (s := 0) (Or.inl rfl) (fun k u v w => ?_) (fun h1 h2 h3 => hT ⟨h1.1, h1.2, ?_, h3⟩) (fun h => hF (fun w => h ⟨w.1, w.2.1, by have := w.2.2.1; omega, w.2.2.2⟩))
  · obtain ⟨b1, b2, b3⟩ := h0.2.2.1 k u v
    have := (b3 (by omega)).1
    omega
  · obtain ⟨b1, b2, b3⟩ := h0.2.2.1 x h1.1 h1.2
    omega
theorem kcC_fr {x kd : Int} (h0 : shR c D 0) (h : ∀ a j, depS a j → D' a j = D a j) : kcC D' x kd ↔ kcC D x kd := by
  have hn := h0.1
  unfold kcC
  constructor
  · rintro ⟨a, b, d, e⟩
    rw [h _ _ (by unfold depS aC; omega)] at d
    have hp := ((h0.2.2.1 x a b).2.2 d).1
    rw [h (aC 0 x) 4 (by unfold depS aC; omega), h _ 5 (by unfold depS aF; omega)] at e
    exact ⟨a, b, d, e⟩
  · rintro ⟨a, b, d, e⟩
    have hp := ((h0.2.2.1 x a b).2.2 d).1
    refine ⟨a, b, by rw [h _ _ (by unfold depS aC; omega)]; exact d, ?_⟩
    rw [h (aC 0 x) 4 (by unfold depS aC; omega), h _ 5 (by unfold depS aF; omega)]
    exact e
/-- what stands when one field of a kept child, and its cell, are set -/
theorem RL_fld {D2 : tD} {x fld arr v : Int} (hR : RL RSc D c) (hc : c < 600) (hx : 0 ≤ x ∧ x < 24) (h3 : D (aC 0 x) 3 = 1) (hfa : (fld = 5 ∧ arr = 1999 ∧ -mostN ≤ v ∧ v ≤ mostN) ∨ (fld = 7 ∧ arr = 2001 ∧ 0 ≤ v ∧ v ≤ 15)) (e1 : D2 (aC 0 x) fld = v) (e2 : D2 arr x = v) (h1 : D2 (-1) 0 = D (-1) 0) (hC : ∀ j, j ≠ fld → D2 (aC 0 x) j = D (aC 0 x) j) (hA : ∀ j, j ≠ x → D2 arr j = D arr j) (hM : ∀ j, j ≠ 0 → D2 1977 j = D 1977 j) (hr : ∀ a j, a ≠ aC 0 x → a ≠ arr → a ≠ 1977 → a ≠ 2017 → a ≠ -1 → D2 a j = D a j) : RL RSc D2 (c + 1) := by
  have r8 := hR.2.2.2.2.2.2.2
  have hn := r8.1.1
  have ha : arr = 1999 ∨ arr = 2001 := by omega
  have hch := (r8.1.2.2.1 x hx.1 hx.2).2.2 h3
  have hp := hch.1
  have q : ∀ a j, a ≠ aC 0 x → a ≠ 1999 → a ≠ 2001 → a ≠ 1977 → a ≠ 2017 → a ≠ -1 → D2 a j = D a j := fun a j u1 u2 u3 u4 u5 u6 => hr a j u1 (by omega) u4 u5 u6
  refine RL_upd hR hc (Or.inl h1) (fun a j u1 u2 => ?_) (RSc_kept r8 (shR_chl (k := x) (Or.inl rfl) hx (by omega) (hC _ (by omega)) (fun _ => chR_mk (q _ _ (by unfold aC; omega) (by omega) (by omega) (by omega) (by omega) (by omega)) ⟨hC _ (by omega), hC _ (by omega)⟩ (fun a j u v => q _ _ (by omega) (by unfold aC at v; omega) (by unfold aC at v; omega) (by unfold aC at v; omega) (by unfold aC at v; omega) (by unfold aC at u; omega)) (fun a j u => q _ _ (by unfold aC; omega) (by omega) (by omega) (by omega) (by omega) (by omega)) ?_ ?_ (chK_fr (by omega) (hC _ (by omega)) (kfR (fun j => q _ _ (by have ek : aC 0 x = 161 + 975 * 0 + 34 * x := rfl; unfold aF; omega) (by unfold aF; omega) (by unfold aF; omega) (by unfold aF; omega) (by unfold aF; omega) (by unfold aF; omega))) (fun j => q _ _ (by omega) (by unfold aC; omega) (by unfold aC; omega) (by unfold aC; omega) (by unfold aC; omega) (by unfold aC; omega)) (fun j => q _ _ (by unfold aC; omega) (by omega) (by omega) (by omega) (by omega) (by omega)) hch.2.2.2.2.2.1) (chX_fr (fun a j u v => q _ _ (by omega) (by unfold aC at v; omega) (by unfold aC at v; omega) (by unfold aC at v; omega) (by unfold aC at v; omega) (by unfold aC at u; omega)) (fun a j u v => q _ _ (by unfold aC; omega) (by omega) (by omega) (by omega) (by omega) (by omega)) hch.2.2.2.2.2.2) hch) (fun a j u1 u2 => ?_) r8.1) (fun a j u => ?_) (fun a j u1 u2 u3 u4 u5 u6 => ?_) (fun a j u => q _ _ (by unfold aC; omega) (by omega) (by omega) (by omega) (by omega) (by omega)))
  · rcases u1 with u1 | u1
    · exact absurd u1 u2
    · by_cases e : a = 1977
      · rw [e]; exact hM _ (by omega)
      · exact q _ _ (by unfold aC; omega) (by omega) (by omega) e (by omega) (by omega)
  · unfold chN
    rw [show 24 * (0 : Int) + x = x from by omega]
    rcases hfa with ⟨g1, g2, g3⟩ | ⟨g1, g2, g3⟩
    · subst g1 g2; rw [e1, e2]; exact ⟨rfl, g3⟩
    · have := hch.2.2.1
      rw [show 24 * (0 : Int) + x = x from by omega] at this
      rw [hC 5 (by omega), hr 1999 x (by unfold aC; omega) (by omega) (by omega) (by omega) (by omega)]; exact this
  · unfold chS
    rw [show 24 * (0 : Int) + x = x from by omega]
    rcases hfa with ⟨g1, g2, g3⟩ | ⟨g1, g2, g3⟩
    · have := hch.2.2.2.2.1
      rw [show 24 * (0 : Int) + x = x from by omega] at this
      rw [hC 7 (by omega), hr 2001 x (by unfold aC; omega) (by omega) (by omega) (by omega) (by omega)]; exact this
    · subst g1 g2; rw [e1, e2]; exact ⟨rfl, g3⟩
  · have v1 : ¬ (aC 0 x ≤ a ∧ a ≤ aC 0 x + 33) := fun w => u2 (Or.inl w)
    by_cases e3 : a = 1977
    · have : j = 22 := by
        rcases u1 with w | w | w | w | w | w | w <;> omega
      rw [e3, this]; exact hM _ (by omega)
    · by_cases e4 : a = arr
      · have : j ≠ x := fun w => u2 (Or.inr (Or.inl ⟨by omega, by omega⟩))
        rw [e4]; exact hA _ this
      · have e5 : a ≠ 2017 ∧ a ≠ -1 := by
          rcases u1 with w | w | w | w | w | w | w <;> omega
        exact hr _ _ (by omega) e4 e3 e5.1 e5.2
  · by_cases e3 : a = 1977
    · rw [e3]; exact hM _ (by omega)
    · exact q _ _ (by unfold aC; omega) (by omega) (by omega) e3 (by omega) (by omega)
  · by_cases e4 : a = arr
    · rw [e4]
      refine hA _ (fun w => ?_)
      rcases u6 with ⟨g, g1, g2, g3⟩ | ⟨g, g1, g2, g3⟩ | g | g
      · have := fdep_hi (Or.inr rfl) (by omega) g3 (by omega); omega
      · rcases g3 with z | z | z | z | z
        · unfold aC at z; omega
        all_goals omega
      · omega
      · omega
    · exact hr _ _ (by unfold aC; omega) e4 (by omega) (by omega) (by omega)
end CHL
