/-! reading: head lines, both sides after them -/
section RCH
variable {sc : Nat × (Nat → Int32)} {D D' A A' : tD} {K : tD → Int → Prop} {E : tD → Nat → Prop} {T : Int → Int} {n c : Int}
theorem aF1 (f : Int) : aF 1 f = 982 + 17 * f := by unfold aF; omega
theorem aC1 (k : Int) : aC 1 k = 1136 + 34 * k := by unfold aC; omega
theorem RC_type {p B s e kd f q : Int} (h : RC c T n p B D A) (hw : D 1956 11 ≠ 0) (hR : tyR D D' T s e kd f q) (hM : myR A A' T s e kd f q) (hW : frW A A') (hn : fnamT T s e) (hk : 0 ≤ kd ∧ kd ≤ 4) (hf : D 980 4 = f ∧ f < 8) (hq : 0 ≤ q ∧ q ≤ n) : RC c T n q B D' A' := by
  obtain ⟨⟨h1, h2⟩, ⟨h3, h3'⟩, ⟨⟨h4, h5, h6⟩, h7, h8⟩, h9, h10, h11, h12, h13⟩ := h
  obtain ⟨r1, r2, r3, r4, r5, r6, r7⟩ := hR
  obtain ⟨m1, m2, m3, m4, m5, m6, m7, m8, m9⟩ := hM
  have f0 : 0 ≤ f := by have := h3.1.2.1; rw [mx_lo (by omega)] at this; have : 0 ≤ D 980 4 := this; omega
  have aFb := aF1 f
  have d980 : ∀ j, j ≠ 4 → D' 980 j = D 980 j := fun j u => r7 _ _ (by omega) (by omega) (by omega) (by omega) (by omega) (by omega)
  have d56 : ∀ j, ¬ (j = 5 ∨ j = 6 ∨ j = 7 ∨ j = 10 ∨ j = 12 ∨ j = 17) → D' 1956 j = D 1956 j := fun j u => r7 _ _ (by omega) (by omega) (by omega) (by omega) (by omega) (by omega)
  have d57 : ∀ j, j ≠ 1 → D' 1957 j = D 1957 j := fun j u => r7 _ _ (by omega) (by omega) (by omega) (by omega) (by omega) (by omega)
  have dC : ∀ k d j, 0 ≤ k → k < 24 → 0 ≤ d → d ≤ 33 → D' (aC 1 k + d) j = D (aC 1 k + d) j := fun k d j u v w1 w2 => by
    have := aC1 k
    exact r7 _ _ (by omega) (by omega) (by omega) (by omega) (by omega) (by omega)
  have dC0 : ∀ k j, 0 ≤ k → k < 24 → D' (aC 1 k) j = D (aC 1 k) j := fun k j u v => by
    have := dC k 0 j u v (by omega) (by omega)
    rw [show aC 1 k + 0 = aC 1 k from by omega] at this
    exact this
  have nb : ∀ j, 0 ≤ j → j < e - s → 48 ≤ T (s + j) ∧ T (s + j) ≤ 122 := fun j u v => srt5_lt (hn.2.2.2 (s + j) (by omega) (by omega))
  have e24 := hn.2.1
  have es1 := hn.1
  have sh : shR c (mx D' A') 1 := by
    refine shR_add (D := mx D A) (f := f) (Or.inr rfl) (by rw [mx_lo (by omega)]; exact hf.1) (Int.le_refl _) (Or.inr ⟨hf.2, by rw [mx_lo (by omega)]; exact r4, by rw [mx_hi (by omega)]; exact m3, ?_⟩) (by rw [mx_lo (by omega), mx_lo (by omega)]; exact d980 5 (by omega)) (fun x j u1 u2 u3 u4 u5 u6 => ?_) h3
    · have e8 : (8 : Int) * 1 + f = 8 + f := by omega
      have ra : ∀ j, 0 ≤ j → j < e - s → rat (mx D' A') (aF 1 f + 1) j = T (s + j) := fun j u v => by
        unfold rat
        rw [mx_lo (by omega), r2.1, if_pos ⟨u, v⟩, mx_lo (by omega), show aF 1 f + 1 + 1 = aF 1 f + 2 from by omega, r2.2 j u v]
        have := nb j u v
        omega
      unfold faR
      rw [e8]
      refine ⟨⟨by rw [mx_lo (by omega), mx_hi (by omega), r1.1, m1.1], by rw [mx_lo (by omega), r1.1]; exact hk.1, by rw [mx_lo (by omega), r1.1]; exact hk.2⟩, ⟨⟨?_, ?_, ?_, fun j u v => ?_⟩, ?_⟩, ⟨?_, ?_, ?_, fun j u v => ?_⟩, ⟨⟨?_, ?_, ?_, fun j u v => ?_⟩, ?_⟩, ⟨?_, ?_, ?_, ?_, fun k u v => ?_, fun k u v => ?_⟩, ⟨?_, ?_, ?_, ?_, fun k u v => ?_⟩, fun w => absurd w (by omega)⟩
      · rw [mx_lo (by omega), mx_hi (by omega), r2.1, m1.2.1]
      · rw [mx_hi (by omega), m1.2.1]; omega
      · rw [mx_hi (by omega), m1.2.1]; omega
      · rw [mx_hi (by omega), m1.2.1] at v
        rw [mx_lo (by omega), mx_hi (by omega), show aF 1 f + 1 + 1 = aF 1 f + 2 from by omega, r2.2 j u v, m2 j u v]
        have := nb j u v
        omega
      · rw [mx_lo (by omega), r2.1]
        unfold namP
        rw [if_pos rfl, if_pos rfl]
        refine ⟨by omega, by omega, ?_, fun j u v => ?_, Or.inl rfl⟩
        · rw [ra 0 (by omega) (by omega), show s + 0 = s from by omega]; exact hn.2.2.1
        · rw [ra j u v]; exact hn.2.2.2 _ (by omega) (by omega)
      · rw [mx_lo (by omega), mx_hi (by omega), r3.1, m1.2.2.1]
      · rw [mx_hi (by omega), m1.2.2.1]; omega
      · rw [mx_hi (by omega), m1.2.2.1]; omega
      · rw [mx_hi (by omega), m1.2.2.1] at v; omega
      · rw [mx_lo (by omega), mx_hi (by omega), r3.2, m1.2.2.2.1]
      · rw [mx_hi (by omega), m1.2.2.2.1]; omega
      · rw [mx_hi (by omega), m1.2.2.2.1]; omega
      · rw [mx_hi (by omega), m1.2.2.2.1] at v; omega
      · rw [mx_lo (by omega), r3.2]
        exact ⟨by omega, by omega, fun j u v => by omega⟩
      · rw [mx_lo (by omega), mx_hi (by omega), r1.2.1, m1.2.2.2.2.1]
      · rw [mx_lo (by omega), r1.2.1]; omega
      · rw [mx_lo (by omega), r1.2.1]; omega
      · intro _; rw [mx_lo (by omega), r1.2.1]
      · rw [mx_lo (by omega), r1.2.1] at v; omega
      · rw [mx_lo (by omega), r1.2.1] at v; omega
      · rw [mx_lo (by omega), mx_hi (by omega), r1.2.2, m1.2.2.2.2.2]
      · rw [mx_lo (by omega), r1.2.2]; omega
      · rw [mx_lo (by omega), r1.2.2]; omega
      · intro _; rw [mx_lo (by omega), r1.2.2]
      · rw [mx_lo (by omega), r1.2.2] at v; omega
    · have u5' : x ≠ 1953 := by omega
      have u6' : x ≠ 1954 := by omega
      have u3' : x ≠ 980 := by omega
      by_cases z : x < 1977
      · rw [mx_lo z, mx_lo z]
        have hx : x ≤ 1954 := by
          rcases u1 with w | w | w | w | w | w | w <;> omega
        refine r7 x j (fun w => u2 (Or.inl ⟨w.1, by omega⟩)) u5' u6' (by omega) (by omega) (by omega)
      · rw [mx_hi (by omega), mx_hi (by omega)]
        by_cases z7 : x = 1977
        · subst z7
          refine m8 j ?_
          rcases u1 with w | w | w | w | w | w | w <;> omega
        by_cases y1 : x = 1980 ∨ x = 1982 ∨ x = 1984 ∨ x = 1986 ∨ x = 1988 ∨ x = 1991
        · refine m5 x j (by omega) (fun w => u2 (Or.inr (Or.inl ⟨y1, by omega⟩)))
        by_cases y2 : x = 1981
        · subst y2
          refine m6 j (fun w => u2 (Or.inr (Or.inr (Or.inl ⟨rfl, by omega, by omega⟩))))
        · refine m9 x j z7 u4 (by omega) y2 (by omega) (by omega) (by omega) (by omega) (by omega) ?_
          rcases u1 with w | w | w | w | w | w | w <;> omega
  refine ⟨⟨cu_to h1 hq (d57 0 (by omega)) r6 (fun x j u => r7 _ _ (by omega) (by omega) (by omega) (by omega) (by omega) (by omega)), mu_to h2 hq m4.1 (hW _ _ (by omega)) (m8 _ (by omega)) (fun j => hW _ _ (by omega))⟩, ⟨sh, h3'⟩, ⟨⟨by rw [d57 _ (by omega)]; exact h4, by rw [d57 _ (by omega)]; exact h5, by rw [m8 _ (by omega)]; exact h6⟩, by rw [d56 _ (by omega)]; exact h7, by rw [m8 _ (by omega)]; exact h8⟩, ⟨by rw [r5.2.2.2.2.2]; omega, by rw [r5.2.2.2.2.2, m4.2.2.1], by rw [r5.2.2.2.2.2, m4.2.2.1]⟩, ?_, by rw [m8 _ (by omega), d980 _ (by omega)]; exact h11, fun k u v => by rw [dC0 k _ u v, d980 _ (by omega)]; exact h12 k u v, Or.inr ⟨by rw [r4]; omega, by rw [r4, r5.1, show f + 1 - 1 = f from by omega], by rw [r4, r5.2.1]; omega, by rw [r4, m4.2.1]; omega, Or.inl ?_⟩⟩
  · rw [m4.2.2.2.2.1, d56 _ (by omega)]
    exact ⟨h10.1, fun _ => hw, fun _ => rfl⟩
  · rw [r4, show f + 1 - 1 = f from by omega]
    refine ⟨⟨r5.2.2.1, m4.2.2.2.1⟩, ⟨?_, m4.2.2.2.2.1⟩, ⟨r5.2.2.2.2.1, m4.2.2.2.2.2⟩, by rw [r1.1]; exact r5.2.2.2.1, fun k u v w => ?_, r1.2.1, r1.2.2⟩
    · rw [d56 _ (by omega)]
      rcases h10.1 with g | g
      · exact absurd g hw
      · exact g
    · rw [dC0 k _ u v] at w ⊢
      have g := (h3.2.2.1 k u v).2.2 (by rw [mx_lo (by have := aC1 k; omega)]; exact w)
      have g2 := g.1.2.1
      rw [mx_lo (by have := aC1 k; omega), mx_lo (by omega)] at g2
      have g3 : D (aC 1 k) 4 < D 980 4 := g2
      omega
/-- the last family changes in its unit or help -/
theorem RC_fam {p B f q : Int} (h : RC c T n p B D A) (hf0 : 0 ≤ f) (hf : D 980 4 = f + 1) (hq : 0 ≤ q ∧ q ≤ n) (hfa : faR (mx D' A') 1 f) (hD : ∀ x j, ¬ (aF 1 f + 3 ≤ x ∧ x ≤ aF 1 f + 6) → ¬ (x = 1956 ∧ j = 17) → ¬ (x = 1957 ∧ j = 1) → D' x j = D x j) (h1' : D' 1957 1 = q) (hA1 : A' 1977 47 = q) (hA : ∀ x j, x ≠ 1977 → ¬ ((x = 1984 ∨ x = 1986) ∧ j = 8 + f) → ¬ (x = 1983 ∧ 8 * (8 + f) ≤ j ∧ j < 8 * (8 + f) + 8) → ¬ (x = 1985 ∧ 40 * (8 + f) ≤ j ∧ j < 40 * (8 + f) + 40) → x ≠ 2015 → A' x j = A x j) (hA7 : ∀ j, j ≠ 47 → j ≠ 49 → j ≠ 60 → A' 1977 j = A 1977 j) (hl : (0 ≤ D' 1956 17 ∧ D' 1956 17 ≤ 2) ∧ (A' 1977 49 = 1 ↔ D' 1956 17 = 1) ∧ (A' 1977 49 = 2 ↔ D' 1956 17 = 2)) : RC c T n q B D' A' := by
  obtain ⟨⟨h1, h2⟩, ⟨h3, h3'⟩, ⟨⟨h4, h5, h6⟩, h7, h8⟩, h9, h10, h11, h12, h13⟩ := h
  have f0 : 0 ≤ f ∧ f < 8 := by
    have g := h3.1.2
    rw [mx_lo (by omega)] at g
    have g2 : 0 ≤ D 980 4 ∧ D 980 4 ≤ 8 := g
    omega
  have aFb := aF1 f
  have d980 : ∀ j, D' 980 j = D 980 j := fun j => hD _ _ (by omega) (by omega) (by omega)
  have d56 : ∀ j, j ≠ 17 → D' 1956 j = D 1956 j := fun j u => hD _ _ (by omega) (by omega) (by omega)
  have d57 : ∀ j, j ≠ 1 → D' 1957 j = D 1957 j := fun j u => hD _ _ (by omega) (by omega) (by omega)
  have dC0 : ∀ k j, 0 ≤ k → k < 24 → D' (aC 1 k) j = D (aC 1 k) j := fun k j u v => by
    have := aC1 k
    exact hD _ _ (by omega) (by omega) (by omega)
  have sh : shR c (mx D' A') 1 := by
    refine shR_fam (D := mx D A) (f := f) (Or.inr rfl) ⟨f0.1, by omega⟩ (Int.le_refl _) (fun _ => hfa) ⟨?_, ?_⟩ (fun x j u1 u2 => ?_) h3
    · rw [mx_lo (by omega), mx_lo (by omega)]; exact hD _ _ (by omega) (by omega) (by omega)
    · rw [mx_lo (by omega), mx_lo (by omega), hD _ _ (by omega) (by omega) (by omega)]; omega
    · by_cases z : x < 1977
      · rw [mx_lo z, mx_lo z]
        have hx : x ≤ 1954 := by
          rcases u1 with w | w | w | w | w | w | w <;> omega
        exact hD x j (fun w => u2 (Or.inl ⟨by omega, by omega⟩)) (by omega) (by omega)
      · rw [mx_hi (by omega), mx_hi (by omega)]
        by_cases z7 : x = 1977
        · subst z7
          refine hA7 j ?_ ?_ ?_ <;> rcases u1 with w | w | w | w | w | w | w <;> omega
        · refine hA x j z7 (fun w => u2 (Or.inr (Or.inl ⟨by omega, by omega⟩))) (fun w => u2 (Or.inr (Or.inr (Or.inr (Or.inl ⟨w.1, by omega, by omega⟩))))) (fun w => u2 (Or.inr (Or.inr (Or.inr (Or.inr (Or.inl ⟨w.1, by omega, by omega⟩)))))) ?_
          rcases u1 with w | w | w | w | w | w | w <;> omega
  refine ⟨⟨cu_to h1 hq (d57 0 (by omega)) h1' (fun x j u => hD _ _ (by omega) (by omega) (by omega)), mu_to h2 hq hA1 (hA7 _ (by omega) (by omega) (by omega)) (hA7 _ (by omega) (by omega) (by omega)) (fun j => hA _ _ (by omega) (by omega) (by omega) (by omega) (by omega))⟩, ⟨sh, h3'⟩, ⟨⟨by rw [d57 _ (by omega)]; exact h4, by rw [d57 _ (by omega)]; exact h5, by rw [hA7 _ (by omega) (by omega) (by omega)]; exact h6⟩, by rw [d56 _ (by omega)]; exact h7, by rw [hA7 _ (by omega) (by omega) (by omega)]; exact h8⟩, hl, by rw [d56 _ (by omega), hA7 _ (by omega) (by omega) (by omega)]; exact h10, by rw [hA7 _ (by omega) (by omega) (by omega), d980]; exact h11, fun k u v => by rw [dC0 k _ u v, d980]; exact h12 k u v, ?_⟩
  rcases h13 with w | ⟨g1, g2, g3, g4, g5⟩
  · omega
  · refine Or.inr ⟨by rw [d980]; exact g1, by rw [d980, d56 _ (by omega)]; exact g2, by rw [d980, d56 _ (by omega)]; exact g3, by rw [d980, hA7 _ (by omega) (by omega) (by omega)]; exact g4, ?_⟩
    rw [d980, hf, show f + 1 - 1 = f from by omega]
    rw [hf, show f + 1 - 1 = f from by omega] at g5
    exact chP_fr g5 f0 (fun x j u => hD _ _ (by omega) (by omega) (by omega)) (fun j u v => hA7 _ (by omega) (by omega) (by omega))
theorem faR_unit {f u e : Int} (hx : faR (mx D A) 1 f) (hf : 0 ≤ f ∧ f < 8) (h1 : mx D' A' (aF 1 f + 3) 1 = e - u ∧ A' 1984 (8 + f) = e - u ∧ 0 ≤ e - u ∧ e - u ≤ 8) (h2 : ∀ j, 0 ≤ j → j < e - u → D' (aF 1 f + 4) j = T (u + j) ∧ A' 1983 (8 * (8 + f) + j) = T (u + j) ∧ 0 ≤ T (u + j) ∧ T (u + j) ≤ 127) (hD : ∀ x j, aF 1 f ≤ x → x ≤ aF 1 f + 16 → x ≠ aF 1 f + 3 → x ≠ aF 1 f + 4 → D' x j = D x j) (hA : ∀ x j, 1980 ≤ x → x ≤ 1991 → x ≠ 1983 → x ≠ 1984 → A' x j = A x j) : faR (mx D' A') 1 f := by
  have aFb := aF1 f
  have e8 : (8 : Int) * 1 + f = 8 + f := by omega
  have hd : ∀ x j, aF 1 f ≤ x → x ≤ aF 1 f + 16 → x ≠ aF 1 f + 3 → x ≠ aF 1 f + 4 → mx D' A' x j = mx D A x j := fun x j u v w1 w2 => by rw [mx_lo (by omega), mx_lo (by omega)]; exact hD x j u v w1 w2
  have ha : ∀ x j, 1980 ≤ x → x ≤ 1991 → x ≠ 1983 → x ≠ 1984 → mx D' A' x j = mx D A x j := fun x j u v w1 w2 => by rw [mx_hi (by omega), mx_hi (by omega)]; exact hA x j u v w1 w2
  obtain ⟨a1, ⟨a2, a3⟩, a4, ⟨a5, a6⟩, a7, a8, a9⟩ := hx
  refine ⟨by rw [hd _ _ (by omega) (by omega) (by omega) (by omega), ha 1980 _ (by omega) (by omega) (by omega) (by omega)]; exact a1, ⟨rowm_fr (fun j => hd _ _ (by omega) (by omega) (by omega) (by omega)) (fun j => hd _ _ (by omega) (by omega) (by omega) (by omega)) (fun j => ha _ _ (by omega) (by omega) (by omega) (by omega)) (ha _ _ (by omega) (by omega) (by omega) (by omega)) a2, ?_⟩, ⟨?_, ?_, ?_, fun j x y => ?_⟩, ⟨rowm_fr (fun j => hd _ _ (by omega) (by omega) (by omega) (by omega)) (fun j => hd _ _ (by omega) (by omega) (by omega) (by omega)) (fun j => ha _ _ (by omega) (by omega) (by omega) (by omega)) (ha _ _ (by omega) (by omega) (by omega) (by omega)) a5, ?_⟩, faB_fr (hd _ _ (by omega) (by omega) (by omega) (by omega)) (hd _ _ (by omega) (by omega) (by omega) (by omega)) (fun j => hd _ _ (by omega) (by omega) (by omega) (by omega)) (fun j => ha _ _ (by omega) (by omega) (by omega) (by omega)) (fun j => ha _ _ (by omega) (by omega) (by omega) (by omega)) a7, faT_fr (hd _ _ (by omega) (by omega) (by omega) (by omega)) (hd _ _ (by omega) (by omega) (by omega) (by omega)) (fun x j u v => hd _ _ (by omega) (by omega) (by omega) (by omega)) (fun x j u v => ha _ _ (by omega) (by omega) (by omega) (by omega)) a8, fun w => absurd w (by omega)⟩
  · rw [hd _ _ (by omega) (by omega) (by omega) (by omega)]
    exact namP_fr (rat_fr (hd _ _ (by omega) (by omega) (by omega) (by omega)) (fun j => hd _ _ (by omega) (by omega) (by omega) (by omega))) a3
  · rw [h1.1, mx_hi (by omega), e8, h1.2.1]
  · rw [mx_hi (by omega), e8, h1.2.1]; omega
  · rw [mx_hi (by omega), e8, h1.2.1]; omega
  · rw [mx_hi (by omega), e8, h1.2.1] at y
    have q := h2 j x y
    rw [mx_lo (by omega), mx_hi (by omega), e8, show aF 1 f + 3 + 1 = aF 1 f + 4 from by omega, q.1, q.2.1]
    omega
  · rw [hd _ _ (by omega) (by omega) (by omega) (by omega)]
    exact txtP_fr (rat_fr (hd _ _ (by omega) (by omega) (by omega) (by omega)) (fun j => hd _ _ (by omega) (by omega) (by omega) (by omega))) a6
theorem faR_help {f : Int} {L : List Int} (hx : faR (mx D A) 1 f) (hf : 0 ≤ f ∧ f < 8) (h1 : D' (aF 1 f + 5) 1 = (L.length : Int) ∧ A' 1986 (8 + f) = (L.length : Int) ∧ L.length ≤ 40) (h2 : atL D' (aF 1 f + 6) 0 L ∧ atL A' 1985 (40 * (8 + f)) L ∧ ∀ b ∈ L, txt b) (hD : ∀ x j, aF 1 f ≤ x → x ≤ aF 1 f + 16 → x ≠ aF 1 f + 5 → x ≠ aF 1 f + 6 → D' x j = D x j) (hA : ∀ x j, 1980 ≤ x → x ≤ 1991 → x ≠ 1985 → x ≠ 1986 → A' x j = A x j) : faR (mx D' A') 1 f := by
  have aFb := aF1 f
  have e8 : (8 : Int) * 1 + f = 8 + f := by omega
  have hd : ∀ x j, aF 1 f ≤ x → x ≤ aF 1 f + 16 → x ≠ aF 1 f + 5 → x ≠ aF 1 f + 6 → mx D' A' x j = mx D A x j := fun x j u v w1 w2 => by rw [mx_lo (by omega), mx_lo (by omega)]; exact hD x j u v w1 w2
  have ha : ∀ x j, 1980 ≤ x → x ≤ 1991 → x ≠ 1985 → x ≠ 1986 → mx D' A' x j = mx D A x j := fun x j u v w1 w2 => by rw [mx_hi (by omega), mx_hi (by omega)]; exact hA x j u v w1 w2
  obtain ⟨a1, ⟨a2, a3⟩, a4, ⟨a5, a6⟩, a7, a8, a9⟩ := hx
  have lb : ∀ b ∈ L, 0 ≤ b ∧ b ≤ 127 := fun b hb => by have := h2.2.2 b hb; unfold txt at this; omega
  have m1 : atL (mx D' A') (aF 1 f + 5 + 1) 0 L := by
    rw [show aF 1 f + 5 + 1 = aF 1 f + 6 from by omega]
    exact atL_mov (D := D') (a := aF 1 f + 6) (o := 0) (fun j _ _ => mx_lo (by omega)) h2.1
  have m2 : atL (mx D' A') 1985 (40 * (8 + f)) L := atL_mov (D := A') (a := 1985) (o := 40 * (8 + f)) (fun j _ _ => mx_hi (by omega)) h2.2.1
  refine ⟨by rw [hd _ _ (by omega) (by omega) (by omega) (by omega), ha 1980 _ (by omega) (by omega) (by omega) (by omega)]; exact a1, ⟨rowm_fr (fun j => hd _ _ (by omega) (by omega) (by omega) (by omega)) (fun j => hd _ _ (by omega) (by omega) (by omega) (by omega)) (fun j => ha _ _ (by omega) (by omega) (by omega) (by omega)) (ha _ _ (by omega) (by omega) (by omega) (by omega)) a2, ?_⟩, rowm_fr (fun j => hd _ _ (by omega) (by omega) (by omega) (by omega)) (fun j => hd _ _ (by omega) (by omega) (by omega) (by omega)) (fun j => ha _ _ (by omega) (by omega) (by omega) (by omega)) (ha _ _ (by omega) (by omega) (by omega) (by omega)) a4, ⟨?_, ?_⟩, faB_fr (hd _ _ (by omega) (by omega) (by omega) (by omega)) (hd _ _ (by omega) (by omega) (by omega) (by omega)) (fun j => hd _ _ (by omega) (by omega) (by omega) (by omega)) (fun j => ha _ _ (by omega) (by omega) (by omega) (by omega)) (fun j => ha _ _ (by omega) (by omega) (by omega) (by omega)) a7, faT_fr (hd _ _ (by omega) (by omega) (by omega) (by omega)) (hd _ _ (by omega) (by omega) (by omega) (by omega)) (fun x j u v => hd _ _ (by omega) (by omega) (by omega) (by omega)) (fun x j u v => ha _ _ (by omega) (by omega) (by omega) (by omega)) a8, fun w => absurd w (by omega)⟩
  · rw [hd _ _ (by omega) (by omega) (by omega) (by omega)]
    exact namP_fr (rat_fr (hd _ _ (by omega) (by omega) (by omega) (by omega)) (fun j => hd _ _ (by omega) (by omega) (by omega) (by omega))) a3
  · rw [e8, mx_hi (by omega), h1.2.1]
    exact rowm_new (by rw [mx_lo (by omega)]; exact h1.1) m1 m2 (by omega) lb
  · rw [mx_lo (by omega), h1.1]
    refine ⟨by omega, by omega, fun j u v => ?_⟩
    unfold rat
    rw [mx_lo (by omega), h1.1, if_pos ⟨u, v⟩]
    have q := atL_mem m1 j u v
    rw [show (0 : Int) + j = j from by omega] at q
    have q2 := lb _ q
    rw [show mx D' A' (aF 1 f + 5 + 1) j % 256 = mx D' A' (aF 1 f + 5 + 1) j from by omega]
    exact h2.2.2 _ q
end RCH
