/-! reading a sample: its value, both sides together -/
section VLO
variable {sc : Nat × (Nat → Int32)} {D D' D4 A A' A4 A0 D0 : tD} {K : tD → Int → Prop} {E : tD → Nat → Prop} {T : Int → Int} {n c : Int}
theorem MS_cR {B f k : Int} (h : MS c B f k D A) : (D (aC 1 k) 5 = A 1999 (24 + k) ∧ -mostN ≤ D (aC 1 k) 5 ∧ D (aC 1 k) 5 ≤ mostN) ∧ (D (aC 1 k) 6 = A 2000 (24 + k) ∧ -1 ≤ D (aC 1 k) 6 ∧ D (aC 1 k) 6 ≤ 2000000000000000) ∧ (D (aC 1 k) 7 = A 2001 (24 + k) ∧ 0 ≤ D (aC 1 k) 7 ∧ D (aC 1 k) 7 ≤ 15) ∧ ∀ b, 0 ≤ b → b < 7 → D (aC 1 k + 4) b = A 2002 (7 * (24 + k) + b) ∧ 0 ≤ D (aC 1 k + 4) b ∧ D (aC 1 k + 4) b ≤ 1000000000000 + c ∧ (D (aF 1 f) 5 ≠ 2 ∨ D (aF 1 f) 6 < b → D (aC 1 k + 4) b = 0) := by
  have aCb := aC1 k
  have aFb := aF1 f
  have f1 := h.2.1.1
  have kk := h.2.2.1.1
  have k4 := h.2.2.1.2.2.2.2
  have k3 := h.2.2.1.2.2.2.1
  have e24 : (24 : Int) * 1 + k = 24 + k := by omega
  have L : ∀ x i, x < 1956 → mx D A x i = D x i := fun x i u => mx_lo (by omega)
  have H : ∀ x i, 1977 ≤ x → mx D A x i = A x i := fun x i u => mx_hi u
  obtain ⟨_, _, a5, a6, a7, aK, _⟩ := ((h.1.1.1.2.2.1 k kk.1 kk.2.1).2.2) (by rw [L _ _ (by omega)]; exact k3)
  rw [e24] at a5 a6 a7
  rw [L _ _ (by omega), H _ _ (by omega)] at a5 a6 a7
  refine ⟨a5, a6, a7, fun b u v => ?_⟩
  have q := aK b u v
  rw [e24, L (aC 1 k + 4) _ (by omega), H _ _ (by omega), L (aC 1 k) 4 (by omega), k4, L (aF 1 f) 5 (by omega), L (aF 1 f) 6 (by omega)] at q
  exact q
theorem PV_of {p e B f k w kd v : Int} (h : PS c T n p B f k w D A) (hkd : D (aF 1 f) 5 = kd) (he : 0 ≤ e ∧ e ≤ n) (hv : -mostN ≤ v ∧ v ≤ mostN) (hV : valR w kd v) (hB : bOK w (D 1956 16) v) (hD4 : ∀ x i, x ≠ 1957 → D4 x i = D x i) (hD4c : D4 1957 0 = D 1957 0 ∧ D4 1957 1 = e ∧ D4 1957 2 = D 1957 2 ∧ D4 1957 3 = D 1957 3) (hA4 : ∀ x i, x ≠ 1977 → A4 x i = A x i) (hA47 : ∀ i, i ≠ 47 → i ≠ 58 → A4 1977 i = A 1977 i) (hA4e : A4 1977 47 = e) (h1 : kpV k w kd v (D 1956 15) (D 1956 16) D4 D') (h2 : tkV f k w kd v (D 1956 15) (D 1956 16) A4 A') : PV c T n e B f k w D' A' ∧ D' (aF 1 f) 5 = kd := by
  have mN : mostN = 999999999999999 := rfl
  obtain ⟨hQ, ⟨hM, hN⟩, hK⟩ := h
  have aCb := aC1 k
  have aFb := aF1 f
  have f1 := hM.2.1.1
  have kk := hM.2.2.1.1
  have wk := KS_wk hK
  rw [hkd] at wk
  obtain ⟨r5, r6, r7, rK⟩ := MS_cR hM
  obtain ⟨c5, c6, c7, cK, c16, cO, cC, cN⟩ := h1
  obtain ⟨t52, tO, tC, tN, tR, t99, t00, t01, t02, t53, t55, t54, t69, t51a, t51b, t51c, t51d, t51e⟩ := h2
  have fi := fi_ms hM
  have fe : fiM A4 k ↔ fiM A k := by
    unfold fiM
    have e4 : ∀ i, A4 1994 i = A 1994 i := fun i => hA4 _ _ (by omega)
    have e5 : ∀ i, A4 1995 i = A 1995 i := fun i => hA4 _ _ (by omega)
    simp only [e4, e5, hA47 48 (by omega) (by omega)]
  obtain ⟨⟨n53, n15, n7⟩, ⟨n55, n16, n16'⟩, n9⟩ := hN
  rw [hA4 _ _ (by omega)] at t99 t00 t01 t02
  rw [hD4 _ _ (by omega)] at c5 c6 c7 cK c16
  obtain ⟨⟨bB1, bB2, bB3⟩, bB4, bB5, bB6⟩ := MS_fB hM
  obtain ⟨⟨bT1, bT2, bT3⟩, _⟩ := MS_fT hM
  have o : ∀ x i, x ≠ 1957 → x ≠ aC 1 k → x ≠ aC 1 k + 4 → ¬ (x = 1956 ∧ i = 16) → D' x i = D x i := fun x i u y1 y2 y3 => by rw [cO x i y1 y2 y3]; exact hD4 x i u
  have oR : ∀ i, i ≠ 16 → D' 1956 i = D 1956 i := fun i u => o _ _ (by omega) (by omega) (by omega) (by omega)
  have oF : ∀ d i, 0 ≤ d → d ≤ 16 → D' (aF 1 f + d) i = D (aF 1 f + d) i := fun d i u v => o _ _ (by omega) (by omega) (by omega) (by omega)
  have oF0 : ∀ i, D' (aF 1 f) i = D (aF 1 f) i := fun i => o _ _ (by omega) (by omega) (by omega) (by omega)
  have p7 : ∀ i, i < 51 ∨ (55 < i ∧ i < 69) ∨ i = 70 ∨ 71 < i → i ≠ 47 → i ≠ 58 → A' 1977 i = A 1977 i := fun i u y1 y2 => by rw [tR i u]; exact hA47 i y1 y2
  /- what a bucket has -/
  have kb3 : w = 3 → kd = 2 ∧ cz D k (D 1956 15) ∧ D 1956 15 ≤ 6 ∧ ((A 1977 67 = 1 ∧ D 1956 15 = D (aF 1 f) 6) ∨ (A 1977 67 = 0 ∧ D 1956 15 < D (aF 1 f) 6 ∧ A 1977 68 = D (aF 1 f + 7) (D 1956 15) ∧ (D 1956 13 = 1 → D 1956 15 + 1 = D (aF 1 f) 6))) ∧ (1 ≤ D 1956 15 → A 1977 54 = D (aF 1 f + 7) (D 1956 15 - 1)) := fun w3 => by
    rcases hK with h | ⟨h0, ⟨h1, h⟩ | h⟩
    · omega
    · exact absurd w3 h1
    · exact ⟨by rw [← hkd]; exact h.2.1, h.2.2⟩
  have kb4 : kd = 4 → w = 0 ∧ bz D k (D 1956 15) ∧ D 1956 15 < D (aF 1 f) 7 ∧ (D 1956 13 = 1 → D 1956 15 + 1 = D (aF 1 f) 7) := fun k4 => by
    rcases hK with h | ⟨h0, _⟩
    · exact h.2
    · exact absurd (hkd.trans k4) h0
  have val3 : w = 3 → 0 ≤ v ∧ v % 1000 = 0 ∧ 1000 * D 1956 16 ≤ v := fun w3 => by
    have a1 := hV.2.1 (Or.inl w3)
    exact ⟨a1.1, a1.2, hB.1 w3⟩
  have hcnt : ∀ b, 0 ≤ b → b < 7 → D' (aC 1 k + 4) b = A' 2002 (7 * (24 + k) + b) ∧ 0 ≤ D' (aC 1 k + 4) b ∧ D' (aC 1 k + 4) b ≤ 1000000000000 + c ∧ (D (aF 1 f) 5 ≠ 2 ∨ D (aF 1 f) 6 < b → D' (aC 1 k + 4) b = 0) := fun b u y => by
    by_cases z : b = D 1956 15
    · rw [z, cK, t02]
      by_cases w3 : w = 3
      · obtain ⟨q1, q2, q3, q4, q5⟩ := kb3 w3
        obtain ⟨v1, v2, v3⟩ := val3 w3
        have c0 := hM.1.1.2
        rw [if_pos w3, if_pos w3, q2 _ (Int.le_refl _) (by omega)]
        refine ⟨by omega, by omega, by omega, fun y => ?_⟩
        rcases y with y | y
        · exact absurd (hkd.trans q1) y
        · rcases q4 with q4 | q4 <;> omega
      · rw [if_neg w3, if_neg w3]
        exact rK _ n15 (by omega)
    · rw [cN b z, hD4 _ _ (by omega), tN _ (by omega), hA4 _ _ (by omega)]
      exact rK b u y
  have hst : D' (aC 1 k) 7 = A' 2001 (24 + k) ∧ 0 ≤ D' (aC 1 k) 7 ∧ D' (aC 1 k) 7 ≤ 15 := by
    rw [c7, t01]
    by_cases k4 : kd = 4
    · obtain ⟨w0, q1, q2, q3⟩ := kb4 k4
      rw [if_pos ⟨w0, k4⟩]
      have j4 : 0 ≤ D 1956 15 ∧ D 1956 15 < 4 := by omega
      by_cases z : v = 1000
      · rw [if_pos z, if_pos ⟨w0, k4, z⟩, r7.1]
        have := (tio_on (x := A 2001 (24 + k)) (j := D 1956 15) (by omega) j4).1
        exact ⟨rfl, this⟩
      · rw [if_neg z, if_neg (fun y => z y.2.2), tia_off (by omega) j4 (q1 _ (Int.le_refl _) j4.2 _ (by omega))]
        exact r7
    · rw [if_neg (fun y => k4 y.2), if_neg (fun y => k4 y.2.1)]
      exact r7
  have MS' : MS c B f k D' A' := by
    refine MS_ch hM (fun x i u y1 y2 => ?_) (fun j u => oR j (by omega)) (fun x i u1 u2 y1 y2 => ?_) (fun j u => p7 j (by omega) (by omega) (by omega)) ?_ ?_ hst hcnt
    · by_cases z : x = aC 1 k
      · subst z; rw [cC i (by omega) (by omega) (by omega)]; exact hD4 _ _ (by omega)
      · exact o x i (by omega) z y2 (by omega)
    · by_cases z : x = 1999 ∨ x = 2000 ∨ x = 2001
      · rw [tC x i z (by omega)]; exact hA4 _ _ (by omega)
      · by_cases z2 : x = 2002
        · subst z2
          by_cases zi : i = 7 * (24 + k) + D 1956 15
          · rw [zi, t02, if_neg (fun w3 => by have := (kb3 w3).2.2.1; omega)]
          · rw [tN i zi]; exact hA4 _ _ (by omega)
        · rw [tO x i (by omega) (by omega) (by omega) (by omega) z2]; exact hA4 _ _ (by omega)
    · rw [c5, t99]
      by_cases z : w = 1 ∨ w = 5 ∨ (w = 0 ∧ kd = 1)
      · rw [if_pos z, if_pos z]; exact ⟨rfl, hv⟩
      · rw [if_neg z, if_neg z]; exact r5
    · rw [c6, t00]
      by_cases z : w = 2
      · rw [if_pos z, if_pos z]
        have := hV.1 (Or.inr z)
        exact ⟨rfl, by omega, by omega⟩
      · rw [if_neg z, if_neg z]; exact r6
  have kd' : D' (aF 1 f) 5 = kd := by rw [oF0]; exact hkd
  refine ⟨⟨⟨⟨cu_to hQ.1.1 he (by rw [cO _ _ (by omega) (by omega) (by omega)]; exact hD4c.1) (by rw [cO _ _ (by omega) (by omega) (by omega)]; exact hD4c.2.1) (fun x j u => o _ _ (by omega) (by omega) (by omega) (by omega)), mu_to hQ.1.2 he (by rw [tR _ (by omega)]; exact hA4e) (p7 _ (by omega) (by omega) (by omega)) (p7 _ (by omega) (by omega) (by omega)) (fun j => by rw [tO _ _ (by omega) (by omega) (by omega) (by omega) (by omega)]; exact hA4 _ _ (by omega))⟩, ⟨by rw [cO _ _ (by omega) (by omega) (by omega), hD4c.2.2.1]; exact hQ.2.1.1, by rw [cO _ _ (by omega) (by omega) (by omega), hD4c.2.2.2]; exact hQ.2.1.2.1, by rw [p7 _ (by omega) (by omega) (by omega)]; exact hQ.2.1.2.2⟩, by rw [oR _ (by omega)]; exact hQ.2.2.1, by rw [p7 _ (by omega) (by omega) (by omega)]; exact hQ.2.2.2.1, by rw [oR _ (by omega)]; exact hQ.2.2.2.2⟩, ⟨MS', ?_⟩, ⟨t52, ?_⟩⟩, kd'⟩
  · rw [kd']
    unfold MN dlt
    rw [oR 15 (by omega), c16, t53, t55, hA47 55 (by omega) (by omega), oR 9 (by omega)]
    refine ⟨⟨?_, n15, ?_⟩, ⟨?_, ?_, ?_⟩, n9⟩
    · split <;> omega
    · by_cases z : w = 3 ∨ kd = 4
      · rw [if_pos z]
        rcases z with z | z
        · have := (kb3 z).2.2.1; omega
        · have := (kb4 z).2.2.1; omega
      · rw [if_neg z]; omega
    · by_cases w3 : w = 3
      · rw [if_pos w3, if_pos w3]; have := val3 w3; omega
      · rw [if_neg w3, if_neg w3]; exact n55
    · by_cases w3 : w = 3
      · rw [if_pos w3]; have := val3 w3; omega
      · rw [if_neg w3]; exact n16
    · by_cases w3 : w = 3
      · rw [if_pos w3]; have := val3 w3; omega
      · rw [if_neg w3]; exact n16'
  · have cz' : ∀ b0, (w ≠ 3 ∨ D 1956 15 + 1 ≤ b0) → D 1956 15 ≤ b0 → cz D k (D 1956 15) → cz D' k b0 := fun b0 hh h0 z b u y => by
      by_cases zb : b = D 1956 15
      · rcases hh with hh | hh
        · rw [zb, cK, if_neg hh]; exact z _ (by omega) (by omega)
        · omega
      · rw [cN b zb, hD4 _ _ (by omega)]; exact z b (by omega) y
    rw [kd', oF0 6, oF0 7, oR 15 (by omega), oR 13 (by omega)]
    rcases hK with h | ⟨h0, ⟨h1, h | h | h⟩ | h⟩
    · have k4 : kd = 4 := hkd.symm.trans h.1
      obtain ⟨w0, q1, q2, q3⟩ := kb4 k4
      refine Or.inr (Or.inr (Or.inr ⟨k4, w0, fun b u y q e => ?_, q2, q3, ?_, ?_⟩))
      · rw [c7, if_pos ⟨w0, k4⟩]
        have j4 : 0 ≤ D 1956 15 ∧ D 1956 15 < 4 := by omega
        have old := q1 b (by omega) y q e
        by_cases z : v = 1000
        · rw [if_pos z]
          rw [(tio_on (x := D (aC 1 k) 7) (j := D 1956 15) (by omega) j4).2 q (by omega) (by omega)]
          exact old
        · rw [if_neg z, tia_off (by omega) j4 (q1 _ (Int.le_refl _) j4.2 _ (by omega))]
          exact old
      · intro y
        refine (t51e k4).1 ?_
        rw [fe, fi, hA4 _ _ (by omega), ← bT1]; exact y
      · intro y
        refine (t51e k4).2 ?_
        rw [fe, fi, hA4 _ _ (by omega), ← bT1]; exact y
    · rw [hkd] at h
      refine Or.inl ⟨h.1, ?_⟩
      rw [t51d (by rcases h.1 with g | g | g <;> omega), hA47 _ (by omega) (by omega)]
      exact h.2
    · have k2 : kd = 2 := hkd.symm.trans h.1
      refine Or.inr (Or.inl ⟨k2, cz' _ (Or.inl h1) (Int.le_refl _) h.2.1, ?_⟩)
      rcases h.2.2 with g | g | g | g
      · exact Or.inl ⟨g.1, by rw [t51d (by omega), hA47 _ (by omega) (by omega)]; exact g.2⟩
      · exact Or.inr (Or.inl ⟨g, t51b g⟩)
      · exact Or.inr (Or.inr ⟨g, t51c g⟩)
      · exact absurd g.1 h1
    · exact absurd h.1 h0
    · have w3 := h.1
      obtain ⟨q1, q2, q3, q4, q5⟩ := kb3 w3
      obtain ⟨v1, v2, v3⟩ := val3 w3
      obtain ⟨t69a, t71⟩ := t69 w3
      have t51 := t51a w3
      rw [hA47 67 (by omega) (by omega)] at t51
      rw [hA47 54 (by omega) (by omega)] at t69a
      rw [if_pos w3, hA47 68 (by omega) (by omega)] at t54
      refine Or.inr (Or.inr (Or.inl ⟨q1, w3, cz' _ (Or.inr (Int.le_refl _)) (by omega) q2, q3, ?_, ?_, ?_⟩))
      · rw [p7 67 (by omega) (by omega) (by omega), p7 68 (by omega) (by omega) (by omega), oF 7 _ (by omega) (by omega), t51, t54]
        rcases q4 with q4 | q4
        · exact Or.inl ⟨q4.1, q4.2, by rw [if_neg (by omega)]⟩
        · exact Or.inr ⟨q4.1, q4.2.1, q4.2.2.1, q4.2.2.2, by rw [if_pos q4.1], q4.2.2.1⟩
      · rw [t69a, oF 7 _ (by omega) (by omega)]; exact q5
      · rw [t71, cK, if_pos w3, q2 _ (Int.le_refl _) (by omega)]
        by_cases z : 1000 * D 1956 16 < v
        · rw [if_pos z, if_pos (by omega)]
        · rw [if_neg z, if_neg (by omega)]
theorem tkV_frV {f k w kd v j u : Int} (h : tkV f k w kd v j u A A') (hk : 0 ≤ k) (hj : 0 ≤ j) : frV A A' := fun y i z => by
  obtain ⟨-, tO, tC, tN, tR, -⟩ := h
  by_cases z0 : y = 1977
  · subst z0; exact tR i (by omega)
  by_cases z1 : y = 1999 ∨ y = 2000 ∨ y = 2001
  · have e : cap0 y = 24 := by rcases z1 with z1 | z1 | z1 <;> rw [z1] <;> rfl
    exact tC y i z1 (by omega)
  by_cases z2 : y = 2002
  · subst z2
    have e : cap0 2002 = 168 := rfl
    exact tN i (by omega)
  · exact tO y i z0 (by omega) (by omega) (by omega) z2
theorem nmb_end2 {a : Int} (h : (nmb T n a).1 = 0) (ha : 0 ≤ a ∧ a ≤ n) : a ≤ (nmb T n a).2.2 ∧ (nmb T n a).2.2 ≤ n := by
  rw [nmb_end h]
  have s1 : a ≤ nmS T n a ∧ nmS T n a ≤ n := by
    unfold nmS
    by_cases z : pb T n a = 45
    · have := pb_lt z (by omega)
      rw [if_pos z]; omega
    · rw [if_neg z]; omega
  have s2 : nmS T n a ≤ nmW T n a ∧ nmW T n a ≤ n := ru_b (s := 2) (T := T) (n := n) (a := nmS T n a) (by omega)
  unfold nmR
  by_cases z : pb T n (nmW T n a) = 46
  · have := pb_lt z (by omega)
    have s3 := ru_b (s := 2) (T := T) (n := n) (a := nmW T n a + 1) (by omega)
    rw [if_pos z]; omega
  · rw [if_neg z]; omega
theorem nmb_pos {a : Int} : 0 ≤ (nmb T n a).1 := by
  unfold nmb
  repeat' split
  all_goals simp
theorem s_value {a p B f k w kd : Int} (hP : Pre sc c T n a B D0 (PS c T n p B f k w D) (CS sc w)) (hE : ∃ A1, PS c T n p B f k w D A1) (hkd : D (aF 1 f) 5 = kd) (hN : ∀ D', frZ D D' → Sim sc 271 c T n a B 0 D0 D' → K D' 0) (hT : ∀ D' p', p < p' → p' ≤ n → frZ D D' → D' (aF 1 f) 5 = kd → D' 1956 10 = D 1956 10 → Pre sc c T n a B D0 (PV c T n p' B f k w D') (CV sc w) → K D' 1) : WP sc 143 0 D [(0, (1209, 1956))] [] K E := by
  have mN : mostN = 999999999999999 := rfl
  obtain ⟨Ax, hx⟩ := hE
  have hPx := hx
  obtain ⟨hQx, ⟨hMx, hNx⟩, hKx⟩ := hx
  have aCb := aC1 k
  have aFb := aF1 f
  have f1 := hMx.2.1.1
  have kk := hMx.2.2.1.1
  have wk := KS_wk hKx
  rw [hkd] at wk
  have hc := hQx.1.1
  have cc := hc.2
  have w06 : 0 ≤ w ∧ w ≤ 6 := by unfold wkT at wk; omega
  have r22 : ∀ A1, MS c B f k D A1 → (0 ≤ B ∧ B ≤ A1 1977 22) ∧ A1 1977 22 ≤ B + 24 := fun A1 h => by
    have h1 := h.1.2.1
    have h2 := h.2.2.1.1
    omega
  have jr : ∀ {A1}, PS c T n p B f k w D A1 → (w = 3 ∨ kd = 4 → D 1956 15 < 7) ∧ (w = 3 → A1 1977 67 = 0 ∨ A1 1977 67 = 1) ∧ (w = 3 → D (aC 1 k + 4) (D 1956 15) = 0) := fun {A1} h => by
    obtain ⟨_, ⟨h1, h2⟩, h3⟩ := h
    have bT := (MS_fT h1).1
    rcases h3 with h | ⟨h0, ⟨h1, h⟩ | h⟩
    · exact ⟨fun _ => by omega, fun y => by omega, fun y => by omega⟩
    · refine ⟨fun y => ?_, fun y => absurd y h1, fun y => absurd y h1⟩
      rcases y with y | y
      · exact absurd y h1
      · exact absurd (hkd.trans y) h0
    · refine ⟨fun _ => by have := h.2.2.2.1; omega, fun _ => ?_, fun _ => h.2.2.1 _ (Int.le_refl _) (by have := h.2.2.2.1; omega)⟩
      rcases h.2.2.2.2.1 with g | g
      · exact Or.inr g.1
      · exact Or.inl g.1
  /- the other side up to the number -/
  have bad : ∀ (D' : tD) (o : Int × Int), 0 < o.1 → D' 1957 2 = o.1 → D' 1957 3 = o.2 → frZ D D' → (∀ A A1, frV A A1 → PS c T n p B f k w D A1 → ∀ (K' : tD → Int → Prop) (E' : tD → Nat → Prop), (∀ A', A' 1977 45 = o.1 → A' 1977 46 = o.2 → frV A1 A' → A' 1977 22 = A1 1977 22 → K' A' 0) → CS sc w A1 K' E') → K D' 0 := fun D' o op d1 d2 d3 h => by
    refine hN D' d3 (Pre_sim hP (fun A A1 v hp K' E' hK' => h A A1 v hp K' E' (fun A' a1 a2 a3 a4 => hK' A' (lnP_bd (frV_tr v a3) ⟨by rw [d1, a1], by rw [d2, a2]⟩ (by rw [a1]; exact op) (by rw [a4]; exact r22 A1 hp.2.1.1)))))
  have fl22' : ∀ (A1 : tD) cd q, (fl A1 cd q) 1977 22 = A1 1977 22 := fun A1 cd q => by
    unfold fl
    rw [wr_ni (by omega), wr_ni (by omega)]
  refine v143_0 (t_expect hc (fun e1 => ?_) (fun e1 => ?_))
  rotate_left
  · rw [if_pos rfl]
    refine bad _ (1, p) (show (0 : Int) < 1 by decide) fc_2 fc_3 frZ_fc (fun A A1 v hp K' E' hK' => ?_)
    unfold CS
    refine v271_182 (u_expects hp.1.1.2 (fun y => absurd y e1) (fun _ => ?_))
    rw [if_pos rfl]
    exact hK' _ fl_45 fl_46 frV_fl (fl22' _ _ _)
  rw [if_neg (show ¬ (1 : Int) = 0 by decide)]
  have pn := pb_lt e1 (by omega)
  have hc1 := cu_wr hc (b := p + 1) ⟨by omega, by omega⟩
  have up : ∀ {A1 : tD} {K' : tD → Int → Prop} {E' : tD → Nat → Prop}, PS c T n p B f k w D A1 → (WP sc 257 0 (wr A1 1977 47 (p + 1)) [(0, (1211, 1977))] [] (fun D4 r5 => if r5 = 0 then (K' D4 0) else (WP sc 278 0 D4 [(0, (1211, 1977)), (1, (0, w)), (2, (0, p + 1))] [] (fun D7 r8 => if r8 = 0 then (K' D7 0) else CV sc w D7 K' E') E')) E') → CS sc w A1 K' E' := fun {A1 K' E'} hp h => by
    unfold CS
    refine v271_182 (u_expects hp.1.1.2 (fun _ => ?_) (fun y => absurd e1 y))
    rw [if_neg (show ¬ (1 : Int) = 0 by decide), show (wr A1 1977 47 (p + 1)) 1977 47 = p + 1 from wr_self]
    exact h
  have m1 : ∀ {A1}, PS c T n p B f k w D A1 → mu (wr A1 1977 47 (p + 1)) T n (p + 1) := fun hp => mu_wr hp.1.1.2 ⟨by omega, by omega⟩
  refine t_num hc1 (fun e2 => ?_) (fun e2 D' d1 d2 d3 => ?_)
  rotate_left
  · rw [if_pos rfl]
    have np : 0 < (nmb T n (p + 1)).1 := by
      have := nmb_pos (T := T) (n := n) (a := p + 1)
      omega
    refine bad D' ((nmb T n (p + 1)).1, (nmb T n (p + 1)).2.2) np d1 d2 (fun x j u => by rw [d3 x j (by omega)]; exact frZ_wr (by omega) x j u) (fun A A1 v hp K' E' hK' => up hp ?_)
    refine u_num (m1 hp) (fun y => absurd y e2) (fun _ A' a1 a2 a3 => ?_)
    rw [if_pos rfl]
    refine hK' A' a1 a2 (fun x j u => ?_) (by rw [a3 _ _ (by omega), wr_ni (by omega)])
    rw [a3 x j (by omega)]
    exact frV_wr (by omega) x j u
  rw [if_neg (show ¬ (1 : Int) = 0 by decide)]
  have nr := nmb_rng e2 ⟨by omega, by omega⟩
  obtain ⟨en1, en2⟩ : p + 1 ≤ (nmb T n (p + 1)).2.2 ∧ (nmb T n (p + 1)).2.2 ≤ n := nmb_end2 e2 ⟨by omega, by omega⟩
  have ep1 : (wr D 1957 1 (p + 1)) 1957 1 = p + 1 := wr_self
  rw [ep1]
  have e14 : (wr (wr (wr D 1957 1 (p + 1)) 1957 1 (nmb T n (p + 1)).2.2) 1957 4 (nmb T n (p + 1)).2.1) 1957 4 = (nmb T n (p + 1)).2.1 := wr_self
  rw [e14]
  generalize hv0 : (nmb T n (p + 1)).2.1 = v at *
  generalize he0 : (nmb T n (p + 1)).2.2 = e at *
  generalize hD4 : wr (wr (wr D 1957 1 (p + 1)) 1957 1 e) 1957 4 v = D4 at *
  have o4 : ∀ x i, x ≠ 1957 → D4 x i = D x i := fun x i u => by rw [← hD4, wr_ne u, wr_ne u, wr_ne u]
  have o4c : D4 1957 0 = D 1957 0 ∧ D4 1957 1 = e ∧ D4 1957 2 = D 1957 2 ∧ D4 1957 3 = D 1957 3 := by
    rw [← hD4]
    refine ⟨by rw [wr_ni (by omega), wr_ni (by omega), wr_ni (by omega)], by rw [wr_ni (by omega), wr_self], by rw [wr_ni (by omega), wr_ni (by omega), wr_ni (by omega)], by rw [wr_ni (by omega), wr_ni (by omega), wr_ni (by omega)]⟩
  have z4 : frZ D D4 := fun x j u => by
    by_cases y : x = 1957
    · subst y
      have : j = 0 := by omega
      rw [this]; exact o4c.1
    · exact o4 x j y
  have e9 : D4 1956 9 = w := by rw [o4 _ _ (by omega)]; exact hNx.2.2
  have eF : D4 1956 5 = aF 1 f := by rw [o4 _ _ (by omega)]; exact hMx.2.1.2.1
  have ek : D4 (aF 1 f) 5 = kd := by rw [o4 _ _ (by omega)]; exact hkd
  /- the other side at the number -/
  have at4 : ∀ {A1 : tD} {K' : tD → Int → Prop} {E' : tD → Nat → Prop}, PS c T n p B f k w D A1 → (∀ A4, (∀ x i, x ≠ 1977 → A4 x i = A1 x i) → (∀ i, i ≠ 47 → i ≠ 58 → A4 1977 i = A1 1977 i) → A4 1977 47 = e → A4 1977 58 = v → WP sc 278 0 A4 [(0, (1211, 1977)), (1, (0, w)), (2, (0, p + 1))] [] (fun D7 r8 => if r8 = 0 then (K' D7 0) else CV sc w D7 K' E') E') → CS sc w A1 K' E' := fun {A1 K' E'} hp h => up hp (by
    refine u_num (m1 hp) (fun _ => ?_) (fun y => absurd e2 y)
    rw [if_neg (show ¬ (1 : Int) = 0 by decide), he0, hv0]
    exact h _ (fun x i u => by rw [wr_ne u, wr_ne u, wr_ne u]) (fun i u y => by rw [wr_ni y, wr_ni u, wr_ni u]) (by rw [wr_ni (by omega), wr_self]) wr_self)
  have tk : ∀ {A1 A4 : tD} {K' : tD → Int → Prop} {E' : tD → Nat → Prop}, PS c T n p B f k w D A1 → (∀ x i, x ≠ 1977 → A4 x i = A1 x i) → (∀ i, i ≠ 47 → i ≠ 58 → A4 1977 i = A1 1977 i) → A4 1977 58 = v → (¬ valR w kd v → ∀ x, K' (fl (wr A4 1977 52 x) 11 (p + 1)) 0) → (valR w kd v → ¬ bOK w (D 1956 16) v → ∀ x, K' (fl (wr A4 1977 52 x) 12 (p + 1)) 0) → (valR w kd v → bOK w (D 1956 16) v → ∀ A', tkV f k w kd v (D 1956 15) (D 1956 16) A4 A' → CV sc w A' K' E') → WP sc 278 0 A4 [(0, (1211, 1977)), (1, (0, w)), (2, (0, p + 1))] [] (fun D7 r8 => if r8 = 0 then (K' D7 0) else CV sc w D7 K' E') E' := fun {A1 A4 K' E'} hp q1 q2 q3 g1 g2 g3 => by
    have M := hp.2.1.1
    have N := hp.2.1.2
    refine u_takes (f := f) (k := k) (w := w) (kd := kd) (v := v) (j := D 1956 15) (u := D 1956 16) q3 (by rw [q2 _ (by omega) (by omega)]; exact M.2.2.1.2.2.1) ⟨kk.1, kk.2.1⟩ (by rw [q2 _ (by omega) (by omega)]; exact M.2.1.2.2.2) ⟨f1.1, f1.2.1⟩ (by rw [q1 _ _ (by omega), ← (MS_fB M).2.2.2.1]; exact hkd) (by rw [q2 _ (by omega) (by omega)]; exact hp.1.1.2.1.2.2) wk ⟨by rw [q2 _ (by omega) (by omega)]; exact N.2.1.1, N.2.1.2.1, N.2.1.2.2⟩ nr ⟨by rw [q2 _ (by omega) (by omega)]; have := N.1.1; omega, N.1.2.1, by have := N.1.2.2; omega⟩ (jr hp).1 (fun y => by rw [q2 _ (by omega) (by omega)]; exact (jr hp).2.1 y) (fun y x => ?_) (fun y1 y2 x => ?_) (fun y1 y2 A' hh => ?_)
    · rw [if_pos rfl]; exact g1 y x
    · rw [if_pos rfl]; exact g2 y1 y2 x
    · rw [if_neg (show ¬ (1 : Int) = 0 by decide)]; exact g3 y1 y2 A' hh
  have bad2 : ∀ cd, 0 < cd → (∀ A1 A4 : tD, PS c T n p B f k w D A1 → (∀ x i, x ≠ 1977 → A4 x i = A1 x i) → (∀ i, i ≠ 47 → i ≠ 58 → A4 1977 i = A1 1977 i) → A4 1977 58 = v → ∀ (K' : tD → Int → Prop) (E' : tD → Nat → Prop), (∀ x, K' (fl (wr A4 1977 52 x) cd (p + 1)) 0) → WP sc 278 0 A4 [(0, (1211, 1977)), (1, (0, w)), (2, (0, p + 1))] [] (fun D7 r8 => if r8 = 0 then (K' D7 0) else CV sc w D7 K' E') E') → K (fc D4 cd (p + 1)) 0 := fun cd cp h => by
    refine bad _ (cd, p + 1) cp fc_2 fc_3 (frZ_tr z4 frZ_fc) (fun A A1 v1 hp K' E' hK' => at4 hp (fun A4 q1 q2 q3 q4 => h A1 A4 hp q1 q2 q4 K' E' (fun x => hK' _ fl_45 fl_46 ?_ ?_)))
    · refine frV_tr (A1 := A4) (fun y j u => ?_) (frV_tr (frV_wr (by omega)) frV_fl)
      by_cases z : y = 1977
      · subst z; exact q2 j (by omega) (by omega)
      · exact q1 y j z
    · rw [fl22', wr_ni (by omega)]; exact q2 _ (by omega) (by omega)
  have e16 : D4 1956 16 = D 1956 16 := o4 _ _ (by omega)
  have n16 := hNx.2.1.2
  refine t_right (w := w) (kd := kd) (F := aF 1 f) e9 w06 ⟨eF, by omega⟩ ek (fun hV => ?_) (fun hV => ?_)
  rotate_left
  · rw [if_pos rfl]
    exact t_fc (bad2 11 (by decide) (fun A1 A4 hp q1 q2 q3 K' E' hK' => tk hp q1 q2 q3 (fun _ => hK') (fun y => absurd y hV) (fun y => absurd y hV)))
  rw [if_neg (show ¬ (1 : Int) = 0 by decide), e9, e16, e14]
  have fin : bOK w (D 1956 16) v → WP sc 145 0 D4 [(0, (1209, 1956)), (1, (1, v))] [] (fun D16 _ => K D16 1) E := fun hB => by
    refine t_kp (f := f) (k := k) (w := w) (kd := kd) (v := v) (j := D 1956 15) (u := D 1956 16) e9 (by rw [o4 _ _ (by omega)]; exact hMx.2.2.1.2.1) ⟨kk.1, kk.2.1⟩ eF ⟨f1.1, f1.2.1⟩ ek wk ⟨o4 _ _ (by omega), hNx.1.2.1, by have := hNx.1.2.2; omega⟩ (jr hPx).1 ⟨e16, n16⟩ nr (fun w3 => ?_) (fun D' hkp => ?_)
    · rw [o4 _ _ (by omega), (jr hPx).2.2 w3]
      exact ⟨(hV.2.1 (Or.inl w3)).1, by omega, by omega⟩
    · have zk : frZ D4 D' := fun x j u => by
        have := hkp.2.2.2.2.2.1 x j (by omega) (by omega) (by omega)
        exact this
      have kd5 : D' (aF 1 f) 5 = kd := by rw [hkp.2.2.2.2.2.1 _ _ (by omega) (by omega) (by omega)]; exact ek
      refine hT D' e (by omega) en2 (frZ_tr z4 zk) kd5 (by rw [hkp.2.2.2.2.2.1 _ _ (by omega) (by omega) (by omega)]; exact o4 _ _ (by omega)) (Pre_go hP (fun A A1 v1 hp K' E' hC => at4 hp (fun A4 q1 q2 q3 q4 => tk hp q1 q2 q4 (fun y => absurd hV y) (fun _ y => absurd hB y) (fun _ _ A' htk => ?_))))
      have V4 : frV A1 A4 := fun y j u => by
        by_cases z : y = 1977
        · subst z; exact q2 j (by omega) (by omega)
        · exact q1 y j z
      have V5 : frV A4 A' := tkV_frV htk kk.1 hNx.1.2.1
      exact hC A' (frV_tr v1 (frV_tr V4 V5)) (PV_of hp hkd ⟨by omega, en2⟩ nr hV hB o4 o4c q1 q2 q3 hkp htk).1
  by_cases w3 : w = 3
  · rw [if_pos w3, if_neg (show ¬ w = 4 by omega)]
    have v0 := (hV.2.1 (Or.inl w3))
    rw [tdiv_1000 v0.1, w64_id (x := v / 1000) (by omega) (by omega)]
    by_cases z : v / 1000 < D 1956 16
    · rw [if_pos (tlc_n.mpr z)]
      exact t_fc (bad2 12 (by decide) (fun A1 A4 hp q1 q2 q3 K' E' hK' => tk hp q1 q2 q3 (fun y => absurd hV y) (fun _ _ => hK') (fun _ y => by have := y.1 w3; omega)))
    · rw [if_neg (fun y => z (tlc_n.mp y))]
      exact fin ⟨fun _ => by omega, fun y => by omega⟩
  rw [if_neg w3]
  by_cases w4 : w = 4
  · rw [if_pos w4]
    have v0 := (hV.2.1 (Or.inr w4))
    rw [tdiv_1000 v0.1, w64_id (x := v / 1000) (by omega) (by omega)]
    by_cases z : v / 1000 = D 1956 16
    · rw [if_pos (tlc_z.mpr z)]
      exact fin ⟨fun y => by omega, fun _ => by omega⟩
    · rw [if_neg (fun y => z (tlc_z.mp y))]
      exact t_fc (bad2 12 (by decide) (fun A1 A4 hp q1 q2 q3 K' E' hK' => tk hp q1 q2 q3 (fun y => absurd hV y) (fun _ _ => hK') (fun _ y => by have := y.2 w4; omega)))
  · rw [if_neg w4]
    exact fin ⟨fun y => by omega, fun y => by omega⟩
end VLO
