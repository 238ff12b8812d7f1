/-! reading a sample: its value kept, each side -/
section VLM
variable {sc : Nat × (Nat → Int32)} {D D' A A' A0 D0 : tD} {K : tD → Int → Prop} {E : tD → Nat → Prop} {T : Int → Int} {n c : Int}
/-- one child other than before, both sides -/
theorem MS_ch {B f k : Int} (h : MS c B f k D A) (hD : ∀ x i, x < 1956 → ¬ (x = aC 1 k ∧ (i = 5 ∨ i = 6 ∨ i = 7)) → x ≠ aC 1 k + 4 → D' x i = D x i) (hR : ∀ j, j = 5 ∨ j = 6 ∨ j = 7 ∨ j = 13 → D' 1956 j = D 1956 j) (hA : ∀ x i, 1978 ≤ x → x ≤ 2008 → ¬ ((x = 1999 ∨ x = 2000 ∨ x = 2001) ∧ i = 24 + k) → ¬ (x = 2002 ∧ 7 * (24 + k) ≤ i ∧ i < 7 * (24 + k) + 7) → A' x i = A x i) (hA7 : ∀ j, j = 22 ∨ j = 48 ∨ j = 50 → A' 1977 j = A 1977 j) (h5 : D' (aC 1 k) 5 = A' 1999 (24 + k) ∧ -mostN ≤ D' (aC 1 k) 5 ∧ D' (aC 1 k) 5 ≤ mostN) (h6 : D' (aC 1 k) 6 = A' 2000 (24 + k) ∧ -1 ≤ D' (aC 1 k) 6 ∧ D' (aC 1 k) 6 ≤ 2000000000000000) (h7 : D' (aC 1 k) 7 = A' 2001 (24 + k) ∧ 0 ≤ D' (aC 1 k) 7 ∧ D' (aC 1 k) 7 ≤ 15) (hK : ∀ b, 0 ≤ b → b < 7 → D' (aC 1 k + 4) b = A' 2002 (7 * (24 + k) + b) ∧ 0 ≤ D' (aC 1 k + 4) b ∧ D' (aC 1 k + 4) b ≤ 1000000000000 + c ∧ (D (aF 1 f) 5 ≠ 2 ∨ D (aF 1 f) 6 < b → D' (aC 1 k + 4) b = 0)) : MS c B f k D' A' := by
  have aCb := aC1 k
  have aFb := aF1 f
  have f1 := h.2.1.1
  have kk := h.2.2.1.1
  have k4 := h.2.2.1.2.2.2.2
  have k3 := h.2.2.1.2.2.2.1
  have e24 : (24 : Int) * 1 + k = 24 + k := by omega
  have L : ∀ x i, x < 1956 → mx D' A' x i = D' x i := fun x i u => mx_lo (by omega)
  have H : ∀ x i, 1977 ≤ x → mx D' A' x i = A' x i := fun x i u => mx_hi u
  have oldL : ∀ x i, x < 1956 → mx D A x i = D x i := fun x i u => mx_lo (by omega)
  have oldH : ∀ x i, 1977 ≤ x → mx D A x i = A x i := fun x i u => mx_hi u
  have slo : ∀ x i, x < 1956 → ¬ (x = aC 1 k ∧ (i = 5 ∨ i = 6 ∨ i = 7)) → x ≠ aC 1 k + 4 → mx D' A' x i = mx D A x i := fun x i u y1 y2 => by rw [L _ _ u, oldL _ _ u]; exact hD x i u y1 y2
  have shi : ∀ x i, 1978 ≤ x → x ≤ 2008 → ¬ ((x = 1999 ∨ x = 2000 ∨ x = 2001) ∧ i = 24 + k) → ¬ (x = 2002 ∧ 7 * (24 + k) ≤ i ∧ i < 7 * (24 + k) + 7) → mx D' A' x i = mx D A x i := fun x i u u2 y1 y2 => by rw [H _ _ (by omega), oldH _ _ (by omega)]; exact hA x i u u2 y1 y2
  have oc : chR c (mx D A) 1 k := ((h.1.1.1.2.2.1 k kk.1 kk.2.1).2.2) (by rw [oldL _ _ (by omega)]; exact k3)
  have nc : chR c (mx D' A') 1 k := by
    obtain ⟨a1, ⟨a2, a3⟩, -, -, -, -, a8⟩ := oc
    have r1 : ∀ x i, aC 1 k + 1 ≤ x → x ≤ aC 1 k + 3 → mx D' A' x i = mx D A x i := fun x i u v => slo _ _ (by omega) (by omega) (by omega)
    refine ⟨?_, ⟨rowm_fr (fun j => r1 _ _ (by omega) (by omega)) (fun j => r1 _ _ (by omega) (by omega)) (fun j => shi _ _ (by omega) (by omega) (by omega) (by omega)) (shi _ _ (by omega) (by omega) (by omega) (by omega)) a2, lsW_fr (r1 _ _ (by omega) (by omega)) (rat_fr (r1 _ _ (by omega) (by omega)) (fun j => r1 _ _ (by omega) (by omega))) (r1 _ _ (by omega) (by omega)) a3⟩, ?_, ?_, ?_, fun b u v => ?_, ?_⟩
    · rw [slo (aC 1 k) 4 (by omega) (by omega) (by omega), slo (5 + 975 * 1) 4 (by omega) (by omega) (by omega), shi 1995 _ (by omega) (by omega) (by omega) (by omega)]; exact a1
    · rw [L _ _ (by omega), H _ _ (by omega), e24]; exact h5
    · rw [L _ _ (by omega), H _ _ (by omega), e24]; exact h6
    · rw [L _ _ (by omega), H _ _ (by omega), e24]; exact h7
    · rw [L (aC 1 k + 4) _ (by omega), H _ _ (by omega), e24, slo (aC 1 k) 4 (by omega) (by omega) (by omega), oldL _ 4 (by omega), k4, slo (aF 1 f) 5 (by omega) (by omega) (by omega), slo (aF 1 f) 6 (by omega) (by omega) (by omega), oldL _ 5 (by omega), oldL _ 6 (by omega)]
      exact hK b u v
    · exact chX_fr (D := mx D A) (fun x i u v => slo _ _ (by omega) (by omega) (by omega)) (fun x i u v => shi _ _ (by omega) (by omega) (by omega) (by omega)) a8
  refine MS_to h ?_ (fun i u => hD _ _ (by omega) (by omega) (by omega)) (fun i i2 u y z => by have := aC1 i; exact hD _ _ (by omega) (by omega) (by omega)) hR hA7
  refine shR_chl (D := mx D A) (k := k) (Or.inr rfl) ⟨kk.1, kk.2.1⟩ (Int.le_refl _) (slo _ _ (by omega) (by omega) (by omega)) (fun _ => nc) (fun x i u1 u2 => ?_) h.1.1.1
  have n1 : ¬ (aC 1 k ≤ x ∧ x ≤ aC 1 k + 33) := fun w => u2 (Or.inl w)
  by_cases z : x < 1956
  · exact slo x i z (by omega) (by omega)
  have z7 : x = 1977 ∨ (1978 ≤ x ∧ x ≤ 2008) := by rcases u1 with w | w | w | w | w | w | w <;> omega
  rcases z7 with z7 | z7
  · subst z7
    rw [H _ _ (by omega), oldH _ _ (by omega)]
    refine hA7 i ?_
    rcases u1 with w | w | w | w | w | w | w <;> omega
  · refine shi x i z7.1 z7.2 (fun w => u2 (Or.inr (Or.inl ⟨by omega, by omega⟩))) (fun w => u2 (Or.inr (Or.inr (Or.inr (Or.inl ⟨by omega, by omega, by omega⟩)))))
/-- counts fit -/
def bOK (w u v : Int) : Prop := (w = 3 → 1000 * u ≤ v) ∧ (w = 4 → v = 1000 * u)
/-- what the other side has behind a value -/
def tkV (f k w kd v j u : Int) (A A' : tD) : Prop := (A' 1977 52 = if w = 1 ∨ w = 5 then 1 else 0) ∧ (∀ x i, x ≠ 1977 → x ≠ 1999 → x ≠ 2000 → x ≠ 2001 → x ≠ 2002 → A' x i = A x i) ∧ (∀ x i, x = 1999 ∨ x = 2000 ∨ x = 2001 → i ≠ 24 + k → A' x i = A x i) ∧ (∀ i, i ≠ 7 * (24 + k) + j → A' 2002 i = A 2002 i) ∧ (∀ i, i < 51 ∨ (55 < i ∧ i < 69) ∨ i = 70 ∨ 71 < i → A' 1977 i = A 1977 i) ∧
  (A' 1999 (24 + k) = if w = 1 ∨ w = 5 ∨ (w = 0 ∧ kd = 1) then v else A 1999 (24 + k)) ∧ (A' 2000 (24 + k) = if w = 2 then v else A 2000 (24 + k)) ∧ (A' 2001 (24 + k) = if w = 0 ∧ kd = 4 ∧ v = 1000 then tio (A 2001 (24 + k)) (tsl 1 j) else A 2001 (24 + k)) ∧ (A' 2002 (7 * (24 + k) + j) = if w = 3 then v / 1000 - u else A 2002 (7 * (24 + k) + j)) ∧
  (A' 1977 53 = if w = 3 ∨ kd = 4 then j + 1 else j) ∧ (A' 1977 55 = if w = 3 then v else A 1977 55) ∧ (A' 1977 54 = if w = 3 then A 1977 68 else A 1977 54) ∧ (w = 3 → A' 1977 69 = A 1977 54 ∧ A' 1977 71 = if 1000 * u < v then 1 else 0) ∧
  (w = 3 → A' 1977 51 = if A 1977 67 = 0 then 1 else 2) ∧ (w = 4 → A' 1977 51 = 3) ∧ (w = 5 → A' 1977 51 = 0) ∧ (w = 1 ∨ w = 2 ∨ w = 6 ∨ kd = 1 → A' 1977 51 = A 1977 51) ∧ (kd = 4 → ((fiM A k ∨ j + 1 = A 1991 (8 + f)) → A' 1977 51 = 0) ∧ (¬ (fiM A k ∨ j + 1 = A 1991 (8 + f)) → A' 1977 51 = 4))
theorem tmod_1000 {v : Int} (h : 0 ≤ v) : Int.tmod v 1000 = v % 1000 := Int.tmod_eq_emod_of_nonneg h
theorem tdiv_1000 {v : Int} (h : 0 ≤ v) : Int.tdiv v 1000 = v / 1000 := Int.tdiv_eq_ediv_of_nonneg h
theorem u_takes {f k w kd v pl j u : Int} (h58 : A 1977 58 = v) (h50 : A 1977 50 = 24 + k) (hk : 0 ≤ k ∧ k < 24) (h48 : A 1977 48 = 8 + f) (hf : 0 ≤ f ∧ f < 8) (hkd : A 1980 (8 + f) = kd) (h45 : A 1977 45 = 0) (hw : (kd = 0 ∧ (w = 1 ∨ w = 2)) ∨ (kd = 1 ∧ w = 0) ∨ (kd = 3 ∧ w = 6) ∨ (kd = 2 ∧ (w = 2 ∨ w = 3 ∨ w = 4 ∨ w = 5)) ∨ (kd = 4 ∧ w = 0)) (h55 : A 1977 55 = 1000 * u ∧ 0 ≤ u ∧ u ≤ 1000000000000) (hv : -mostN ≤ v ∧ v ≤ mostN) (h53 : A 1977 53 = j ∧ 0 ≤ j ∧ j ≤ 7) (hj : w = 3 ∨ kd = 4 → j < 7) (h67 : w = 3 → A 1977 67 = 0 ∨ A 1977 67 = 1) (hV : ¬ valR w kd v → ∀ x, K (fl (wr A 1977 52 x) 11 pl) 0) (hB : valR w kd v → ¬ bOK w u v → ∀ x, K (fl (wr A 1977 52 x) 12 pl) 0) (hT : valR w kd v → bOK w u v → ∀ A', tkV f k w kd v j u A A' → K A' 1) : WP sc 278 0 A [(0, (1211, 1977)), (1, (0, w)), (2, (0, pl))] [] K E := by
  have mN : mostN = 999999999999999 := rfl
  have c0 : ∀ x, (wr A 1977 52 x) 1977 45 = 0 := fun x => by rw [wr_ni (by omega)]; exact h45
  have o7 : ∀ x i, i ≠ 52 → (wr A 1977 52 x) 1977 i = A 1977 i := fun x i z => wr_ni z
  have on : ∀ x y i, y ≠ 1977 → (wr A 1977 52 x) y i = A y i := fun x y i z => wr_ne z
  have lk : 0 ≤ A 1977 50 ∧ A 1977 50 < 48 := by omega
  refine v278_0 ?_
  by_cases w1 : w = 1
  · rw [if_pos w1, if_pos w1, o7 _ 58 (by omega), h58]
    have k0 : kd = 0 := by omega
    have iff : valR w kd v ↔ 0 ≤ v := ⟨fun z => z.1 (Or.inl w1), fun z => ⟨fun _ => z, fun y => by omega, fun y => by omega, fun y => by omega⟩⟩
    by_cases z : v < 0
    · rw [if_pos (tlc_n.mpr z)]
      exact u_fails (c0 1) (hV (fun y => by have := iff.mp y; omega) 1)
    · rw [if_neg (fun y => z (tlc_n.mp y)), h50]
      refine ⟨⟨by omega, by omega⟩, hT (iff.mpr (by omega)) ⟨fun y => by omega, fun y => by omega⟩ _ ⟨?_, fun x i z1 z2 z3 z4 z5 => ?_, fun x i z1 z2 => ?_, fun i z1 => ?_, fun i z1 => ?_, ?_, ?_, ?_, ?_, ?_, ?_, ?_, fun y => by omega, fun y => by omega, fun y => by omega, fun y => by omega, fun _ => ?_, fun y => by omega⟩⟩
      · rw [wr_ne (by omega), wr_self, if_pos (by omega)]
      · rw [wr_ne z2, wr_ne z1]
      · by_cases y : x = 1999
        · subst y; rw [wr_ni z2, wr_ne (by omega)]
        · rw [wr_ne y, wr_ne (by omega)]
      · rw [wr_ne (by omega), wr_ne (by omega)]
      · rw [wr_ne (by omega), wr_ni (by omega)]
      · rw [wr_self, if_pos (Or.inl w1)]
      · rw [wr_ne (by omega), wr_ne (by omega), if_neg (by omega)]
      · rw [wr_ne (by omega), wr_ne (by omega), if_neg (by omega)]
      · rw [wr_ne (by omega), wr_ne (by omega), if_neg (by omega)]
      · rw [wr_ne (by omega), wr_ni (by omega), if_neg (by omega)]; exact h53.1
      · rw [wr_ne (by omega), wr_ni (by omega), if_neg (by omega)]
      · rw [wr_ne (by omega), wr_ni (by omega), if_neg (by omega)]
      · rw [wr_ne (by omega), wr_ni (by omega)]
  rw [if_neg w1]
  by_cases w5 : w = 5
  · rw [if_pos w5, if_neg w1, if_neg (by omega), if_neg (by omega), if_neg (by omega), if_pos w5, h50, o7 _ 58 (by omega), h58]
    refine ⟨⟨by omega, by omega⟩, hT ⟨fun y => by omega, fun y => by omega, fun y => by omega, fun y => by omega⟩ ⟨fun y => by omega, fun y => by omega⟩ _ ⟨?_, fun x i z1 z2 z3 z4 z5 => ?_, fun x i z1 z2 => ?_, fun i z1 => ?_, fun i z1 => ?_, ?_, ?_, ?_, ?_, ?_, ?_, ?_, fun y => by omega, fun y => by omega, fun y => by omega, fun _ => wr_self, fun y => by omega, fun y => by omega⟩⟩
    · rw [wr_ni (by omega), wr_ne (by omega), wr_self, if_pos (by omega)]
    · rw [wr_ne z1, wr_ne z2, wr_ne z1]
    · rw [wr_ne (by omega)]
      by_cases y : x = 1999
      · subst y; rw [wr_ni z2, wr_ne (by omega)]
      · rw [wr_ne y, wr_ne (by omega)]
    · rw [wr_ne (by omega), wr_ne (by omega), wr_ne (by omega)]
    · rw [wr_ni (by omega), wr_ne (by omega), wr_ni (by omega)]
    · rw [wr_ne (by omega), wr_self, if_pos (by omega)]
    · rw [wr_ne (by omega), wr_ne (by omega), wr_ne (by omega), if_neg (by omega)]
    · rw [wr_ne (by omega), wr_ne (by omega), wr_ne (by omega), if_neg (by omega)]
    · rw [wr_ne (by omega), wr_ne (by omega), wr_ne (by omega), if_neg (by omega)]
    · rw [wr_ni (by omega), wr_ne (by omega), wr_ni (by omega), if_neg (by omega)]; exact h53.1
    · rw [wr_ni (by omega), wr_ne (by omega), wr_ni (by omega), if_neg (by omega)]
    · rw [wr_ni (by omega), wr_ne (by omega), wr_ni (by omega), if_neg (by omega)]
  rw [if_neg w5, if_neg w1]
  by_cases w2 : w = 2
  · rw [if_pos w2, o7 _ 58 (by omega), h58]
    have iff : valR w kd v ↔ 0 ≤ v := ⟨fun z => z.1 (Or.inr w2), fun z => ⟨fun _ => z, fun y => by omega, fun y => by omega, fun y => by omega⟩⟩
    by_cases z : v < 0
    · rw [if_pos (tlc_n.mpr z)]
      exact u_fails (c0 0) (hV (fun y => by have := iff.mp y; omega) 0)
    · rw [if_neg (fun y => z (tlc_n.mp y)), h50]
      refine ⟨⟨by omega, by omega⟩, hT (iff.mpr (by omega)) ⟨fun y => by omega, fun y => by omega⟩ _ ⟨?_, fun x i z1 z2 z3 z4 z5 => ?_, fun x i z1 z2 => ?_, fun i z1 => ?_, fun i z1 => ?_, ?_, ?_, ?_, ?_, ?_, ?_, ?_, fun y => by omega, fun y => by omega, fun y => by omega, fun y => by omega, fun _ => ?_, fun y => by omega⟩⟩
      · rw [wr_ne (by omega), wr_self, if_neg (by omega)]
      · rw [wr_ne z3, wr_ne z1]
      · by_cases y : x = 2000
        · subst y; rw [wr_ni z2, wr_ne (by omega)]
        · rw [wr_ne y, wr_ne (by omega)]
      · rw [wr_ne (by omega), wr_ne (by omega)]
      · rw [wr_ne (by omega), wr_ni (by omega)]
      · rw [wr_ne (by omega), wr_ne (by omega), if_neg (by omega)]
      · rw [wr_self, if_pos w2]
      · rw [wr_ne (by omega), wr_ne (by omega), if_neg (by omega)]
      · rw [wr_ne (by omega), wr_ne (by omega), if_neg (by omega)]
      · rw [wr_ne (by omega), wr_ni (by omega), if_neg (by omega)]; exact h53.1
      · rw [wr_ne (by omega), wr_ni (by omega), if_neg (by omega)]
      · rw [wr_ne (by omega), wr_ni (by omega), if_neg (by omega)]
      · rw [wr_ne (by omega), wr_ni (by omega)]
  rw [if_neg w2]
  by_cases w3 : w = 3
  · rw [if_pos w3]
    have k2 : kd = 2 := by omega
    have iff : valR w kd v ↔ (0 ≤ v ∧ v % 1000 = 0) := ⟨fun z => z.2.1 (Or.inl w3), fun z => ⟨fun y => by omega, fun _ => z, fun y => by omega, fun y => by omega⟩⟩
    have j7 := hj (Or.inl w3)
    have q67 := h67 w3
    refine v280_0 ?_
    rw [o7 _ 58 (by omega), h58]
    have bad : ¬ valR w kd v → WP sc 280 22 (wr A 1977 52 0) [(0, (1211, 1977)), (1, (0, pl))] [] (fun D1 r2 => tbl r2 (K D1 r2)) E := fun y => by
      refine v280_22 (u_fails (c0 0) (tbl_of (Or.inl rfl) (hV y 0)))
    by_cases z : v < 0
    · rw [if_pos (tlc_n.mpr z)]
      exact bad (fun y => by have := iff.mp y; omega)
    rw [if_neg (fun y => z (tlc_n.mp y)), tmod_1000 (by omega)]
    by_cases z2 : v % 1000 = 0
    rotate_left
    · rw [if_neg (fun y => z2 (tlc_z.mp y))]
      exact bad (fun y => z2 (iff.mp y).2)
    rw [if_pos (tlc_z.mpr z2), o7 _ 55 (by omega), h55.1]
    by_cases z3 : v < 1000 * u
    · rw [if_pos (tlc_n.mpr z3)]
      exact u_fails (c0 0) (tbl_of (Or.inl rfl) (hB (iff.mpr ⟨by omega, z2⟩) (fun y => by have := y.1 w3; omega) 0))
    rw [if_neg (fun y => z3 (tlc_n.mp y)), o7 _ 50 (by omega), o7 _ 53 (by omega), h50, h53.1, w32_id (x := 7 * (24 + k)) (by omega) (by omega), w32_id (x := 7 * (24 + k) + j) (by omega) (by omega), w64_id (x := v - 1000 * u) (by omega) (by omega), tdiv_1000 (by omega), w64_id (x := (v - 1000 * u) / 1000) (by omega) (by omega)]
    refine ⟨⟨by omega, by omega⟩, ?_⟩
    generalize e1 : wr (wr A 1977 52 0) 2002 (7 * (24 + k) + j) ((v - 1000 * u) / 1000) = D1
    have a1 : ∀ x i, x ≠ 1977 → ¬ (x = 2002 ∧ i = 7 * (24 + k) + j) → D1 x i = A x i := fun x i y1 y2 => by
      rw [← e1]
      by_cases y : x = 2002
      · subst y; rw [wr_ni (by omega), wr_ne (by omega)]
      · rw [wr_ne y, wr_ne y1]
    have a17 : ∀ i, i ≠ 52 → D1 1977 i = A 1977 i := fun i y => by rw [← e1, wr_ne (by omega), wr_ni y]
    have a152 : D1 1977 52 = 0 := by rw [← e1, wr_ne (by omega), wr_self]
    have a12 : D1 2002 (7 * (24 + k) + j) = (v - 1000 * u) / 1000 := by rw [← e1, wr_self]
    have fin : ∀ (fe : Int) (D2 D3 D4 D5 D6 : tD), (fe = if 1000 * u < v then 1 else 0) → wr D1 1977 71 fe = D2 → wr D2 1977 69 (D2 1977 54) = D3 → wr D3 1977 55 (D3 1977 58) = D4 → wr D4 1977 54 (D4 1977 68) = D5 → wr D5 1977 53 (w32 (D5 1977 53 + 1)) = D6 → (if D6 1977 67 = 0 then K (wr D6 1977 51 1) 1 else K (wr D6 1977 51 2) 1) := fun fe D2 D3 D4 D5 D6 hfe g2 g3 g4 g5 g6 => by
      have n2 : ∀ x i, x ≠ 1977 → D6 x i = D1 x i := fun x i y => by rw [← g6, ← g5, ← g4, ← g3, ← g2, wr_ne y, wr_ne y, wr_ne y, wr_ne y, wr_ne y]
      have s7 : ∀ i, i ≠ 71 → i ≠ 69 → i ≠ 55 → i ≠ 54 → i ≠ 53 → D6 1977 i = D1 1977 i := fun i y1 y2 y3 y4 y5 => by rw [← g6, wr_ni y5, ← g5, wr_ni y4, ← g4, wr_ni y3, ← g3, wr_ni y2, ← g2, wr_ni y1]
      have t54 : D2 1977 54 = A 1977 54 := by rw [← g2, wr_ni (by omega), a17 _ (by omega)]
      have t58 : D3 1977 58 = v := by rw [← g3, wr_ni (by omega), ← g2, wr_ni (by omega), a17 _ (by omega)]; exact h58
      have t68 : D4 1977 68 = A 1977 68 := by rw [← g4, wr_ni (by omega), ← g3, wr_ni (by omega), ← g2, wr_ni (by omega), a17 _ (by omega)]
      have t53 : D5 1977 53 = j := by rw [← g5, wr_ni (by omega), ← g4, wr_ni (by omega), ← g3, wr_ni (by omega), ← g2, wr_ni (by omega), a17 _ (by omega)]; exact h53.1
      rw [t53, w32_id (x := j + 1) (by omega) (by omega)] at g6
      have v53 : D6 1977 53 = j + 1 := by rw [← g6, wr_self]
      have v54 : D6 1977 54 = A 1977 68 := by rw [← g6, wr_ni (by omega), ← g5, wr_self]; exact t68
      have v55 : D6 1977 55 = v := by rw [← g6, wr_ni (by omega), ← g5, wr_ni (by omega), ← g4, wr_self]; exact t58
      have v69 : D6 1977 69 = A 1977 54 := by rw [← g6, wr_ni (by omega), ← g5, wr_ni (by omega), ← g4, wr_ni (by omega), ← g3, wr_self]; exact t54
      have v71 : D6 1977 71 = fe := by rw [← g6, wr_ni (by omega), ← g5, wr_ni (by omega), ← g4, wr_ni (by omega), ← g3, wr_ni (by omega), ← g2, wr_self]
      have v67 : D6 1977 67 = A 1977 67 := by rw [s7 _ (by omega) (by omega) (by omega) (by omega) (by omega), a17 _ (by omega)]
      have out : ∀ du, (du = if A 1977 67 = 0 then 1 else 2) → K (wr D6 1977 51 du) 1 := fun du hdu => by
        refine hT (iff.mpr ⟨by omega, z2⟩) ⟨fun _ => by omega, fun y => by omega⟩ _ ⟨?_, fun x i z1 z2 z3 z4 z5 => ?_, fun x i z1 z2 => ?_, fun i z1 => ?_, fun i z1 => ?_, ?_, ?_, ?_, ?_, ?_, ?_, ?_, fun _ => ⟨?_, ?_⟩, fun _ => ?_, fun y => by omega, fun y => by omega, fun y => by omega, fun y => by omega⟩
        · rw [wr_ni (by omega), s7 _ (by omega) (by omega) (by omega) (by omega) (by omega), a152, if_neg (by omega)]
        · rw [wr_ne z1, n2 _ _ z1]; exact a1 _ _ z1 (by omega)
        · rw [wr_ne (by omega), n2 _ _ (by omega)]; exact a1 _ _ (by omega) (by omega)
        · rw [wr_ne (by omega), n2 _ _ (by omega)]; exact a1 _ _ (by omega) (by omega)
        · rw [wr_ni (by omega), s7 _ (by omega) (by omega) (by omega) (by omega) (by omega)]; exact a17 _ (by omega)
        · rw [wr_ne (by omega), n2 _ _ (by omega), if_neg (by omega)]; exact a1 _ _ (by omega) (by omega)
        · rw [wr_ne (by omega), n2 _ _ (by omega), if_neg (by omega)]; exact a1 _ _ (by omega) (by omega)
        · rw [wr_ne (by omega), n2 _ _ (by omega), if_neg (by omega)]; exact a1 _ _ (by omega) (by omega)
        · rw [wr_ne (by omega), n2 _ _ (by omega), if_pos w3, a12]; omega
        · rw [wr_ni (by omega), v53, if_pos (Or.inl w3)]
        · rw [wr_ni (by omega), v55, if_pos w3]
        · rw [wr_ni (by omega), v54, if_pos w3]
        · rw [wr_ni (by omega)]; exact v69
        · rw [wr_ni (by omega), v71]; exact hfe
        · rw [wr_self]; exact hdu
      rw [v67]
      by_cases y : A 1977 67 = 0
      · rw [if_pos y]; exact out 1 (by rw [if_pos y])
      · rw [if_neg y]; exact out 2 (by rw [if_neg y])
    rw [a17 58 (by omega), a17 55 (by omega), h58, h55.1]
    by_cases z4 : 1000 * u < v
    · rw [if_pos (tlc_p.mpr z4)]
      generalize g2 : wr D1 1977 71 1 = D2
      generalize g3 : wr D2 1977 69 (D2 1977 54) = D3
      generalize g4 : wr D3 1977 55 (D3 1977 58) = D4
      generalize g5 : wr D4 1977 54 (D4 1977 68) = D5
      generalize g6 : wr D5 1977 53 (w32 (D5 1977 53 + 1)) = D6
      intro _
      have := fin 1 D2 D3 D4 D5 D6 (by rw [if_pos z4]) g2 g3 g4 g5 g6
      split
      · rename_i y
        rw [if_pos y] at this
        exact tbl_of (Or.inr rfl) this
      · rename_i y
        rw [if_neg y] at this
        exact tbl_of (Or.inr rfl) this
    · rw [if_neg (fun y => z4 (tlc_p.mp y))]
      generalize g2 : wr D1 1977 71 0 = D2
      generalize g3 : wr D2 1977 69 (D2 1977 54) = D3
      generalize g4 : wr D3 1977 55 (D3 1977 58) = D4
      generalize g5 : wr D4 1977 54 (D4 1977 68) = D5
      generalize g6 : wr D5 1977 53 (w32 (D5 1977 53 + 1)) = D6
      intro _
      have := fin 0 D2 D3 D4 D5 D6 (by rw [if_neg z4]) g2 g3 g4 g5 g6
      split
      · rename_i y
        rw [if_pos y] at this
        exact tbl_of (Or.inr rfl) this
      · rename_i y
        rw [if_neg y] at this
        exact tbl_of (Or.inr rfl) this
  rw [if_neg w3]
  by_cases w4 : w = 4
  · rw [if_pos w4, o7 _ 58 (by omega), h58, o7 _ 55 (by omega), h55.1]
    have iff : valR w kd v ↔ (0 ≤ v ∧ v % 1000 = 0) := ⟨fun z => z.2.1 (Or.inr w4), fun z => ⟨fun y => by omega, fun _ => z, fun y => by omega, fun y => by omega⟩⟩
    have bad : ¬ valR w kd v → WP sc 278 150 (wr A 1977 52 0) [(0, (1211, 1977)), (2, (0, pl))] [] K E := fun y => v278_150 (u_fails (c0 0) (hV y 0))
    by_cases z : v < 0
    · rw [if_pos (tlc_n.mpr z)]
      exact bad (fun y => by have := iff.mp y; omega)
    rw [if_neg (fun y => z (tlc_n.mp y)), tmod_1000 (by omega)]
    by_cases z2 : v % 1000 = 0
    rotate_left
    · rw [if_neg (fun y => z2 (tlc_z.mp y))]
      exact bad (fun y => z2 (iff.mp y).2)
    rw [if_pos (tlc_z.mpr z2)]
    by_cases z3 : v = 1000 * u
    rotate_left
    · rw [if_neg (fun y => z3 (tlc_z.mp y))]
      exact u_fails (c0 0) (hB (iff.mpr ⟨by omega, z2⟩) (fun y => z3 (y.2 w4)) 0)
    rw [if_pos (tlc_z.mpr z3)]
    refine hT (iff.mpr ⟨by omega, z2⟩) ⟨fun y => by omega, fun _ => z3⟩ _ ⟨?_, fun x i z1 z2 z3 z4 z5 => ?_, fun x i z1 z2 => ?_, fun i z1 => ?_, fun i z1 => ?_, ?_, ?_, ?_, ?_, ?_, ?_, ?_, fun y => by omega, fun y => by omega, fun _ => wr_self, fun y => by omega, fun y => by omega, fun y => by omega⟩
    · rw [wr_ni (by omega), wr_self, if_neg (by omega)]
    · rw [wr_ne z1, wr_ne z1]
    · rw [wr_ne (by omega), wr_ne (by omega)]
    · rw [wr_ne (by omega), wr_ne (by omega)]
    · rw [wr_ni (by omega), wr_ni (by omega)]
    · rw [wr_ne (by omega), wr_ne (by omega), if_neg (by omega)]
    · rw [wr_ne (by omega), wr_ne (by omega), if_neg (by omega)]
    · rw [wr_ne (by omega), wr_ne (by omega), if_neg (by omega)]
    · rw [wr_ne (by omega), wr_ne (by omega), if_neg (by omega)]
    · rw [wr_ni (by omega), wr_ni (by omega), if_neg (by omega)]; exact h53.1
    · rw [wr_ni (by omega), wr_ni (by omega), if_neg (by omega)]
    · rw [wr_ni (by omega), wr_ni (by omega), if_neg (by omega)]
  rw [if_neg w4, if_neg w5]
  by_cases w6 : w = 6
  · rw [if_pos w6, o7 _ 58 (by omega), h58]
    have iff : valR w kd v ↔ v = 1000 := ⟨fun z => z.2.2.1 w6, fun z => ⟨fun y => by omega, fun y => by omega, fun _ => z, fun y => by omega⟩⟩
    by_cases z : v = 1000
    rotate_left
    · rw [if_neg (fun y => z (tlc_z.mp y))]
      refine u_finds (c0 0) ?_
      rw [if_pos rfl]
      exact hV (fun y => z (iff.mp y)) 0
    rw [if_pos (tlc_z.mpr z)]
    refine hT (iff.mpr z) ⟨fun y => by omega, fun y => by omega⟩ _ ⟨?_, fun x i z1 z2 z3 z4 z5 => ?_, fun x i z1 z2 => ?_, fun i z1 => ?_, fun i z1 => ?_, ?_, ?_, ?_, ?_, ?_, ?_, ?_, fun y => by omega, fun y => by omega, fun y => by omega, fun y => by omega, fun _ => ?_, fun y => by omega⟩
    · rw [wr_self, if_neg (by omega)]
    · rw [wr_ne z1]
    · rw [wr_ne (by omega)]
    · rw [wr_ne (by omega)]
    · rw [wr_ni (by omega)]
    · rw [wr_ne (by omega), if_neg (by omega)]
    · rw [wr_ne (by omega), if_neg (by omega)]
    · rw [wr_ne (by omega), if_neg (by omega)]
    · rw [wr_ne (by omega), if_neg (by omega)]
    · rw [wr_ni (by omega), if_neg (by omega)]; exact h53.1
    · rw [wr_ni (by omega), if_neg (by omega)]
    · rw [wr_ni (by omega), if_neg (by omega)]
    · rw [wr_ni (by omega)]
  have w0 : w = 0 := by omega
  rw [if_neg w6, o7 _ 48 (by omega), h48, on _ 1980 _ (by omega), hkd]
  refine ⟨⟨by omega, by omega⟩, ?_⟩
  by_cases k1 : kd = 1
  · rw [if_pos k1]
    refine v279_0 ?_
    rw [o7 _ 50 (by omega), o7 _ 58 (by omega), h50, h58]
    refine ⟨⟨by omega, by omega⟩, tbl_of (Or.inr rfl) (hT ⟨fun y => by omega, fun y => by omega, fun y => by omega, fun y => by omega⟩ ⟨fun y => by omega, fun y => by omega⟩ _ ⟨?_, fun x i z1 z2 z3 z4 z5 => ?_, fun x i z1 z2 => ?_, fun i z1 => ?_, fun i z1 => ?_, ?_, ?_, ?_, ?_, ?_, ?_, ?_, fun y => by omega, fun y => by omega, fun y => by omega, fun y => by omega, fun _ => ?_, fun y => by omega⟩)⟩
    · rw [wr_ne (by omega), wr_self, if_neg (by omega)]
    · rw [wr_ne z2, wr_ne z1]
    · by_cases y : x = 1999
      · subst y; rw [wr_ni z2, wr_ne (by omega)]
      · rw [wr_ne y, wr_ne (by omega)]
    · rw [wr_ne (by omega), wr_ne (by omega)]
    · rw [wr_ne (by omega), wr_ni (by omega)]
    · rw [wr_self, if_pos (by omega)]
    · rw [wr_ne (by omega), wr_ne (by omega), if_neg (by omega)]
    · rw [wr_ne (by omega), wr_ne (by omega), if_neg (by omega)]
    · rw [wr_ne (by omega), wr_ne (by omega), if_neg (by omega)]
    · rw [wr_ne (by omega), wr_ni (by omega), if_neg (by omega)]; exact h53.1
    · rw [wr_ne (by omega), wr_ni (by omega), if_neg (by omega)]
    · rw [wr_ne (by omega), wr_ni (by omega), if_neg (by omega)]
    · rw [wr_ne (by omega), wr_ni (by omega)]
  have k4 : kd = 4 := by omega
  rw [if_neg k1]
  have iff : valR w kd v ↔ (v = 1000 ∨ v = 0) := ⟨fun z => z.2.2.2 ⟨w0, k4⟩, fun z => ⟨fun y => by omega, fun y => by omega, fun y => by omega, fun _ => z⟩⟩
  have j7 := hj (Or.inr k4)
  refine v281_0 ?_
  rw [o7 _ 58 (by omega), h58, o7 _ 50 (by omega), o7 _ 53 (by omega), h50, h53.1, on _ 2001 _ (by omega)]
  /- behind the state's bit -/
  have go : ∀ (A1 : tD) (x : Int), (v = 1000 ∨ v = 0) → (∀ y i, y ≠ 1977 → ¬ (y = 2001 ∧ i = 24 + k) → A1 y i = A y i) → (∀ i, i ≠ 52 → A1 1977 i = A 1977 i) → A1 1977 52 = 0 → (A1 2001 (24 + k) = if w = 0 ∧ kd = 4 ∧ v = 1000 then tio (A 2001 (24 + k)) (tsl 1 j) else A 2001 (24 + k)) → WP sc 270 0 (wr A1 1977 53 (w32 (j + 1))) [(0, (1211, 1977)), (1, (0, 24 + k))] [] (fun D1 r2 => if r2 = 0 then ((0 ≤ D1 1977 48 ∧ D1 1977 48 < 16) ∧ (if D1 1977 53 = D1 1991 (D1 1977 48) then (tbl 1 (K (wr D1 1977 51 0) 1)) else (tbl 1 (K (wr D1 1977 51 4) 1)))) else (tbl 1 (K (wr D1 1977 51 0) 1))) E := fun A1 x hvv o1 o17 o52 o01 => by
    rw [w32_id (x := j + 1) (by omega) (by omega)]
    generalize e2 : wr A1 1977 53 (j + 1) = A2
    have p1 : ∀ y i, y ≠ 1977 → A2 y i = A1 y i := fun y i z => by rw [← e2, wr_ne z]
    have p17 : ∀ i, i ≠ 53 → A2 1977 i = A1 1977 i := fun i z => by rw [← e2, wr_ni z]
    have p53 : A2 1977 53 = j + 1 := by rw [← e2, wr_self]
    have fe : fiM A2 k ↔ fiM A k := by
      unfold fiM
      have e4 : ∀ i, A2 1994 i = A 1994 i := fun i => by rw [p1 _ _ (by omega), o1 _ _ (by omega) (by omega)]
      have e5 : ∀ i, A2 1995 i = A 1995 i := fun i => by rw [p1 _ _ (by omega), o1 _ _ (by omega) (by omega)]
      have e8 : A2 1977 48 = A 1977 48 := by rw [p17 _ (by omega), o17 _ (by omega)]
      simp only [e4, e5, e8]
    have out : ∀ du, ((fiM A k ∨ j + 1 = A 1991 (8 + f)) → du = 0) → (¬ (fiM A k ∨ j + 1 = A 1991 (8 + f)) → du = 4) → tbl 1 (K (wr A2 1977 51 du) 1) := fun du d0 d4 => by
      refine tbl_of (Or.inr rfl) (hT (iff.mpr hvv) ⟨fun y => by omega, fun y => by omega⟩ _ ⟨?_, fun x i z1 z2 z3 z4 z5 => ?_, fun x i z1 z2 => ?_, fun i z1 => ?_, fun i z1 => ?_, ?_, ?_, ?_, ?_, ?_, ?_, ?_, fun y => by omega, fun y => by omega, fun y => by omega, fun y => by omega, fun y => by omega, fun _ => ⟨fun y => ?_, fun y => ?_⟩⟩)
      · rw [wr_ni (by omega), p17 _ (by omega), o52, if_neg (by omega)]
      · rw [wr_ne z1, p1 _ _ z1]; exact o1 _ _ z1 (by omega)
      · rw [wr_ne (by omega), p1 _ _ (by omega)]; exact o1 _ _ (by omega) (by omega)
      · rw [wr_ne (by omega), p1 _ _ (by omega)]; exact o1 _ _ (by omega) (by omega)
      · rw [wr_ni (by omega), p17 _ (by omega)]; exact o17 _ (by omega)
      · rw [wr_ne (by omega), p1 _ _ (by omega), if_neg (by omega)]; exact o1 _ _ (by omega) (by omega)
      · rw [wr_ne (by omega), p1 _ _ (by omega), if_neg (by omega)]; exact o1 _ _ (by omega) (by omega)
      · rw [wr_ne (by omega), p1 _ _ (by omega)]; exact o01
      · rw [wr_ne (by omega), p1 _ _ (by omega), if_neg (by omega)]; exact o1 _ _ (by omega) (by omega)
      · rw [wr_ni (by omega), p53, if_pos (Or.inr k4)]
      · rw [wr_ni (by omega), p17 _ (by omega), if_neg (by omega)]; exact o17 _ (by omega)
      · rw [wr_ni (by omega), p17 _ (by omega), if_neg (by omega)]; exact o17 _ (by omega)
      · rw [wr_self]; exact d0 y
      · rw [wr_self]; exact d4 y
    refine u_first hk (fun y => ?_) (fun y => ?_)
    · rw [if_neg (by omega)]
      exact out 0 (fun _ => rfl) (fun z => absurd (Or.inl (fe.mp y)) z)
    · have e8 : A2 1977 48 = 8 + f := by rw [p17 _ (by omega), o17 _ (by omega)]; exact h48
      rw [if_pos rfl, e8, p53, p1 1991 _ (by omega), o1 1991 _ (by omega) (by omega)]
      refine ⟨⟨by omega, by omega⟩, ?_⟩
      by_cases z : j + 1 = A 1991 (8 + f)
      · rw [if_pos z]
        exact out 0 (fun _ => rfl) (fun y => absurd (Or.inr z) y)
      · rw [if_neg z]
        exact out 4 (fun q => by rcases q with q | q; exact absurd (fe.mpr q) y; exact absurd q z) (fun _ => rfl)
  have set1 : v = 1000 → ((0 ≤ 24 + k ∧ 24 + k < 48) ∧ ((0 ≤ 24 + k ∧ 24 + k < 48) ∧ (WP sc 270 0 (wr (wr (wr A 1977 52 0) 2001 (24 + k) (tio (A 2001 (24 + k)) (tsl 1 j))) 1977 53 (w32 (((wr (wr A 1977 52 0) 2001 (24 + k) (tio (A 2001 (24 + k)) (tsl 1 j))) 1977 53) + 1))) [(0, (1211, 1977)), (1, (0, (wr (wr (wr A 1977 52 0) 2001 (24 + k) (tio (A 2001 (24 + k)) (tsl 1 j))) 1977 53 (w32 (((wr (wr A 1977 52 0) 2001 (24 + k) (tio (A 2001 (24 + k)) (tsl 1 j))) 1977 53) + 1))) 1977 50))] [] (fun D1 r2 => if r2 = 0 then ((0 ≤ D1 1977 48 ∧ D1 1977 48 < 16) ∧ (if D1 1977 53 = D1 1991 (D1 1977 48) then (tbl 1 (K (wr D1 1977 51 0) 1)) else (tbl 1 (K (wr D1 1977 51 4) 1)))) else (tbl 1 (K (wr D1 1977 51 0) 1))) E))) := fun hv1 => by
    refine ⟨by omega, by omega, ?_⟩
    have e53 : (wr (wr A 1977 52 0) 2001 (24 + k) (tio (A 2001 (24 + k)) (tsl 1 j))) 1977 53 = j := by rw [wr_ne (by omega), wr_ni (by omega)]; exact h53.1
    rw [e53, wr_ni (show (50 : Int) ≠ 53 by omega), wr_ne (show (1977 : Int) ≠ 2001 by omega), wr_ni (show (50 : Int) ≠ 52 by omega), h50]
    refine go _ 0 (Or.inl hv1) (fun y i z1 z2 => ?_) (fun i z => ?_) ?_ ?_
    · by_cases y1 : y = 2001
      · subst y1; rw [wr_ni (by omega), wr_ne (by omega)]
      · rw [wr_ne y1, wr_ne z1]
    · rw [wr_ne (by omega), wr_ni z]
    · rw [wr_ne (by omega), wr_self]
    · rw [wr_self, if_pos ⟨w0, k4, hv1⟩]
  have set0 : v = 0 → WP sc 270 0 (wr (wr A 1977 52 0) 1977 53 (w32 (j + 1))) [(0, (1211, 1977)), (1, (0, (wr (wr A 1977 52 0) 1977 53 (w32 (j + 1))) 1977 50))] [] (fun D1 r2 => if r2 = 0 then ((0 ≤ D1 1977 48 ∧ D1 1977 48 < 16) ∧ (if D1 1977 53 = D1 1991 (D1 1977 48) then (tbl 1 (K (wr D1 1977 51 0) 1)) else (tbl 1 (K (wr D1 1977 51 4) 1)))) else (tbl 1 (K (wr D1 1977 51 0) 1))) E := fun hv1 => by
    rw [wr_ni (show (50 : Int) ≠ 53 by omega), wr_ni (show (50 : Int) ≠ 52 by omega), h50]
    refine go _ 0 (Or.inr hv1) (fun y i z1 z2 => wr_ne z1) (fun i z => wr_ni z) wr_self ?_
    rw [wr_ne (by omega), if_neg (by omega)]
  by_cases z0 : v = 0
  · rw [if_pos (tlc_z.mpr z0), if_neg (fun y => by have := tlc_z.mp y; omega)]
    exact set0 z0
  · rw [if_neg (fun y => z0 (tlc_z.mp y))]
    by_cases z1 : v = 1000
    · rw [if_pos (tlc_z.mpr z1), if_pos (tlc_z.mpr z1)]
      exact set1 z1
    · rw [if_neg (fun y => z1 (tlc_z.mp y))]
      exact u_fails (c0 0) (tbl_of (Or.inl rfl) (hV (fun y => by have := iff.mp y; omega) 0))
end VLM
