/-! reading a sample: the end of its line, both sides -/
section END
variable {sc : Nat × (Nat → Int32)} {D D' D1 A A' A1 A0 D0 : tD} {K : tD → Int → Prop} {E : tD → Nat → Prop} {T : Int → Int} {n c : Int}
/-- what the class has at the end of a sample's line -/
def edP (p w kd f : Int) (D D' : tD) : Prop := (D' 1956 12 = if w = 1 ∨ w = 5 then 1 else 0) ∧ (w = 3 → D' 1956 10 = if D 1956 15 = D (aF 1 f) 6 then 4 else 3) ∧ (w = 4 → D' 1956 10 = 5) ∧ (w = 5 → D' 1956 10 = 3) ∧ (w ≠ 3 → w ≠ 4 → w ≠ 5 → D' 1956 10 = D 1956 10) ∧ (D' 1956 15 = D 1956 15 + dlt w kd) ∧ (D' 1956 14 = if D 1956 13 = 1 ∧ kd = 4 then 1 else 0) ∧ (w = 3 ∨ w = 4 → D' 1956 11 = 0) ∧ (w ≠ 3 → w ≠ 4 → kd ≠ 4 → D' 1956 11 = 1) ∧ (w ≠ 3 → w ≠ 4 → kd = 4 → D' 1956 11 = if D 1956 13 = 1 ∨ D 1956 15 + 1 = D (aF 1 f) 7 then 1 else 0) ∧ D' 1957 1 = p + 1 ∧ ∀ x i, ¬ (x = 1957 ∧ i = 1) → ¬ (x = 1956 ∧ (i = 10 ∨ i = 11 ∨ i = 12 ∨ i = 14 ∨ i = 15)) → D' x i = D x i
theorem t_end {p w kd f : Int} (hc : cu D 1957 1 T n p) (h9 : D 1956 9 = w) (h5 : D 1956 5 = aF 1 f) (hf : 0 ≤ f ∧ f < 8) (hkd : D (aF 1 f) 5 = kd) (h13 : D 1956 13 = 0 ∨ D 1956 13 = 1) (h15 : 0 ≤ D 1956 15 ∧ D 1956 15 ≤ 7) (h34 : w = 3 → kd = 2) (h44 : kd = 4 → w = 0) (hT : pb T n p = 10 → ∀ D', edP p w kd f D D' → K D' 1) (hN : pb T n p ≠ 10 → K (fc D 1 p) 0) : WP sc 149 0 D [(0, (1209, 1956))] [] K E := by
  have aFb := aF1 f
  have n5 : ¬ aF 1 f = -1 := by omega
  refine v149_0 (t_expect hc (fun e => ?_) (fun e => ?_))
  rotate_left
  · rw [if_pos rfl]; exact hN e
  rw [if_neg (show ¬ (1 : Int) = 0 by decide)]
  have g := hT e
  generalize hD1 : wr D 1957 1 (p + 1) = D1
  have o1 : ∀ x i, ¬ (x = 1957 ∧ i = 1) → D1 x i = D x i := fun x i u => by
    rw [← hD1]
    by_cases y : x = 1957
    · subst y; exact wr_ni (by omega)
    · exact wr_ne y
  have s1 : D1 1957 1 = p + 1 := by rw [← hD1, wr_self]
  rw [o1 1956 9 (by omega), h9]
  /- the last two -/
  have fin : ∀ D2 : tD, (D2 1956 12 = if w = 1 ∨ w = 5 then 1 else 0) → (w = 3 → D2 1956 10 = if D 1956 15 = D (aF 1 f) 6 then 4 else 3) → (w = 4 → D2 1956 10 = 5) → (w = 5 → D2 1956 10 = 3) → (w ≠ 3 → w ≠ 4 → w ≠ 5 → D2 1956 10 = D 1956 10) → (D2 1956 15 = D 1956 15 + dlt w kd) → (∀ x i, ¬ (x = 1956 ∧ (i = 10 ∨ i = 12 ∨ i = 15)) → D2 x i = D1 x i) → WP sc 149 136 D2 [(0, (1209, 1956))] [] K E := fun D2 q12 q103 q104 q105 q10 q15 q => by
    have r : ∀ x i, ¬ (x = 1957 ∧ i = 1) → ¬ (x = 1956 ∧ (i = 10 ∨ i = 12 ∨ i = 15)) → D2 x i = D x i := fun x i u v => by rw [q x i v, o1 x i u]
    have out : ∀ y14 y11, (y14 = if D 1956 13 = 1 ∧ kd = 4 then 1 else 0) → (w = 3 ∨ w = 4 → y11 = 0) → (w ≠ 3 → w ≠ 4 → kd ≠ 4 → y11 = 1) → (w ≠ 3 → w ≠ 4 → kd = 4 → y11 = if D 1956 13 = 1 ∨ D 1956 15 + 1 = D (aF 1 f) 7 then 1 else 0) → K (wr (wr D2 1956 14 y14) 1956 11 y11) 1 := fun y14 y11 a1 a2 a3 a4 => by
      refine g _ ⟨by rw [wr_ni (by omega), wr_ni (by omega)]; exact q12, fun u => by rw [wr_ni (by omega), wr_ni (by omega)]; exact q103 u, fun u => by rw [wr_ni (by omega), wr_ni (by omega)]; exact q104 u, fun u => by rw [wr_ni (by omega), wr_ni (by omega)]; exact q105 u, fun u1 u2 u3 => by rw [wr_ni (by omega), wr_ni (by omega)]; exact q10 u1 u2 u3, by rw [wr_ni (by omega), wr_ni (by omega)]; exact q15, by rw [wr_ni (by omega), wr_self]; exact a1, fun u => by rw [wr_self]; exact a2 u, fun u1 u2 u3 => by rw [wr_self]; exact a3 u1 u2 u3, fun u1 u2 u3 => by rw [wr_self]; exact a4 u1 u2 u3, by rw [wr_ne (by omega), wr_ne (by omega), q _ _ (by omega)]; exact s1, fun x i u v => ?_⟩
      by_cases y : x = 1956
      · subst y; rw [wr_ni (by omega), wr_ni (by omega)]; exact r _ _ u (by omega)
      · rw [wr_ne y, wr_ne y]; exact r _ _ u (by omega)
    have e13 : D2 1956 13 = D 1956 13 := r _ _ (by omega) (by omega)
    have e5 : D2 1956 5 = aF 1 f := by rw [r _ _ (by omega) (by omega)]; exact h5
    have e9 : D2 1956 9 = w := by rw [r _ _ (by omega) (by omega)]; exact h9
    have ek : D2 (aF 1 f) 5 = kd := by rw [r _ _ (by omega) (by omega)]; exact hkd
    have e7 : D2 (aF 1 f) 7 = D (aF 1 f) 7 := r _ _ (by omega) (by omega)
    have tl : ∀ y14, (y14 = if D 1956 13 = 1 ∧ kd = 4 then 1 else 0) → (if (wr D2 1956 14 y14) 1956 9 = 3 then (K (wr (wr D2 1956 14 y14) 1956 11 0) 1) else (if (wr D2 1956 14 y14) 1956 9 = 4 then (K (wr (wr D2 1956 14 y14) 1956 11 0) 1) else (if (wr D2 1956 14 y14) 1956 5 = -1 then False else (if (wr D2 1956 14 y14) ((wr D2 1956 14 y14) 1956 5) 5 = 4 then (0 ≤ (wr D2 1956 14 y14) 1956 14 ∧ (wr D2 1956 14 y14) 1956 14 ≤ 1 → (if (wr D2 1956 14 y14) 1956 14 = 0 then (if (wr D2 1956 14 y14) 1956 5 = -1 then False else (if (wr D2 1956 14 y14) 1956 15 = (wr D2 1956 14 y14) ((wr D2 1956 14 y14) 1956 5) 7 then (K (wr (wr D2 1956 14 y14) 1956 11 1) 1) else (K (wr (wr D2 1956 14 y14) 1956 11 0) 1))) else (K (wr (wr D2 1956 14 y14) 1956 11 1) 1))) else (K (wr (wr D2 1956 14 y14) 1956 11 1) 1))))) := fun y14 hy => by
      have t9 : (wr D2 1956 14 y14) 1956 9 = w := by rw [wr_ni (by omega)]; exact e9
      have t5 : (wr D2 1956 14 y14) 1956 5 = aF 1 f := by rw [wr_ni (by omega)]; exact e5
      have tF : ∀ i, (wr D2 1956 14 y14) (aF 1 f) i = D2 (aF 1 f) i := fun i => wr_ne (by omega)
      have t15 : (wr D2 1956 14 y14) 1956 15 = D 1956 15 + dlt w kd := by rw [wr_ni (by omega)]; exact q15
      have t14 : (wr D2 1956 14 y14) 1956 14 = y14 := wr_self
      rw [t9, t5, tF, tF, ek, e7, t15, t14]
      by_cases w3 : w = 3
      · rw [if_pos w3]
        exact out _ 0 hy (fun _ => rfl) (fun u => absurd w3 u) (fun u => absurd w3 u)
      rw [if_neg w3]
      by_cases w4 : w = 4
      · rw [if_pos w4]
        exact out _ 0 hy (fun _ => rfl) (fun _ u => absurd w4 u) (fun _ u => absurd w4 u)
      rw [if_neg w4, if_neg n5]
      by_cases k4 : kd = 4
      · rw [if_pos k4]
        have dl : dlt w kd = 1 := by unfold dlt; rw [if_pos (Or.inr k4)]
        intro _
        by_cases z14 : y14 = 0
        · have n13 : ¬ D 1956 13 = 1 := fun y => by rw [if_pos ⟨y, k4⟩] at hy; omega
          rw [if_pos z14, if_neg n5, dl]
          by_cases z : D 1956 15 + 1 = D (aF 1 f) 7
          · rw [if_pos z]
            exact out _ 1 hy (fun u => by omega) (fun _ _ u => absurd k4 u) (fun _ _ _ => by rw [if_pos (Or.inr z)])
          · rw [if_neg z]
            exact out _ 0 hy (fun u => by omega) (fun _ _ u => absurd k4 u) (fun _ _ _ => by rw [if_neg (fun u => by rcases u with u | u; exact n13 u; exact z u)])
        · have y13 : D 1956 13 = 1 := by
            by_cases y : D 1956 13 = 1
            · exact y
            · rw [if_neg (fun u => y u.1)] at hy; omega
          rw [if_neg z14]
          exact out _ 1 hy (fun u => by omega) (fun _ _ u => absurd k4 u) (fun _ _ _ => by rw [if_pos (Or.inl y13)])
      · rw [if_neg k4]
        exact out _ 1 hy (fun u => by omega) (fun _ _ _ => rfl) (fun _ _ u => absurd u k4)
    refine v149_136 (fun _ => ?_)
    rw [e13, e5, ek]
    by_cases z : D 1956 13 = 0
    · rw [if_pos z]
      exact tl 0 (by rw [if_neg (by omega)])
    · rw [if_neg z, if_neg n5]
      have y13 : D 1956 13 = 1 := by omega
      by_cases k4 : kd = 4
      · rw [if_pos k4]
        exact tl 1 (by rw [if_pos ⟨y13, k4⟩])
      · rw [if_neg k4]
        exact tl 0 (by rw [if_neg (fun u => k4 u.2)])
  have mid : ∀ (D3 : tD) (x : Int), D3 = wr D1 1956 12 x → (x = if w = 1 ∨ w = 5 then 1 else 0) → (if D3 1956 9 = 3 then (if D3 1956 5 = -1 then False else (if D3 1956 15 = D3 (D3 1956 5) 6 then (WP sc 149 136 (wr (wr D3 1956 10 4) 1956 15 (w32 (((wr D3 1956 10 4) 1956 15) + 1))) [(0, (1209, 1956))] [] K E) else (WP sc 149 136 (wr (wr D3 1956 10 3) 1956 15 (w32 (((wr D3 1956 10 3) 1956 15) + 1))) [(0, (1209, 1956))] [] K E))) else (if D3 1956 9 = 4 then (WP sc 149 136 (wr D3 1956 10 5) [(0, (1209, 1956))] [] K E) else (if D3 1956 9 = 5 then (WP sc 149 136 (wr D3 1956 10 3) [(0, (1209, 1956))] [] K E) else (if D3 1956 5 = -1 then False else (if D3 (D3 1956 5) 5 = 4 then (WP sc 149 136 (wr D3 1956 15 (w32 ((D3 1956 15) + 1))) [(0, (1209, 1956))] [] K E) else (WP sc 149 136 D3 [(0, (1209, 1956))] [] K E)))))) := fun D3 x e3 hx => by
    have p3 : ∀ x i, ¬ (x = 1956 ∧ i = 12) → D3 x i = D1 x i := fun x i u => by
      rw [e3]
      by_cases y : x = 1956
      · subst y; exact wr_ni (by omega)
      · exact wr_ne y
    have p12 : D3 1956 12 = x := by rw [e3, wr_self]
    have t9 : D3 1956 9 = w := by rw [p3 _ _ (by omega), o1 _ _ (by omega)]; exact h9
    have t5 : D3 1956 5 = aF 1 f := by rw [p3 _ _ (by omega), o1 _ _ (by omega)]; exact h5
    have t15 : D3 1956 15 = D 1956 15 := by rw [p3 _ _ (by omega), o1 _ _ (by omega)]
    have t6 : D3 (aF 1 f) 6 = D (aF 1 f) 6 := by rw [p3 _ _ (by omega), o1 _ _ (by omega)]
    have tk : D3 (aF 1 f) 5 = kd := by rw [p3 _ _ (by omega), o1 _ _ (by omega)]; exact hkd
    have t10 : D3 1956 10 = D 1956 10 := by rw [p3 _ _ (by omega), o1 _ _ (by omega)]
    rw [t9, t5, t15, t6, tk]
    by_cases w3 : w = 3
    · have dl : dlt w kd = 1 := by unfold dlt; rw [if_pos (Or.inl w3)]
      have f3 : ∀ y10, (y10 = if D 1956 15 = D (aF 1 f) 6 then 4 else 3) → WP sc 149 136 (wr (wr D3 1956 10 y10) 1956 15 (w32 (((wr D3 1956 10 y10) 1956 15) + 1))) [(0, (1209, 1956))] [] K E := fun y10 hy => by
        have e15 : (wr D3 1956 10 y10) 1956 15 = D 1956 15 := by rw [wr_ni (by omega)]; exact t15
        rw [e15, w32_id (x := D 1956 15 + 1) (by omega) (by omega)]
        refine fin _ (by rw [wr_ni (by omega), wr_ni (by omega), p12]; exact hx) (fun _ => by rw [wr_ni (by omega), wr_self]; exact hy) (fun u => by omega) (fun u => by omega) (fun u => absurd w3 u) (by rw [wr_self, dl]) (fun x i u => ?_)
        by_cases y : x = 1956
        · subst y; rw [wr_ni (by omega), wr_ni (by omega)]; exact p3 _ _ (by omega)
        · rw [wr_ne y, wr_ne y]; exact p3 _ _ (by omega)
      rw [if_pos w3, if_neg n5]
      by_cases z : D 1956 15 = D (aF 1 f) 6
      · rw [if_pos z]; exact f3 4 (by rw [if_pos z])
      · rw [if_neg z]; exact f3 3 (by rw [if_neg z])
    rw [if_neg w3]
    by_cases w4 : w = 4
    · rw [if_pos w4]
      have dl : dlt w kd = 0 := by unfold dlt; rw [if_neg (fun u => by rcases u with u | u; exact w3 u; have := h44 u; omega)]
      refine fin _ (by rw [wr_ni (by omega), p12]; exact hx) (fun u => absurd u w3) (fun _ => wr_self) (fun u => by omega) (fun _ u => absurd w4 u) (by rw [wr_ni (by omega), t15, dl]; omega) (fun x i u => ?_)
      by_cases y : x = 1956
      · subst y; rw [wr_ni (by omega)]; exact p3 _ _ (by omega)
      · rw [wr_ne y]; exact p3 _ _ (by omega)
    rw [if_neg w4]
    by_cases w5 : w = 5
    · rw [if_pos w5]
      have dl : dlt w kd = 0 := by unfold dlt; rw [if_neg (fun u => by rcases u with u | u; exact w3 u; have := h44 u; omega)]
      refine fin _ (by rw [wr_ni (by omega), p12]; exact hx) (fun u => absurd u w3) (fun u => absurd u w4) (fun _ => wr_self) (fun _ _ u => absurd w5 u) (by rw [wr_ni (by omega), t15, dl]; omega) (fun x i u => ?_)
      by_cases y : x = 1956
      · subst y; rw [wr_ni (by omega)]; exact p3 _ _ (by omega)
      · rw [wr_ne y]; exact p3 _ _ (by omega)
    rw [if_neg w5, if_neg n5]
    by_cases k4 : kd = 4
    · rw [if_pos k4, w32_id (x := D 1956 15 + 1) (by omega) (by omega)]
      have dl : dlt w kd = 1 := by unfold dlt; rw [if_pos (Or.inr k4)]
      refine fin _ (by rw [wr_ni (by omega), p12]; exact hx) (fun u => absurd u w3) (fun u => absurd u w4) (fun u => absurd u w5) (fun _ _ _ => by rw [wr_ni (by omega)]; exact t10) (by rw [wr_self, dl]) (fun x i u => ?_)
      by_cases y : x = 1956
      · subst y; rw [wr_ni (by omega)]; exact p3 _ _ (by omega)
      · rw [wr_ne y]; exact p3 _ _ (by omega)
    · rw [if_neg k4]
      have dl : dlt w kd = 0 := by unfold dlt; rw [if_neg (fun u => by rcases u with u | u; exact w3 u; exact k4 u)]
      exact fin _ (by rw [p12]; exact hx) (fun u => absurd u w3) (fun u => absurd u w4) (fun u => absurd u w5) (fun _ _ _ => t10) (by rw [t15, dl]; omega) (fun x i u => p3 _ _ (by omega))
  by_cases w1 : w = 1
  · rw [if_pos w1]
    exact mid _ 1 rfl (by rw [if_pos (Or.inl w1)])
  rw [if_neg w1]
  by_cases w5 : w = 5
  · rw [if_pos w5]
    exact mid _ 1 rfl (by rw [if_pos (Or.inr w5)])
  · rw [if_neg w5]
    exact mid _ 0 rfl (by rw [if_neg (fun u => by rcases u with u | u; exact w1 u; exact w5 u)])
/-- a sample's line has ended on both sides -/
theorem RC_end {p B f k w kd : Int} (h : PV c T n p B f k w D A) (hkd : D (aF 1 f) 5 = kd) (h10 : w = 3 ∨ w = 4 ∨ w = 5 ∨ D 1956 10 = wnt kd 0) (hp : p + 1 ≤ n) (he : edP p w kd f D D') : RC c T n (p + 1) B D' (wr (wr A 1977 49 4) 1977 47 (p + 1)) := by
  obtain ⟨hQ, ⟨hM, hN⟩, k52, hK⟩ := h
  have aCb := aC1 k
  have aFb := aF1 f
  have f1 := hM.2.1.1
  have kk := hM.2.2.1.1
  obtain ⟨d12, d103, d104, d105, d10, d15, d14, d11a, d11b, d11c, d571, o⟩ := he
  have b0 := hQ.1.1.2.2.1
  rw [hkd] at hN hK
  obtain ⟨⟨n53, n15, n7⟩, ⟨n55, n16, n16'⟩, n9⟩ := hN
  have p7 : ∀ i, i ≠ 49 → i ≠ 47 → (wr (wr A 1977 49 4) 1977 47 (p + 1)) 1977 i = A 1977 i := fun i u v => by rw [wr_ni v, wr_ni u]
  have pn : ∀ x i, x ≠ 1977 → (wr (wr A 1977 49 4) 1977 47 (p + 1)) x i = A x i := fun x i u => by rw [wr_ne u, wr_ne u]
  have p49 : (wr (wr A 1977 49 4) 1977 47 (p + 1)) 1977 49 = 4 := by rw [wr_ni (by omega), wr_self]
  generalize hA2 : wr (wr A 1977 49 4) 1977 47 (p + 1) = A2 at *
  have p47 : A2 1977 47 = p + 1 := by rw [← hA2, wr_self]
  have oR : ∀ i, i ≠ 10 → i ≠ 11 → i ≠ 12 → i ≠ 14 → i ≠ 15 → D' 1956 i = D 1956 i := fun i u1 u2 u3 u4 u5 => o _ _ (by omega) (by omega)
  have oF : ∀ i, D' (aF 1 f) i = D (aF 1 f) i := fun i => o _ _ (by omega) (by omega)
  have oF7 : ∀ i, D' (aF 1 f + 7) i = D (aF 1 f + 7) i := fun i => o _ _ (by omega) (by omega)
  have oC : ∀ q d i, 0 ≤ q → q < 24 → 0 ≤ d → d ≤ 33 → D' (aC 1 q + d) i = D (aC 1 q + d) i := fun q d i u1 u2 u3 u4 => by have := aC1 q; exact o _ _ (by omega) (by omega)
  have oC0 : ∀ q i, 0 ≤ q → q < 24 → D' (aC 1 q) i = D (aC 1 q) i := fun q i u1 u2 => by have := aC1 q; exact o _ _ (by omega) (by omega)
  have MS' : MS c B f k D' A2 := MS_fr hM (fun x j u v => o _ _ (by omega) (by omega)) (fun j u => oR j (by omega) (by omega) (by omega) (by omega) (by omega)) (fun x j u v => pn _ _ (by omega)) (fun j u => p7 j (by omega) (by omega))
  have d13 : D' 1956 13 = D 1956 13 := oR _ (by omega) (by omega) (by omega) (by omega) (by omega)
  have e51 : A2 1977 51 = A 1977 51 := p7 _ (by omega) (by omega)
  have e11 : (D' 1956 11 = 0 ∨ D' 1956 11 = 1) ∧ (A 1977 51 = 0 ↔ D' 1956 11 ≠ 0) := by
    rcases hK with h | h | h | h
    · have w34 : w ≠ 3 ∧ w ≠ 4 ∧ kd ≠ 4 := by rcases h.1 with g | g | g <;> omega
      have := d11b w34.1 w34.2.1 w34.2.2
      omega
    · rcases h.2.2 with g | g | g
      · have := d11b (by omega) (by omega) (by omega); omega
      · have := d11a (Or.inr g.1); omega
      · have := d11b (by omega) (by omega) (by omega); omega
    · have := d11a (Or.inl h.2.1)
      rcases h.2.2.2.2.1 with g | g <;> omega
    · have q := d11c (by omega) (by omega) h.1
      by_cases z : D 1956 13 = 1 ∨ D 1956 15 + 1 = D (aF 1 f) 7
      · rw [if_pos z] at q
        have := h.2.2.2.2.2.1 z
        omega
      · rw [if_neg z] at q
        have := h.2.2.2.2.2.2 z
        omega
  have e17 : D' 1956 17 = 0 := by rw [oR _ (by omega) (by omega) (by omega) (by omega) (by omega)]; exact hQ.2.2.2.2
  refine ⟨⟨cu_to hQ.1.1 ⟨by omega, hp⟩ (o _ _ (by omega) (by omega)) d571 (fun x j u => o _ _ (by omega) (by omega)), mu_to hQ.1.2 ⟨by omega, hp⟩ p47 (p7 _ (by omega) (by omega)) (p7 _ (by omega) (by omega)) (fun j => pn _ _ (by omega))⟩, MS'.1.1, ⟨⟨by rw [o _ _ (by omega) (by omega)]; exact hQ.2.1.1, by rw [o _ _ (by omega) (by omega)]; exact hQ.2.1.2.1, by rw [p7 _ (by omega) (by omega)]; exact hQ.2.1.2.2⟩, by rw [oR _ (by omega) (by omega) (by omega) (by omega) (by omega)]; exact hQ.2.2.1, by rw [p7 _ (by omega) (by omega)]; exact hQ.2.2.2.1⟩, ⟨⟨by omega, by omega⟩, by rw [p49, e17]; omega, by rw [p49, e17]; omega⟩, by rw [e51]; exact e11, MS'.1.2.1, MS'.1.2.2, Or.inr ?_⟩
  have m4 := MS'.2.1.1.2.2
  rw [m4, show f + 1 - 1 = f from by omega]
  refine ⟨by omega, MS'.2.1.2.1, MS'.2.1.2.2.1, MS'.2.1.2.2.2, Or.inr ⟨k, MS'.2.2.1.1, MS'.2.2.1.2, ?_, ?_, MS'.2.2.2, ?_, ?_, ?_, ?_⟩⟩
  · rw [d12, p7 52 (by omega) (by omega), k52, oF, e51, hkd]
    refine ⟨by split <;> omega, rfl, fun y => ?_⟩
    have w15 : w = 1 ∨ w = 5 := by
      by_cases z : w = 1 ∨ w = 5
      · exact z
      · rw [if_neg z] at y; omega
    rcases hK with h | h | h | h
    · rcases h.1 with g | g | g
      · exact ⟨Or.inl g.1, h.2⟩
      · omega
      · omega
    · rcases h.2.2 with g | g | g
      · omega
      · omega
      · exact ⟨Or.inr h.1, g.2⟩
    · omega
    · omega
  · rw [oF, e51, hkd]
    rcases hK with h | h | h | h
    · have w34 : w ≠ 3 ∧ w ≠ 4 ∧ w ≠ 5 := by rcases h.1 with g | g | g <;> omega
      rw [d10 w34.1 w34.2.1 w34.2.2, h.2]
      omega
    · rcases h.2.2 with g | g | g
      · rw [d10 (by omega) (by omega) (by omega), g.2]
        omega
      · rw [d104 g.1, g.2, h.1]; rfl
      · rw [d105 g.1, g.2, h.1]; rfl
    · have q := d103 h.2.1
      rcases h.2.2.2.2.1 with g | g
      · rw [if_pos g.2.1] at q
        rw [q, g.2.2, h.1]; rfl
      · rw [if_neg (by omega)] at q
        rw [q, g.2.2.2.2.1, h.1]; rfl
    · rw [d10 (by omega) (by omega) (by omega), h.1]
      have e : wnt 4 (A 1977 51) = wnt 4 0 := rfl
      rw [e, ← h.1]
      omega
  · rw [d14, d13, oF, hkd]
  · rw [d15, p7 53 (by omega) (by omega)]
    refine ⟨n53, ?_, n7⟩
    have : 0 ≤ dlt w kd := by unfold dlt; split <;> omega
    omega
  · rw [p7 55 (by omega) (by omega), oR 16 (by omega) (by omega) (by omega) (by omega) (by omega)]
    exact ⟨n55, n16, n16'⟩
  · rw [oF, oF, oF, oF7, hkd, d15, d13, e51, p7 54 (by omega) (by omega)]
    rcases hK with h | h | h | h
    · refine Or.inr (Or.inr ⟨?_, h.2⟩)
      rcases h.1 with g | g | g
      · exact Or.inl g.1
      · exact Or.inr (Or.inl g.1)
      · exact Or.inr (Or.inr g.1)
    · have dl : dlt w kd = 0 := by unfold dlt; rw [if_neg (by omega)]
      refine Or.inl ⟨h.1, by omega, fun b u v => ?_⟩
      rw [dl] at u
      rw [oC k 4 b kk.1 kk.2.1 (by omega) (by omega)]
      exact h.2.1 b (by omega) v
    · have dl : dlt w kd = 1 := by unfold dlt; rw [if_pos (Or.inl h.2.1)]
      rw [dl]
      refine Or.inl ⟨h.1, ?_, fun b u v => ?_⟩
      · rcases h.2.2.2.2.1 with g | g
        · exact Or.inr (Or.inl g.2.2)
        · refine Or.inr (Or.inr (Or.inr ⟨g.2.2.2.2.1, by omega, by omega, g.2.2.2.1, ?_⟩))
          rw [show D 1956 15 + 1 - 1 = D 1956 15 from by omega]
          exact g.2.2.2.2.2
      · rw [oC k 4 b kk.1 kk.2.1 (by omega) (by omega)]
        exact h.2.2.1 b u v
    · have dl : dlt w kd = 1 := by unfold dlt; rw [if_pos (Or.inr h.1)]
      rw [dl]
      refine Or.inr (Or.inl ⟨h.1, ⟨by omega, by have := h.2.2.2.1; omega⟩, ?_, fun b u v q e => ?_⟩)
      · obtain ⟨_, w0, bzz, q2, q3, q4, q5⟩ := h
        rcases hM.2.2.2 with ⟨y1, _⟩ | ⟨y0, _⟩
        · exact Or.inl ⟨y1, q3 y1, q4 (Or.inl y1)⟩
        · refine Or.inr ⟨y0, ?_⟩
          by_cases z : D 1956 15 + 1 = D (aF 1 f) 7
          · exact Or.inl ⟨q4 (Or.inr z), z⟩
          · exact Or.inr ⟨q5 (fun u => by rcases u with u | u; omega; exact z u), by omega⟩
      · rw [oC0 k 7 kk.1 kk.2.1]
        exact h.2.2.1 b u v q e
theorem s_end {a p B f k w kd : Int} (ha : a ≤ p) (hP : Pre sc c T n a B D0 (PV c T n p B f k w D) (CZ sc)) (hE : ∃ A1, PV c T n p B f k w D A1) (hkd : D (aF 1 f) 5 = kd) (h10 : w = 3 ∨ w = 4 ∨ w = 5 ∨ D 1956 10 = wnt kd 0) (hN : ∀ D', frZ D D' → Sim sc 271 c T n a B 0 D0 D' → K D' 0) (hT : ∀ D', frZ D D' → Sim sc 271 c T n a B 1 D0 D' → K D' 1) : WP sc 149 0 D [(0, (1209, 1956))] [] K E := by
  obtain ⟨Ax, hx⟩ := hE
  have hPx := hx
  obtain ⟨hQx, ⟨hMx, hNx⟩, _, hKx⟩ := hx
  have f1 := hMx.2.1.1
  have hc := hQx.1.1
  have cc := hc.2
  have h13 : D 1956 13 = 0 ∨ D 1956 13 = 1 := by rcases hMx.2.2.2 with ⟨y1, _⟩ | ⟨y0, _⟩ <;> omega
  have dl : 0 ≤ dlt w (D (aF 1 f) 5) := by unfold dlt; split <;> omega
  have n15 := hNx.1.2.1
  have n7 := hNx.1.2.2
  have m49 : ∀ {A1}, PV c T n p B f k w D A1 → mu (wr A1 1977 49 4) T n p := fun hp => mu_to hp.1.1.2 ⟨hp.1.1.2.2.1.1, hp.1.1.2.2.1.2.1⟩ (by rw [wr_ni (by omega)]; exact hp.1.1.2.1.1) (wr_ni (by omega)) (wr_ni (by omega)) (fun j => wr_ne (by omega))
  rw [hkd] at hKx
  refine t_end (w := w) (kd := kd) (f := f) hc hNx.2.2 hMx.2.1.2.1 ⟨f1.1, f1.2.1⟩ hkd h13 ⟨n15, by omega⟩ (fun w3 => by rcases hKx with h | h | h | h <;> omega) (fun k4 => by rcases hKx with h | h | h | h <;> omega) (fun e D' he => ?_) (fun e => ?_)
  · have pn := pb_lt e (by omega)
    have z' : frZ D D' := fun x i u => he.2.2.2.2.2.2.2.2.2.2.2 x i (by omega) (by omega)
    refine hT D' z' (Pre_sim hP (fun A A1 v hp K' E' hK' => ?_))
    unfold CZ
    refine u_expects (m49 hp) (fun _ => ?_) (fun y => absurd e y)
    refine tbl_of (Or.inr rfl) (hK' _ ⟨frV_tr v (frV_tr (frV_wr (by omega)) (frV_wr (by omega))), Or.inl ⟨rfl, p + 1, by omega, RC_end hp hkd h10 (by omega) he⟩⟩)
  · refine hN _ frZ_fc (Pre_sim hP (fun A A1 v hp K' E' hK' => ?_))
    unfold CZ
    refine u_expects (m49 hp) (fun y => absurd y e) (fun _ => ?_)
    have h1 := hp.2.1.1.1.2.1
    have h2 := hp.2.1.1.2.2.1.1
    have e22 : (fl (wr A1 1977 49 4) 1 p) 1977 22 = A1 1977 22 := by
      unfold fl
      rw [wr_ni (by omega), wr_ni (by omega), wr_ni (by omega)]
    exact tbl_of (Or.inl rfl) (hK' _ (lnP_bd (frV_tr v (frV_tr (frV_wr (by omega)) frV_fl)) ⟨by rw [fc_2, fl_45], by rw [fc_3, fl_46]⟩ (by rw [fl_45]; omega) (by rw [e22]; omega)))
end END
