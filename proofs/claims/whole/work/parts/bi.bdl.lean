/-! reading a sample: a bucket's bound, both sides -/
section BDL
variable {sc : Nat × (Nat → Int32)} {D D' A A' A0 D0 : tD} {K : tD → Int → Prop} {E : tD → Nat → Prop} {T : Int → Int} {n c : Int}
theorem Pre_go {a B : Int} {P P' : tD → Prop} {C C' : tD → (tD → Int → Prop) → (tD → Nat → Prop) → Prop} (h : Pre sc c T n a B D0 P C) (hh : ∀ A A1, frV A A1 → P A1 → ∀ (K' : tD → Int → Prop) (E' : tD → Nat → Prop), (∀ A2, frV A A2 → P' A2 → C' A2 K' E') → C A1 K' E') : Pre sc c T n a B D0 P' C' := fun A hA K' E' hC => h A hA K' E' (fun A1 v p => hh A A1 v p K' E' hC)
theorem Pre_sim {a B r : Int} {P : tD → Prop} {C : tD → (tD → Int → Prop) → (tD → Nat → Prop) → Prop} (h : Pre sc c T n a B D0 P C) (hh : ∀ A A1, frV A A1 → P A1 → ∀ (K' : tD → Int → Prop) (E' : tD → Nat → Prop), (∀ A', lnP c T n a B r D' A A' → K' A' r) → C A1 K' E') : Sim sc 271 c T n a B r D0 D' := fun A hA K' E' hK' => h A hA K' E' (fun A1 v p => hh A A1 v p K' E' hK')
theorem MS_to {B f k : Int} (h : MS c B f k D A) (hs : shR c (mx D' A') 1) (hD : ∀ j, j = 4 ∨ j = 5 → D' 980 j = D 980 j) (hC : ∀ i j, 0 ≤ i → i < 24 → j = 3 ∨ j = 4 → D' (aC 1 i) j = D (aC 1 i) j) (hR : ∀ j, j = 5 ∨ j = 6 ∨ j = 7 ∨ j = 13 → D' 1956 j = D 1956 j) (hA : ∀ j, j = 22 ∨ j = 48 ∨ j = 50 → A' 1977 j = A 1977 j) : MS c B f k D' A' := by
  obtain ⟨⟨⟨_, h0⟩, h22, hct⟩, ⟨⟨f1, f2, f3⟩, g2, g3, g4⟩, ⟨⟨k1, k2, k3⟩, k4, k5, k6, k7⟩, h13⟩ := h
  refine ⟨⟨⟨hs, h0⟩, by rw [hA 22 (by omega), hD 5 (by omega)]; exact h22, fun i u v => by rw [hC i 3 u v (by omega), hD 5 (by omega)]; exact hct i u v⟩, ⟨⟨f1, f2, by rw [hD 4 (by omega)]; exact f3⟩, by rw [hR 5 (by omega)]; exact g2, by rw [hR 7 (by omega)]; exact g3, by rw [hA 48 (by omega)]; exact g4⟩, ⟨⟨k1, k2, by rw [hD 5 (by omega)]; exact k3⟩, by rw [hR 6 (by omega)]; exact k4, by rw [hA 50 (by omega)]; exact k5, by rw [hC k 3 k1 k2 (by omega)]; exact k6, by rw [hC k 4 k1 k2 (by omega)]; exact k7⟩, ?_⟩
  rw [hR 13 (by omega)]
  rcases h13 with ⟨e1, e2⟩ | ⟨e1, i, e2, e3, e4⟩
  · exact Or.inl ⟨e1, fun i u v => by rw [hC i 4 u (by omega) (by omega)]; exact e2 i u v⟩
  · exact Or.inr ⟨e1, i, e2, e3, by rw [hC i 4 e2 (by omega) (by omega)]; exact e4⟩
theorem MS_fr {B f k : Int} (h : MS c B f k D A) (hD : ∀ x j, 980 ≤ x → x ≤ 1954 → D' x j = D x j) (hR : ∀ j, j = 5 ∨ j = 6 ∨ j = 7 ∨ j = 13 → D' 1956 j = D 1956 j) (hA : ∀ x j, 1979 ≤ x → x ≤ 2008 → A' x j = A x j) (hA7 : ∀ j, j = 22 ∨ j = 48 ∨ j = 50 → A' 1977 j = A 1977 j) : MS c B f k D' A' := by
  refine MS_to h ?_ (fun j _ => hD _ _ (by omega) (by omega)) (fun i j u v _ => by have := aC1 i; exact hD _ _ (by omega) (by omega)) hR hA7
  refine shR_fr2 (D := mx D A) (Or.inr rfl) (Int.le_refl _) (fun x j u => ?_) h.1.1.1
  by_cases z : x < 1977
  · rw [mx_lo z, mx_lo z]
    refine hD x j ?_ ?_ <;> rcases u with w | w | w | w | w | w | w <;> omega
  · rw [mx_hi (by omega), mx_hi (by omega)]
    by_cases z7 : x = 1977
    · subst z7
      refine hA7 j ?_
      rcases u with w | w | w | w | w | w | w <;> omega
    · refine hA x j ?_ ?_ <;> rcases u with w | w | w | w | w | w | w <;> omega
/-- a bound more, both sides -/
theorem MS_bd {B f k j v : Int} {D4 A1 : tD} (h : MS c B f k D A) (h2 : D (aF 1 f) 5 = 2) (hj : j = D (aF 1 f) 6 ∧ j < 6) (hv : -mostN ≤ v ∧ v ≤ mostN) (hr : j = 0 ∨ D (aF 1 f + 7) (j - 1) < v) (hD : ∀ x i, x < 1957 → D4 x i = D x i) (hA : ∀ x i, x ≠ 2014 → x ≠ 1977 → A1 x i = A x i) (hA7 : ∀ i, i = 22 ∨ i = 48 ∨ i = 50 → A1 1977 i = A 1977 i) : MS c B f k (wr (wr D4 (aF 1 f + 7) j v) (aF 1 f) 6 (j + 1)) (bdA f j v A1) := by
  obtain ⟨⟨b1, b2, b3⟩, b4, b5, b6⟩ := MS_fB h
  have aFb := aF1 f
  have f1 := h.2.1.1
  have fa := MS_fa h
  have e8 : (8 : Int) * 1 + f = 8 + f := by omega
  generalize hD5 : wr (wr D4 (aF 1 f + 7) j v) (aF 1 f) 6 (j + 1) = D5
  have lo : ∀ x i, x < 1957 → ¬ (x = aF 1 f + 7 ∧ i = j) → ¬ (x = aF 1 f ∧ i = 6) → D5 x i = D x i := fun x i u y z => by
    rw [← hD5]
    by_cases z1 : x = aF 1 f
    · subst z1; rw [wr_ni (by omega), wr_ne (by omega)]; exact hD _ _ u
    · rw [wr_ne z1]
      by_cases z2 : x = aF 1 f + 7
      · subst z2; rw [wr_ni (by omega)]; exact hD _ _ u
      · rw [wr_ne z2]; exact hD _ _ u
  have d6 : D5 (aF 1 f) 6 = j + 1 := by rw [← hD5, wr_self]
  have d7 : D5 (aF 1 f + 7) j = v := by rw [← hD5, wr_ne (by omega), wr_self]
  generalize hA5 : bdA f j v A1 = A5
  have hi : ∀ x i, x ≠ 2014 → x ≠ 1977 → ¬ (x = 1987 ∧ i = 6 * (8 + f) + j) → ¬ (x = 1988 ∧ i = 8 + f) → A5 x i = A x i := fun x i u u2 y z => by
    rw [← hA5]
    unfold bdA
    by_cases z1 : x = 1988
    · subst z1; rw [wr_ni (by omega), wr_ne (by omega)]; exact hA _ _ u u2
    · rw [wr_ne z1]
      by_cases z2 : x = 1987
      · subst z2; rw [wr_ni (by omega)]; exact hA _ _ u u2
      · rw [wr_ne z2]; exact hA _ _ u u2
  have a88 : A5 1988 (8 + f) = j + 1 := by rw [← hA5]; unfold bdA; rw [wr_self]
  have a87 : A5 1987 (6 * (8 + f) + j) = v := by rw [← hA5]; unfold bdA; rw [wr_ne (by omega), wr_self]
  have a7 : ∀ i, i = 22 ∨ i = 48 ∨ i = 50 → A5 1977 i = A 1977 i := fun i u => by
    rw [← hA5]
    unfold bdA
    rw [wr_ne (by omega), wr_ne (by omega)]; exact hA7 i u
  have L : ∀ x i, x < 1957 → mx D5 A5 x i = D5 x i := fun x i u => mx_lo (by omega)
  have H : ∀ x i, 1977 ≤ x → mx D5 A5 x i = A5 x i := fun x i u => mx_hi u
  have fB : faB (mx D5 A5) 1 f := by
    unfold faB
    rw [e8, L _ _ (by omega), H _ _ (by omega), d6, a88, L _ _ (by omega), lo _ _ (by omega) (by omega) (by omega)]
    refine ⟨rfl, by omega, by omega, fun y => absurd h2 y, fun i u y => ?_, fun i u y => ?_⟩
    · rw [L _ _ (by omega), H _ _ (by omega)]
      by_cases z : i = j
      · rw [z, d7, a87]; exact ⟨rfl, hv⟩
      · rw [lo _ _ (by omega) (by omega) (by omega), hi _ _ (by omega) (by omega) (by omega) (by omega)]
        exact b4 i u (by omega)
    · rw [L _ _ (by omega), L _ _ (by omega), lo _ i (by omega) (by omega) (by omega)]
      by_cases z : i + 1 = j
      · rw [z, d7]
        rcases hr with w | w
        · omega
        · rw [show i = j - 1 from by omega]; exact w
      · rw [lo _ _ (by omega) (by omega) (by omega)]
        exact b5 i u (by omega)
  have oldL : ∀ x i, x < 1957 → mx D A x i = D x i := fun x i u => mx_lo (by omega)
  have oldH : ∀ x i, 1977 ≤ x → mx D A x i = A x i := fun x i u => mx_hi u
  have same : ∀ x i, (x < 1957 ∨ 1977 < x) → x ≠ 2014 → ¬ (x = aF 1 f + 7 ∧ i = j) → ¬ (x = aF 1 f ∧ i = 6) → ¬ (x = 1987 ∧ i = 6 * (8 + f) + j) → ¬ (x = 1988 ∧ i = 8 + f) → mx D5 A5 x i = mx D A x i := fun x i u u2 y1 y2 y3 y4 => by
    rcases u with u | u
    · rw [L _ _ u, oldL _ _ u]; exact lo x i u y1 y2
    · rw [H _ _ (by omega), oldH _ _ (by omega)]; exact hi x i u2 (by omega) y3 y4
  have hfa : faR (mx D5 A5) 1 f := by
    refine faR_mk (D := mx D A) (same _ _ (by omega) (by omega) (by omega) (by omega) (by omega) (by omega)) (fun x i u y => same _ _ (by omega) (by omega) (by omega) (by omega) (by omega) (by omega)) (fun x i u y => same _ _ (by omega) (by omega) (by omega) (by omega) (by omega) (by omega)) fB ?_ (fun y => by omega) fa
    exact faT_fr (D := mx D A) (same _ _ (by omega) (by omega) (by omega) (by omega) (by omega) (by omega)) (same _ _ (by omega) (by omega) (by omega) (by omega) (by omega) (by omega)) (fun x i u y => same _ _ (by omega) (by omega) (by omega) (by omega) (by omega) (by omega)) (fun x i u y => same _ _ (by omega) (by omega) (by omega) (by omega) (by omega) (by omega)) fa.2.2.2.2.2.1
  refine MS_to h ?_ (fun i u => lo _ _ (by omega) (by omega) (by omega)) (fun i i2 u y z => by have := aC1 i; exact lo _ _ (by omega) (by omega) (by omega)) (fun i u => lo _ _ (by omega) (by omega) (by omega)) a7
  refine shR_fam (D := mx D A) (f := f) (Or.inr rfl) (by omega) (Int.le_refl _) (fun _ => hfa) ⟨same _ _ (by omega) (by omega) (by omega) (by omega) (by omega) (by omega), ?_⟩ (fun x i u1 u2 => ?_) h.1.1.1
  · rw [L _ _ (by omega), oldL _ _ (by omega), d6]; omega
  · have n1 : ¬ (aF 1 f ≤ x ∧ x ≤ aF 1 f + 16) := fun w => u2 (Or.inl w)
    have n2 : ¬ (x = 1988 ∧ i = 8 + f) := fun w => u2 (Or.inr (Or.inl ⟨by omega, by omega⟩))
    have n3 : ¬ (x = 1987 ∧ i = 6 * (8 + f) + j) := fun w => u2 (Or.inr (Or.inr (Or.inr (Or.inr (Or.inr (Or.inl ⟨w.1, by omega, by omega⟩))))))
    by_cases z7 : x = 1977
    · subst z7
      rw [H _ _ (by omega), oldH _ _ (by omega)]
      refine a7 i ?_
      rcases u1 with w | w | w | w | w | w | w <;> omega
    · refine same x i ?_ ?_ (by omega) (by omega) n3 n2
      · rcases u1 with w | w | w | w | w | w | w <;> omega
      · rcases u1 with w | w | w | w | w | w | w <;> omega
/-- what the kinds ask behind the bound -/
def KB (f k w : Int) (D A : tD) : Prop := (w ≠ 3 ∧ KD f k w D A) ∨ (w = 3 ∧ D (aF 1 f) 5 = 2 ∧ cz D k (D 1956 15) ∧ D 1956 15 ≤ 6 ∧ ((A 1977 67 = 1 ∧ D 1956 15 = D (aF 1 f) 6) ∨ (A 1977 67 = 0 ∧ D 1956 15 < D (aF 1 f) 6 ∧ A 1977 68 = D (aF 1 f + 7) (D 1956 15) ∧ (D 1956 13 = 1 → D 1956 15 + 1 = D (aF 1 f) 6))) ∧ (1 ≤ D 1956 15 → A 1977 54 = D (aF 1 f + 7) (D 1956 15 - 1)))
def PB (c : Int) (T : Int → Int) (n p B f k w q : Int) (l : List Int) (D A : tD) : Prop := MQp T n p D A ∧ (MS c B f k D A ∧ MN w 0 D A) ∧ KB f k w D A ∧ (D (aF 1 f) 5 = 4 → XD T n q l D A ∧ (l.length : Int) ≤ 12)
def CB (sc : Nat × (Nat → Int32)) (w kd : Int) (A : tD) (K' : tD → Int → Prop) (E' : tD → Nat → Prop) : Prop := if kd = 4 then WP sc 277 0 A [(0, (1211, 1977))] [] (fun A2 r => if r = 0 then K' A2 0 else WP sc 271 182 A2 [(0, (1211, 1977)), (3, (0, w))] [] K' E') E' else WP sc 271 182 A [(0, (1211, 1977)), (3, (0, w))] [] K' E'
theorem MQp_fr {p : Int} (h : MQp T n p D A) (hD : ∀ x j, x ≤ 2 ∨ (x = 1956 ∧ (j = 17 ∨ j = 18)) ∨ x = 1957 → D' x j = D x j) (hA : ∀ j, j = 2 ∨ (45 ≤ j ∧ j ≤ 47) ∨ j = 61 → A' 1977 j = A 1977 j) (hT : ∀ j, A' 1978 j = A 1978 j) : MQp T n p D' A' := by
  obtain ⟨⟨h1, h2⟩, ⟨h3, h4, h5⟩, h6, h7, h8⟩ := h
  refine ⟨⟨cu_to h1 h1.2.2.1 (hD _ _ (by omega)) (by rw [hD _ _ (by omega)]; exact h1.1.2) (fun x j u => hD _ _ (by omega)), mu_to h2 ⟨h2.2.1.1, h2.2.1.2.1⟩ (by rw [hA _ (by omega)]; exact h2.1.1) (hA _ (by omega)) (hA _ (by omega)) hT⟩, ⟨by rw [hD _ _ (by omega)]; exact h3, by rw [hD _ _ (by omega)]; exact h4, by rw [hA _ (by omega)]; exact h5⟩, by rw [hD _ _ (by omega)]; exact h6, by rw [hA _ (by omega)]; exact h7, by rw [hD _ _ (by omega)]; exact h8⟩
theorem t_140 {f k v B : Int} (h : MS c B f k D A) (hs : 0 ≤ D 1956 15) (hT : bdK f v D → K D 1) (hF : ¬ bdK f v D → K D 0) : WP sc 140 0 D [(0, (1209, 1956)), (1, (1, v))] [] K E := by
  obtain ⟨⟨b1, b2, b3⟩, b4, b5, b6⟩ := MS_fB h
  have f1 := h.2.1.1
  have aFb := aF1 f
  have e5 := h.2.1.2.1
  have l7 := ln_bnd (s := 1) (Or.inr rfl) (f := f) ⟨f1.1, by omega⟩
  refine v140_0 (fun _ => ?_)
  rw [e5]
  rcases h.2.2.2 with ⟨y1, _⟩ | ⟨y0, _⟩
  · rw [if_neg (by omega)]
    by_cases z : D 1956 15 < 6
    · rw [if_pos z, if_neg (by omega)]
      refine v67_0 ?_
      by_cases z6 : D (aF 1 f) 6 = 0
      · rw [if_pos z6, if_neg (by omega)]
        exact hT (Or.inr ⟨y1, z, Or.inl z6⟩)
      rw [if_neg z6, if_neg (by omega), w32_id (x := D (aF 1 f) 6 - 1) (by omega) (by omega), l7]
      refine ⟨⟨by omega, by omega⟩, ?_⟩
      by_cases zt : D (aF 1 f + 7) (D (aF 1 f) 6 - 1) < v
      · rw [if_pos (tlc_p.mpr zt), if_neg (by omega)]
        exact hT (Or.inr ⟨y1, z, Or.inr zt⟩)
      · rw [if_neg (fun w => zt (tlc_p.mp w)), if_pos rfl]
        refine hF (fun w => ?_)
        rcases w with w | w
        · omega
        · rcases w.2.2 with w | w
          · exact z6 w
          · exact zt w
    · rw [if_neg z]
      refine hF (fun w => ?_)
      rcases w with w | w
      · omega
      · exact z w.2.1
  · rw [if_pos y0, if_neg (by omega)]
    by_cases z : D 1956 15 < D (aF 1 f) 6
    · rw [if_pos z, if_neg (by omega)]
      refine v74_0 ?_
      rw [if_neg (by omega), if_pos z, if_pos (by omega), l7]
      refine ⟨⟨by omega, by omega⟩, ?_⟩
      by_cases ze : v = D (aF 1 f + 7) (D 1956 15)
      · rw [if_pos (tlc_z.mpr ze)]
        exact hT (Or.inl ⟨y0, z, ze⟩)
      · rw [if_neg (fun w => ze (tlc_z.mp w))]
        refine hF (fun w => ?_)
        rcases w with w | w
        · exact ze w.2.2
        · omega
    · rw [if_neg z]
      refine hF (fun w => ?_)
      rcases w with w | w
      · exact z w.2.1
      · omega
theorem s_bound {a p B f k w q kd : Int} {l : List Int} (hP : Pre sc c T n a B D0 (PW c T n p B f k w q l D) (CW sc w kd)) (hE : ∃ A1, PW c T n p B f k w q l D A1) (hkd : D (aF 1 f) 5 = kd) (h68 : D 1968 0 = 1966) (hN : ∀ D', frZ D D' → Sim sc 271 c T n a B 0 D0 D' → K D' 0) (hT : ∀ D', frZ D D' → D' (aF 1 f) 5 = kd → D' 1956 10 = D 1956 10 → Pre sc c T n a B D0 (PB c T n p B f k w q l D') (CB sc w kd) → K D' 1) : WP sc 139 0 D [(0, (1209, 1956))] [] K E := by
  obtain ⟨Ax, hQx, ⟨hMx, hNx⟩, hKx, hXx, _⟩ := hE
  have e9 := hNx.2.2
  have s15 := hNx.1.2
  have aFb := aF1 f
  have f1 := hMx.2.1.1
  have e5 := hMx.2.1.2.1
  have r22 : ∀ A1, MS c B f k D A1 → (0 ≤ B ∧ B ≤ A1 1977 22) ∧ A1 1977 22 ≤ B + 24 := fun A1 h => by
    have h1 := h.1.2.1
    have h2 := h.2.2.1.1
    omega
  refine v139_0 ?_
  rw [e9]
  by_cases w3 : w = 3
  rotate_left
  · rw [if_neg w3]
    refine hT D frZ_rf hkd rfl (Pre_go hP (fun A A1 v hp K' E' hC => ?_))
    obtain ⟨p1, p2, p3, p4, p5⟩ := hp
    have g := hC A1 v ⟨p1, p2, Or.inl ⟨w3, p3⟩, fun y => ⟨p4 (Or.inr y), p5 y⟩⟩
    unfold CW
    unfold CB at g
    rw [if_neg w3]; exact g
  subst w3
  rw [if_pos rfl]
  have k2 : D (aF 1 f) 5 = 2 := by
    rcases hKx with g | g | g
    · omega
    · exact g.1
    · omega
  have kd2 : kd = 2 := by omega
  subst kd2
  obtain ⟨⟨d1, ⟨d2, d2'⟩, d3, d4⟩, q0, _⟩ := hXx (Or.inl rfl)
  rw [txt_w8 d4] at d2'
  have XA : ∀ {A1}, PW c T n p B f k 3 q l D A1 → XD T n q l D A1 := fun hp => hp.2.2.2.1 (Or.inl rfl)
  have eCW : ∀ {A1 : tD} {K' : tD → Int → Prop} {E' : tD → Nat → Prop}, WP sc 274 0 A1 [(0, (1211, 1977))] [] (fun A2 r => if r = 0 then K' A2 0 else WP sc 271 182 A2 [(0, (1211, 1977)), (3, (0, 3))] [] K' E') E' → CW sc 3 2 A1 K' E' := fun {A1 K' E'} h => by
    unfold CW
    rw [if_pos rfl]; exact h
  have eCB : ∀ {A1 : tD} {K' : tD → Int → Prop} {E' : tD → Nat → Prop}, CB sc 3 2 A1 K' E' → WP sc 271 182 A1 [(0, (1211, 1977)), (3, (0, 3))] [] K' E' := fun {A1 K' E'} h => by
    unfold CB at h
    rw [if_neg (by omega)] at h; exact h
  have fl22' : ∀ (A1 : tD) cd, (fl A1 cd q) 1977 22 = A1 1977 22 := fun A1 cd => by
    unfold fl
    rw [wr_ni (by omega), wr_ni (by omega)]
  refine t_more twd_inf d2 d2' (by omega) (fun wi => ?_) (fun wi => ?_)
  · rw [if_neg (by omega), if_neg (by omega), e5, if_neg (by omega)]
    by_cases ze : D 1956 15 = D (aF 1 f) 6
    · rw [if_pos ze]
      have fin : K D 1 := by
        refine hT D frZ_rf hkd rfl (Pre_go hP (fun A A1 v hp K' E' hC => eCW ?_))
        obtain ⟨p1, ⟨p2, p2'⟩, p3, p4, p5⟩ := hp
        refine u_bound p1 p2 p2' p3 k2 (p4 (Or.inl rfl)) (fun _ _ => ?_) (fun _ y => absurd ze y) (fun y => absurd wi y) (fun y => absurd wi y) (fun y => absurd wi y)
        rw [if_neg (by omega)]
        have u1 : ∀ x j, x ≠ 1977 → (wr A1 1977 67 1) x j = A1 x j := fun x j u => wr_ne u
        have u7 : ∀ j, j ≠ 67 → (wr A1 1977 67 1) 1977 j = A1 1977 j := fun j u => wr_ni u
        refine eCB (hC _ (frV_tr v (frV_wr (by omega))) ⟨MQp_fr p1 (fun _ _ _ => rfl) (fun j u => u7 j (by omega)) (fun j => u1 _ _ (by omega)), ⟨MS_fr p2 (fun _ _ _ _ => rfl) (fun _ _ => rfl) (fun x j u _ => u1 _ _ (by omega)) (fun j u => u7 j (by omega)), ?_⟩, Or.inr ⟨rfl, k2, ?_, ?_, Or.inl ⟨wr_self, ze⟩, ?_⟩, fun y => by omega⟩)
        · unfold MN
          rw [u7 53 (by omega), u7 55 (by omega)]; exact p2'
        · rcases p3 with g | g | g
          · omega
          · exact g.2.1
          · omega
        · have := (MS_fB p2).1; omega
        · rw [u7 54 (by omega)]
          intro y
          rcases p3 with g | g | g
          · omega
          · rcases g.2.2 with z | z | z | ⟨_, z | z⟩
            · omega
            · omega
            · omega
            · omega
            · exact z.2.2.2
          · omega
      intro _
      split
      · exact fin
      · rw [if_neg (by omega)]; exact fin
    · rw [if_neg ze, d1]
      refine t_fc (hN _ frZ_fc (Pre_sim hP (fun A A1 v hp K' E' hK' => eCW ?_)))
      have hX := XA hp
      obtain ⟨p1, ⟨p2, p2'⟩, p3, p4, p5⟩ := hp
      refine u_bound p1 p2 p2' p3 k2 hX (fun _ y => absurd y ze) (fun _ _ => ?_) (fun y => absurd wi y) (fun y => absurd wi y) (fun y => absurd wi y)
      rw [if_pos rfl]
      exact hK' _ (lnP_bd (frV_tr v (frV_tr (frV_wr (by omega)) frV_fl)) ⟨by rw [fc_2, fl_45], by rw [fc_3, fl_46]⟩ (by rw [fl_45]; omega) (by rw [fl22', wr_ni (by omega)]; exact r22 A1 p2))
  · rw [if_pos rfl]
    refine t_spell h68 ⟨d2, by rw [txt_w8 d4]; exact d2'⟩ d3 d4 (fun sp D4 e4 o4 => ?_) (fun ns D4 o4 => ?_)
    rotate_left
    · rw [if_pos rfl, o4 1958 5 (by omega) (by omega) (by omega), d1]
      refine t_fc (hN _ (frZ_tr (fun x j u => o4 x j (by omega) (by omega) (by omega)) frZ_fc) (Pre_sim hP (fun A A1 v hp K' E' hK' => eCW ?_)))
      have hX := XA hp
      obtain ⟨p1, ⟨p2, p2'⟩, p3, p4, p5⟩ := hp
      refine u_bound p1 p2 p2' p3 k2 hX (fun y => absurd y wi) (fun y => absurd y wi) (fun _ _ A2 v2 e22 => ?_) (fun _ y => absurd y ns) (fun _ y => absurd y ns)
      rw [if_pos rfl]
      exact hK' _ (lnP_bd (frV_tr v (frV_tr v2 frV_fl)) ⟨by rw [fc_2, fl_45], by rw [fc_3, fl_46]⟩ (by rw [fl_45]; omega) (by rw [fl22', e22]; exact r22 A1 p2))
    rw [if_neg (by omega), if_pos rfl, e4]
    have v4 : frZ D D4 := fun x j u => o4 x j (by omega) (by omega) (by omega)
    have l4 : ∀ x j, x < 1968 → D4 x j = D x j := fun x j u => o4 x j (by omega) (by omega) (by omega)
    have M4 : ∀ {A1}, MS c B f k D A1 → MS c B f k D4 A1 := fun h => MS_fr h (fun x j _ u => l4 _ _ (by omega)) (fun j _ => l4 _ _ (by omega)) (fun _ _ _ _ => rfl) (fun _ _ => rfl)
    have eb : bdK f (spV l).2.1 D4 ↔ bdK f (spV l).2.1 D := by
      unfold bdK
      rw [l4 1956 13 (by omega), l4 1956 15 (by omega), l4 (aF 1 f) 6 (by omega), l4 (aF 1 f + 7) _ (by omega), l4 (aF 1 f + 7) _ (by omega)]
    have vr := nmb_rng sp.1 ⟨by omega, by omega⟩
    refine t_140 (M4 hMx) (by rw [l4 _ _ (by omega)]; exact s15.1) (fun y => ?_) (fun y => ?_)
    rotate_left
    · rw [if_pos rfl, l4 1958 5 (by omega), d1]
      refine t_fc (hN _ (frZ_tr v4 frZ_fc) (Pre_sim hP (fun A A1 v hp K' E' hK' => eCW ?_)))
      have hX := XA hp
      obtain ⟨p1, ⟨p2, p2'⟩, p3, p4, p5⟩ := hp
      refine u_bound p1 p2 p2' p3 k2 hX (fun y => absurd y wi) (fun y => absurd y wi) (fun _ z => absurd sp z) (fun _ _ z => absurd (eb.mpr z) y) (fun _ _ _ A2 v2 e22 => ?_)
      rw [if_pos rfl]
      exact hK' _ (lnP_bd (frV_tr v (frV_tr v2 frV_fl)) ⟨by rw [fc_2, fl_45], by rw [fc_3, fl_46]⟩ (by rw [fl_45]; omega) (by rw [fl22', e22]; exact r22 A1 p2))
    rw [if_neg (by omega)]
    have y' := eb.mp y
    rw [l4 1956 13 (by omega), l4 1956 5 (by omega), e5]
    intro _
    have czA : ∀ {A1}, KD f k 3 D A1 → cz D k (D 1956 15) ∧ (1 ≤ D 1956 15 → A1 1977 54 = D (aF 1 f + 7) (D 1956 15 - 1)) ∧ ((D 1956 15 = 0 ∧ (D 1956 13 = 1 → D (aF 1 f) 6 = 0)) ∨ (1 ≤ D 1956 15 ∧ D 1956 15 ≤ D (aF 1 f) 6 ∧ (D 1956 13 = 1 → D 1956 15 = D (aF 1 f) 6))) := fun p3 => by
      rcases p3 with g | g | g
      · omega
      · refine ⟨g.2.1, ?_, ?_⟩
        · intro y
          rcases g.2.2 with z | z | z | ⟨_, z | z⟩
          · omega
          · omega
          · omega
          · omega
          · exact z.2.2.2
        · rcases g.2.2 with z | z | z | ⟨_, z | z⟩
          · omega
          · omega
          · omega
          · exact Or.inl z
          · exact Or.inr ⟨z.1, z.2.1, z.2.2.1⟩
      · omega
    by_cases y13 : D 1956 13 = 0
    · rw [if_pos y13]
      have yb : D 1956 15 < D (aF 1 f) 6 ∧ (spV l).2.1 = D (aF 1 f + 7) (D 1956 15) := by
        rcases y' with z | z
        · exact z.2
        · omega
      refine hT D4 v4 (by rw [l4 _ _ (by omega)]; exact hkd) (l4 _ _ (by omega)) (Pre_go hP (fun A A1 v hp K' E' hC => eCW ?_))
      have hX := XA hp
      obtain ⟨p1, ⟨p2, p2'⟩, p3, p4, p5⟩ := hp
      refine u_bound p1 p2 p2' p3 k2 hX (fun y => absurd y wi) (fun y => absurd y wi) (fun _ z => absurd sp z) (fun _ _ _ A2 o2 o27 t67 t68 => ?_) (fun _ _ z => absurd y' z)
      rw [if_neg (show ¬ (1 : Int) = 0 by decide), if_neg (by omega)]
      have V2 : frV A1 A2 := fun x j u => by
        by_cases y : x = 1977
        · subst y; exact o27 j (by omega) (by omega) (by omega)
        · exact o2 x j (by omega) y
      obtain ⟨c1, c2, c3⟩ := czA p3
      refine eCB (hC A2 (frV_tr v V2) ⟨MQp_fr p1 (fun x j u => l4 _ _ (by omega)) (fun j u => o27 j (by omega) (by omega) (by omega)) (fun j => o2 _ _ (by omega) (by omega)), ⟨MS_fr p2 (fun x j _ u => l4 _ _ (by omega)) (fun j _ => l4 _ _ (by omega)) (fun x j u _ => o2 _ _ (by omega) (by omega)) (fun j u => o27 j (by omega) (by omega) (by omega)), ?_⟩, Or.inr ⟨rfl, by rw [l4 _ _ (by omega)]; exact k2, ?_, ?_, Or.inr ⟨t67, ?_, ?_, ?_⟩, ?_⟩, fun y => by rw [l4 _ _ (by omega)] at y; omega⟩)
      · unfold MN
        rw [l4 1956 15 (by omega), l4 1956 16 (by omega), l4 1956 9 (by omega), o27 53 (by omega) (by omega) (by omega), o27 55 (by omega) (by omega) (by omega)]; exact p2'
      · intro b u u2
        have := aC1 k
        have := hMx.2.2.1.1
        rw [l4 _ _ (by omega)] at u
        rw [l4 _ _ (by omega)]; exact c1 b u u2
      · rw [l4 _ _ (by omega)]
        have := (MS_fB p2).1
        omega
      · rw [l4 _ _ (by omega), l4 _ _ (by omega)]; exact yb.1
      · rw [t68, l4 1956 15 (by omega), l4 _ _ (by omega)]; exact yb.2
      · rw [l4 _ _ (by omega)]; intro z; omega
      · rw [l4 1956 15 (by omega), l4 _ _ (by omega), o27 54 (by omega) (by omega) (by omega)]; exact c2
    · rw [if_neg y13, if_pos rfl, if_neg (by omega)]
      have y1 : D 1956 13 = 1 := by rcases hMx.2.2.2 with z | z <;> omega
      obtain ⟨c1x, c2x, c3x⟩ := czA hKx
      have e15 : D 1956 15 = D (aF 1 f) 6 := by
        rcases c3x with z | z
        · rw [z.2 y1, z.1]
        · exact z.2.2 y1
      have yb : D 1956 15 < 6 ∧ (D (aF 1 f) 6 = 0 ∨ D (aF 1 f + 7) (D (aF 1 f) 6 - 1) < (spV l).2.1) := by
        rcases y' with z | z
        · omega
        · exact z.2
      have l7 := ln_bnd (s := 1) (Or.inr rfl) (f := f) ⟨f1.1, by omega⟩
      have fBx := (MS_fB hMx).1
      refine v68_0 ?_
      rw [l4 (aF 1 f) 6 (by omega), if_pos (by omega), l7]
      refine ⟨⟨by omega, by omega⟩, ?_⟩
      have e66 : (wr D4 (aF 1 f + 7) (D (aF 1 f) 6) (spV l).2.1) (aF 1 f) 6 = D (aF 1 f) 6 := by rw [wr_ne (by omega), l4 _ _ (by omega)]
      rw [e66, w32_id (x := D (aF 1 f) 6 + 1) (by omega) (by omega)]
      generalize hD5 : wr (wr D4 (aF 1 f + 7) (D (aF 1 f) 6) (spV l).2.1) (aF 1 f) 6 (D (aF 1 f) 6 + 1) = D5
      have o5 : ∀ x j, x < 1968 → x ≠ aF 1 f + 7 → ¬ (x = aF 1 f ∧ j = 6) → D5 x j = D x j := fun x j u u2 u3 => by
        rw [← hD5]
        by_cases z : x = aF 1 f
        · subst z; rw [wr_ni (by omega), wr_ne (by omega), l4 _ _ u]
        · rw [wr_ne z, wr_ne u2, l4 _ _ u]
      have d57 : ∀ j, j ≠ D (aF 1 f) 6 → D5 (aF 1 f + 7) j = D (aF 1 f + 7) j := fun j u => by rw [← hD5, wr_ne (by omega), wr_ni u, l4 _ _ (by omega)]
      have d57' : D5 (aF 1 f + 7) (D (aF 1 f) 6) = (spV l).2.1 := by rw [← hD5, wr_ne (by omega), wr_self]
      have d56 : D5 (aF 1 f) 6 = D (aF 1 f) 6 + 1 := by rw [← hD5, wr_self]
      have z5 : frZ D D5 := frZ_tr v4 (by rw [← hD5]; exact frZ_tr (frZ_wr (by omega)) (frZ_wr (by omega)))
      refine hT D5 z5 (by rw [o5 _ _ (by omega) (by omega) (by omega)]; exact hkd) (o5 _ _ (by omega) (by omega) (by omega)) (Pre_go hP (fun A A1 v hp K' E' hC => eCW ?_))
      have hX := XA hp
      obtain ⟨p1, ⟨p2, p2'⟩, p3, p4, p5⟩ := hp
      refine u_bound p1 p2 p2' p3 k2 hX (fun y => absurd y wi) (fun y => absurd y wi) (fun _ z => absurd sp z) (fun _ _ _ A2 o2 o27 t67 t68 => ?_) (fun _ _ z => absurd y' z)
      rw [if_neg (show ¬ (1 : Int) = 0 by decide), if_pos y1]
      have b7 : ∀ i, (bdA f (D 1956 15) (spV l).2.1 A2) 1977 i = A2 1977 i := fun i => by
        unfold bdA
        rw [wr_ne (by omega), wr_ne (by omega)]
      have V2 : frV A1 (bdA f (D 1956 15) (spV l).2.1 A2) := fun x j u => by
        by_cases y : x = 1977
        · subst y; rw [b7]; exact o27 j (by omega) (by omega) (by omega)
        · unfold bdA
          by_cases y8 : x = 1988
          · subst y8
            have e : cap0 1988 = 8 := rfl
            rw [wr_ni (by omega), wr_ne (by omega)]; exact o2 _ j (by omega) y
          · rw [wr_ne y8]
            by_cases y7 : x = 1987
            · subst y7
              have e : cap0 1987 = 48 := rfl
              rw [wr_ni (by omega)]; exact o2 _ j (by omega) y
            · rw [wr_ne y7]; exact o2 x j (by omega) y
      obtain ⟨c1, c2, c3⟩ := czA p3
      have ms5 := MS_bd (D := D) (A := A1) (D4 := D4) (A1 := A2) (j := D (aF 1 f) 6) (v := (spV l).2.1) p2 k2 ⟨rfl, by omega⟩ vr yb.2 (fun x i u => l4 _ _ (by omega)) o2 (fun i u => o27 i (by omega) (by omega) (by omega))
      rw [hD5] at ms5
      refine eCB (hC _ (frV_tr v V2) ⟨MQp_fr p1 (fun x j u => o5 _ _ (by omega) (by omega) (by omega)) (fun j u => by rw [b7]; exact o27 j (by omega) (by omega) (by omega)) (fun j => by unfold bdA; rw [wr_ne (by omega), wr_ne (by omega)]; exact o2 _ _ (by omega) (by omega)), ⟨by rw [e15]; exact ms5, ?_⟩, Or.inr ⟨rfl, by rw [o5 _ _ (by omega) (by omega) (by omega)]; exact k2, ?_, ?_, Or.inr ⟨by rw [b7]; exact t67, ?_, ?_, ?_⟩, ?_⟩, fun y => by rw [o5 _ _ (by omega) (by omega) (by omega)] at y; omega⟩)
      · unfold MN
        rw [o5 1956 15 (by omega) (by omega) (by omega), o5 1956 16 (by omega) (by omega) (by omega), o5 1956 9 (by omega) (by omega) (by omega), b7, b7, o27 53 (by omega) (by omega) (by omega), o27 55 (by omega) (by omega) (by omega)]; exact p2'
      · intro b u u2
        have := aC1 k
        have := hMx.2.2.1.1
        rw [o5 _ _ (by omega) (by omega) (by omega)] at u
        rw [o5 _ _ (by omega) (by omega) (by omega)]; exact c1 b u u2
      · rw [o5 _ _ (by omega) (by omega) (by omega)]; omega
      · rw [o5 _ _ (by omega) (by omega) (by omega), d56]; omega
      · rw [o5 1956 15 (by omega) (by omega) (by omega), b7, t68, e15, d57']
      · rw [o5 _ _ (by omega) (by omega) (by omega), o5 _ _ (by omega) (by omega) (by omega), d56]; intro _; omega
      · rw [o5 1956 15 (by omega) (by omega) (by omega), b7, o27 54 (by omega) (by omega) (by omega)]
        intro z
        rw [d57 _ (by omega)]; exact c2 z
end BDL
