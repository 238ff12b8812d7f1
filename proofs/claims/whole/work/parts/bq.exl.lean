/-! reading a sample: its exemplar, both sides together -/
section EXL
variable {sc : Nat × (Nat → Int32)} {D D' D1 A A' A1 A0 D0 : tD} {K : tD → Int → Prop} {E : tD → Nat → Prop} {T : Int → Int} {n c : Int}
theorem KV_3 {f k w : Int} (h : KV f k w D A) (w3 : w = 3) : D (aF 1 f) 5 = 2 ∧ D 1956 15 ≤ 6 ∧ ((A 1977 67 = 1 ∧ D 1956 15 = D (aF 1 f) 6) ∨ (A 1977 67 = 0 ∧ D 1956 15 < D (aF 1 f) 6 ∧ A 1977 68 = D (aF 1 f + 7) (D 1956 15))) ∧ (1 ≤ D 1956 15 → A 1977 69 = D (aF 1 f + 7) (D 1956 15 - 1)) ∧ (A 1977 71 = if 0 < D (aC 1 k + 4) (D 1956 15) then 1 else 0) := by
  obtain ⟨_, h | h | h | h⟩ := h
  · omega
  · omega
  · refine ⟨h.1, h.2.2.2.1, ?_, h.2.2.2.2.2.1, h.2.2.2.2.2.2⟩
    rcases h.2.2.2.2.1 with g | g
    · exact Or.inl ⟨g.1, g.2.1⟩
    · exact Or.inr ⟨g.1, g.2.1, g.2.2.1⟩
  · omega
/-- the test of an exemplar's number, both sides -/
theorem xeG_iff {f k w v : Int} (hw : w = 1 ∨ w = 3) (hK : KV f k w D A) (h53 : w = 3 → A 1977 53 = D 1956 15 + 1 ∧ 0 ≤ D 1956 15) : xeG w f k D v ↔ ((w = 1 ∧ 0 ≤ v) ∨ (w = 3 ∧ A 1977 71 = 1 ∧ (A 1977 53 = 1 ∨ A 1977 69 < v) ∧ (A 1977 67 = 1 ∨ v ≤ A 1977 68))) := by
  unfold xeG
  rcases hw with w1 | w3
  · constructor
    · intro y; rcases y with y | y
      · exact Or.inl y
      · exact absurd w1 y.1
    · intro y; rcases y with y | y
      · exact Or.inl y
      · omega
  · obtain ⟨k2, q1, q2, q3, q4⟩ := KV_3 hK w3
    obtain ⟨r1, r2⟩ := h53 w3
    have e71 : A 1977 71 = 1 ↔ 0 < D (aC 1 k + 4) (D 1956 15) := by
      rw [q4]
      by_cases z : 0 < D (aC 1 k + 4) (D 1956 15)
      · rw [if_pos z]; exact ⟨fun _ => z, fun _ => rfl⟩
      · rw [if_neg z]; exact ⟨fun y => by omega, fun y => absurd y z⟩
    rw [e71, r1]
    constructor
    · intro y
      rcases y with y | ⟨_, y1, y2, y3⟩
      · omega
      · refine Or.inr ⟨w3, y3, ?_, ?_⟩
        · by_cases z : D 1956 15 = 0
          · exact Or.inl (by omega)
          · refine Or.inr ?_
            rw [q3 (by omega)]
            omega
        · rcases q2 with q2 | q2
          · exact Or.inl q2.1
          · refine Or.inr ?_
            rw [q2.2.2]
            omega
    · intro y
      rcases y with y | ⟨_, y1, y2, y3⟩
      · omega
      · refine Or.inr ⟨by omega, ?_, ?_, y1⟩
        · by_cases z : D 1956 15 = 0
          · exact Or.inl z
          · have := q3 (by omega)
            omega
        · rcases q2 with q2 | q2
          · exact Or.inl (by omega)
          · have := q2.2.2
            omega
theorem s_exem {a p B f k w kd : Int} (hP : Pre sc c T n a B D0 (PV c T n p B f k w D) (CV sc w)) (hE : ∃ A1, PV c T n p B f k w D A1) (hkd : D (aF 1 f) 5 = kd) (hN : ∀ D', frZ D D' → Sim sc 271 c T n a B 0 D0 D' → K D' 0) (hT : ∀ D' p', p ≤ p' → p' ≤ n → frZ D D' → D' (aF 1 f) 5 = kd → D' 1956 10 = D 1956 10 → Pre sc c T n a B D0 (PV c T n p' B f k w D') (CZ sc) → K D' 1) : WP sc 146 0 D [(0, (1209, 1956))] [] K E := by
  have mN : mostN = 999999999999999 := rfl
  obtain ⟨Ax, hx⟩ := hE
  have hPx := hx
  obtain ⟨hQx, ⟨hMx, hNx⟩, hKx⟩ := hx
  have aCb := aC1 k
  have aFb := aF1 f
  have f1 := hMx.2.1.1
  have kk := hMx.2.2.1.1
  have hc := hQx.1.1
  have cc := hc.2
  have e9 := hNx.2.2
  have r22 : ∀ A1, MS c B f k D A1 → (0 ≤ B ∧ B ≤ A1 1977 22) ∧ A1 1977 22 ≤ B + 24 := fun A1 h => by
    have h1 := h.1.2.1
    have h2 := h.2.2.1.1
    omega
  have fl22' : ∀ (A1 : tD) cd q, (fl A1 cd q) 1977 22 = A1 1977 22 := fun A1 cd q => by
    unfold fl
    rw [wr_ni (by omega), wr_ni (by omega)]
  refine v146_0 ?_
  rw [e9]
  by_cases hw : w = 1 ∨ w = 3
  rotate_left
  · rw [if_neg (by omega), if_neg (by omega)]
    refine hT D p (Int.le_refl _) cc.2.1.2 frZ_rf hkd rfl (Pre_go hP (fun A A1 v hp K' E' hC => ?_))
    have g := hC A1 v hp
    unfold CV
    rw [if_neg (by omega), if_neg (by omega)]; exact g
  /- the other side at the byte behind the value -/
  have mCV : ∀ {A1 : tD} {K' : tD → Int → Prop} {E' : tD → Nat → Prop}, PV c T n p B f k w D A1 → (pb T n p = 32 → WP sc 282 0 A1 [(0, (1211, 1977)), (1, (0, w))] [] (fun D13 r14 => if r14 = 0 then (K' D13 0) else CZ sc D13 K' E') E') → (pb T n p ≠ 32 → CZ sc A1 K' E') → CV sc w A1 K' E' := fun {A1 K' E'} hp g1 g2 => by
    have one : WP sc 252 0 A1 [(0, (1211, 1977))] [] (fun D10 r11 => if r11 = 32 then (WP sc 282 0 D10 [(0, (1211, 1977)), (1, (0, w))] [] (fun D13 r14 => if r14 = 0 then (K' D13 0) else (WP sc 253 0 (wr D13 1977 49 4) [(0, (1211, 1977)), (1, (0, 10))] [] (fun D16 r17 => tbl r17 (K' D16 r17)) E')) E') else (WP sc 253 0 (wr D10 1977 49 4) [(0, (1211, 1977)), (1, (0, 10))] [] (fun D19 r20 => tbl r20 (K' D19 r20)) E')) E' := by
      refine u_peek hp.1.1.2 ?_
      by_cases z : pb T n p = 32
      · rw [if_pos z]; exact g1 z
      · rw [if_neg z]; exact g2 z
    unfold CV
    rcases hw with w1 | w3
    · rw [if_pos w1]; exact one
    · rw [if_neg (by omega), if_pos w3]; exact one
  have bad : ∀ (D' : tD) (o : Int × Int), pb T n p = 32 → 0 < o.1 → D' 1957 2 = o.1 → D' 1957 3 = o.2 → frZ D D' → (∀ A A1, frV A A1 → PV c T n p B f k w D A1 → ∀ (K' : tD → Int → Prop) (E' : tD → Nat → Prop), (∀ A', A' 1977 45 = o.1 → A' 1977 46 = o.2 → frV A1 A' → A' 1977 22 = A1 1977 22 → K' A' 0) → WP sc 282 0 A1 [(0, (1211, 1977)), (1, (0, w))] [] (fun D13 r14 => if r14 = 0 then (K' D13 0) else CZ sc D13 K' E') E') → K D' 0 := fun D' o e0 op d1 d2 d3 h => by
    refine hN D' d3 (Pre_sim hP (fun A A1 v hp K' E' hK' => mCV hp (fun _ => h A A1 v hp K' E' (fun A' a1 a2 a3 a4 => hK' A' (lnP_bd (frV_tr v a3) ⟨by rw [d1, a1], by rw [d2, a2]⟩ (by rw [a1]; exact op) (by rw [a4]; exact r22 A1 hp.2.1.1)))) (fun y => absurd e0 y)))
  have v22 : ∀ (A1 : tD) (q cd pl : Int), (fl (wr A1 1977 47 q) cd pl) 1977 22 = A1 1977 22 := fun A1 q cd pl => by rw [fl22', wr_ni (by omega)]
  /- behind the labels -/
  have tail : ∀ (D2 : tD), pb T n p = 32 → pb T n (p + 1) = 35 → pb T n (p + 2) = 32 → pb T n (p + 3) = 123 → (xeL T n (p + 4)).1 = 0 → p + 4 ≤ n → lrC D2 T n (xeL T n (p + 4)).2.1 (xeL T n (p + 4)).2.2.1 (xeL T n (p + 4)).2.2.2 → frY D D2 → WP sc 78 0 D2 [(0, (1205, 1959))] [] (fun D22 r23 => if 40 < r23 then (WP sc 42 0 D22 [(0, (1202, 1957)), (1, (0, 7)), (2, (0, p + 3))] [] (fun D25 r26 => tbl r26 (K D25 r26)) E) else (if D22 1956 6 = -1 then (if D22 1956 9 = 1 then False else False) else (if D22 1956 9 = 1 then (WP sc 33 0 D22 [(0, (1201, D22 1956 6)), (1, (0, 0))] [] (fun D28 r29 => if r29 = -1 then (WP sc 147 0 D28 [(0, (1209, 1956)), (1, (2, 0))] [] (fun D31 r32 => tbl r32 (K D31 r32)) E) else (WP sc 147 0 D28 [(0, (1209, 1956)), (1, (1203, r29))] [] (fun D34 r35 => tbl r35 (K D34 r35)) E)) E) else (WP sc 33 0 D22 [(0, (1201, D22 1956 6)), (1, (0, D22 1956 15))] [] (fun D37 r38 => if r38 = -1 then (WP sc 147 0 D37 [(0, (1209, 1956)), (1, (2, 0))] [] (fun D40 r41 => tbl r41 (K D40 r41)) E) else (WP sc 147 0 D37 [(0, (1209, 1956)), (1, (1203, r38))] [] (fun D43 r44 => tbl r44 (K D43 r44)) E)) E)))) E := fun D2 e0 e1 e2 e3 e4 pn l2 y2 => by
    obtain ⟨hb, so⟩ := xeL_ok (T := T) (n := n) (b := p + 4) ⟨by omega, pn⟩ e4
    have z2 : frZ D D2 := frZ_Y y2
    have o2 : ∀ x j, x < 1957 → D2 x j = D x j := fun x j u => y2 x j (by omega)
    have t2 := l2.2.1
    have tb : D2 1960 1 = (((xeL T n (p + 4)).2.2.1).flatten.length : Int) := t2.2.1
    have tn : D2 1959 1 = (((xeL T n (p + 4)).2.2.1).length : Int) := t2.1
    have f22 := fl22 so.2.1
    have s2 := so.1
    /- the other side comes to its numbers -/
    have m97 : ∀ {A1 : tD} {K' : tD → Int → Prop} {E' : tD → Nat → Prop}, PV c T n p B f k w D A1 → (∀ A2, lrM A2 T n (xeL T n (p + 4)).2.1 (xeL T n (p + 4)).2.2.1 (xeL T n (p + 4)).2.2.2 → frX A1 A2 → WP sc 282 97 A2 [(0, (1211, 1977)), (1, (0, w)), (2, (0, p + 3))] [] (fun D13 r14 => if r14 = 0 then (K' D13 0) else CZ sc D13 K' E') E') → WP sc 282 0 A1 [(0, (1211, 1977)), (1, (0, w))] [] (fun D13 r14 => if r14 = 0 then (K' D13 0) else CZ sc D13 K' E') E' := fun {A1 K' E'} hp g => u_ex1 hp.1.1.2 e0 (fun y => absurd e1 y) (fun _ y => absurd e2 y) (fun _ _ y => absurd e3 y) (fun _ _ _ y => absurd e4 y) (fun _ _ _ _ A2 q1 q2 => g A2 q1 q2)
    refine v78_0 ?_
    rw [show (1959 : Int) + 1 = 1960 from rfl, tb, tn, w32_id (x := 2 * (((xeL T n (p + 4)).2.2.1).length : Int)) (by omega) (by omega), w32_id (x := (((xeL T n (p + 4)).2.2.1).flatten.length : Int) - 2 * (((xeL T n (p + 4)).2.2.1).length : Int)) (by omega) (by omega)]
    by_cases z40 : 40 < (((xeL T n (p + 4)).2.2.1).flatten.length : Int) - 2 * (((xeL T n (p + 4)).2.2.1).length : Int)
    · rw [if_pos z40]
      refine t_fc (bad _ (7, p + 3) e0 (show (0 : Int) < 7 by decide) fc_2 fc_3 (frZ_tr z2 frZ_fc) (fun A A1 v hp K' E' hK' => m97 hp (fun A2 q1 q2 => ?_)))
      refine v282_97 ?_
      rw [q1.2.1.2.2, if_pos z40]
      refine u_fails q1.1.1.2.2 ?_
      rw [if_pos rfl]
      exact hK' _ fl_45 fl_46 (frV_tr (frV_X q2) frV_fl) (by rw [fl22', q2 _ _ (by omega) (by omega) (by omega) (by omega)])
    rw [if_neg z40, o2 1956 6 (by omega), o2 1956 9 (by omega), e9, hMx.2.2.1.2.1, if_neg (by omega), o2 1956 15 (by omega)]
    have l44 : ((xeL T n (p + 4)).2.2.1).flatten.length ≤ 44 := by omega
    have s15 := hNx.1.2.1
    obtain ⟨b, hb1, hb2, hb3⟩ : ∃ b, (0 ≤ b ∧ b < 7) ∧ (w = 1 → b = 0) ∧ (w = 3 → b = D 1956 15) := by
      rcases hw with w1 | w3
      · exact ⟨0, by omega, fun _ => rfl, fun y => by omega⟩
      · have := (KV_3 hKx w3).2.1
        exact ⟨D 1956 15, by omega, fun y => by omega, fun _ => rfl⟩
    have e2F : D2 1956 5 = aF 1 f := by rw [o2 _ _ (by omega)]; exact hMx.2.1.2.1
    have h15 : w = 3 → 0 ≤ D2 1956 15 ∧ D2 1956 15 ≤ D2 (aF 1 f) 6 ∧ D2 (aF 1 f) 6 ≤ 6 := fun w3 => by
      rw [o2 _ _ (by omega), o2 _ _ (by omega)]
      have := (KV_3 hKx w3).2.2.1
      have := (MS_fB hMx).1
      omega
    have eg : xeG w f k D2 = xeG w f k D := funext (fun v => by
      unfold xeG
      rw [o2 1956 15 (by omega), o2 (aF 1 f + 7) _ (by omega), o2 (aF 1 f + 7) _ (by omega), o2 (aF 1 f) 6 (by omega), o2 (aC 1 k + 4) _ (by omega)])
    /- the other side's numbers -/
    have mEX : ∀ {A1 : tD} {K' : tD → Int → Prop} {E' : tD → Nat → Prop}, PV c T n p B f k w D A1 → ((xeN T n (xeL T n (p + 4)).2.1 (xeG w f k D)).1 = 0 → ∀ A2 A3 A', frX A1 A2 → (∀ x i, x ≠ 1977 → A3 x i = A2 x i) → (∀ i, i ≠ 47 → i ≠ 58 → A3 1977 i = A2 1977 i) → A3 1977 47 = xeF T n (xeL T n (p + 4)).2.1 → xkM (7 * (24 + k) + b) (xeV T n (xeL T n (p + 4)).2.1) (xeT T n (xeL T n (p + 4)).2.1) ((xeL T n (p + 4)).2.2.1).flatten A3 A' → CZ sc A' K' E') → ((xeN T n (xeL T n (p + 4)).2.1 (xeG w f k D)).1 ≠ 0 → ∀ A', A' 1977 45 = (xeN T n (xeL T n (p + 4)).2.1 (xeG w f k D)).1 → A' 1977 46 = (xeN T n (xeL T n (p + 4)).2.1 (xeG w f k D)).2 → frV A1 A' → A' 1977 22 = A1 1977 22 → K' A' 0) → WP sc 282 0 A1 [(0, (1211, 1977)), (1, (0, w))] [] (fun D13 r14 => if r14 = 0 then (K' D13 0) else CZ sc D13 K' E') E' := fun {A1 K' E'} hp g1 g2 => by
      refine m97 hp (fun A2 q1 q2 => ?_)
      have d7 : ∀ i, (48 ≤ i ∧ i ≤ 55) ∨ 67 ≤ i ∨ i = 22 → A2 1977 i = A1 1977 i := fun i u => q2 _ _ (by omega) (by omega) (by omega) (by omega)
      have hp' := hp
      obtain ⟨p1, ⟨p2, p2'⟩, p3⟩ := hp
      have n53 : w = 3 → A1 1977 53 = D 1956 15 + 1 ∧ 0 ≤ D 1956 15 := fun w3 => by
        have := p2'.1.1
        unfold dlt at this
        rw [if_pos (Or.inl w3)] at this
        exact ⟨by omega, s15⟩
      refine u_ex2 (k := k) (w := w) (b := b) (br := p + 3) (l := ((xeL T n (p + 4)).2.2.1).flatten) (G := xeG w f k D) q1.1 q1.2.1.1 (by rw [q1.2.1.2.2]; omega) l44 hw (by rw [d7 _ (by omega)]; exact p2.2.2.1.2.2.1) ⟨kk.1, kk.2.1⟩ ?_ (fun w3 => ?_) (fun v => ?_) (fun y A3 A' r1 r2 r3 r4 => ?_) (fun y A' a1 a2 a3 a4 => ?_)
      · rcases hw with w1 | w3
        · exact Or.inl ⟨w1, hb2 w1⟩
        · refine Or.inr ⟨w3, ?_, hb1⟩
          rw [d7 _ (by omega), hb3 w3]; exact (n53 w3).1
      · rw [d7 67 (by omega), d7 71 (by omega)]
        obtain ⟨_, _, k3, _, k5⟩ := KV_3 p3 w3
        refine ⟨?_, ?_⟩
        · rcases k3 with k3 | k3
          · exact Or.inr k3.1
          · exact Or.inl k3.1
        · rw [k5]; split
          · exact Or.inr rfl
          · exact Or.inl rfl
      · rw [d7 71 (by omega), d7 53 (by omega), d7 69 (by omega), d7 67 (by omega), d7 68 (by omega)]
        exact xeG_iff hw p3 n53
      · rw [if_neg (show ¬ (1 : Int) = 0 by decide)]
        exact g1 y A2 A3 A' q2 r1 r2 r3 r4
      · rw [if_pos rfl]
        exact g2 y A' a1 a2 (frV_tr (frV_X q2) a3) (by rw [a4]; exact d7 _ (by omega))
    have main : WP sc 147 0 D2 [(0, (1209, 1956)), (1, (1203, aX 1 k b))] [] (fun D34 r35 => tbl r35 (K D34 r35)) E := by
      refine t_ex2 (f := f) (k := k) (w := w) (S := (xeL T n (p + 4)).2.2.1) l2.1 t2 l44 (by rw [o2 _ _ (by omega)]; exact e9) hw e2F ⟨f1.1, f1.2.1⟩ (by rw [o2 _ _ (by omega)]; exact hMx.2.2.1.2.1) ⟨kk.1, kk.2.1⟩ hb1 h15 (fun y D3 D' r1 r2 r3 => ?_) (fun y D' d1 d2 d3 => ?_)
      · rw [eg] at y
        have eX : aX 1 k b = aC 1 k + 6 + 4 * b := by unfold aX aC; omega
        have zx : frZ D2 D' := fun x j u => by
          rw [r3.2 x j (by omega)]
          by_cases z : x = 1957
          · subst z
            have : j = 0 := by omega
            rw [this]; exact r2.1
          · exact r1 x j z
        have oD : ∀ x i, x < 1957 → x < aX 1 k b ∨ aX 1 k b + 3 < x → D' x i = D x i := fun x i u z => by rw [r3.2 x i z, r1 x i (by omega), o2 x i (by omega)]
        have nn : (nmb T n ((xeL T n (p + 4)).2.1 + 1)).1 = 0 ∧ (nmb T n (xeE T n (xeL T n (p + 4)).2.1 + 1)).1 = 0 ∧ ¬ xeT T n (xeL T n (p + 4)).2.1 < 0 ∧ pb T n (xeL T n (p + 4)).2.1 = 32 ∧ pb T n (xeE T n (xeL T n (p + 4)).2.1) = 32 := by
          unfold xeN at y
          by_cases g1 : pb T n (xeL T n (p + 4)).2.1 = 32
          · rw [if_neg (fun z => z g1)] at y
            by_cases g2 : (nmb T n ((xeL T n (p + 4)).2.1 + 1)).1 = 0
            · rw [if_neg (fun z => z g2)] at y
              by_cases g3 : xeG w f k D (xeV T n (xeL T n (p + 4)).2.1)
              · rw [cif_pos g3] at y
                by_cases g4 : pb T n (xeE T n (xeL T n (p + 4)).2.1) = 32
                · rw [if_neg (fun z => z g4)] at y
                  by_cases g5 : (nmb T n (xeE T n (xeL T n (p + 4)).2.1 + 1)).1 = 0
                  · rw [if_neg (fun z => z g5)] at y
                    by_cases g6 : xeT T n (xeL T n (p + 4)).2.1 < 0
                    · rw [if_pos g6] at y
                      exact absurd (show (11 : Int) = 0 from y) (by decide)
                    · exact ⟨g2, g5, g6, g1, g4⟩
                  · rw [if_pos g5] at y; exact absurd y g5
                · rw [if_pos g4] at y
                  exact absurd (show (1 : Int) = 0 from y) (by decide)
              · rw [cif_neg g3] at y
                exact absurd (show (13 : Int) = 0 from y) (by decide)
            · rw [if_pos g2] at y; exact absurd y g2
          · rw [if_pos g1] at y
            exact absurd (show (1 : Int) = 0 from y) (by decide)
        have sn := pb_lt nn.2.2.2.1 (by omega)
        have en1 := nmb_end2 nn.1 ⟨by omega, by omega⟩
        have ee : (nmb T n ((xeL T n (p + 4)).2.1 + 1)).2.2 = xeE T n (xeL T n (p + 4)).2.1 := rfl
        rw [ee] at en1
        have en := pb_lt nn.2.2.2.2 (by omega)
        have en2 := nmb_end2 nn.2.1 ⟨by omega, by omega⟩
        have ef : (nmb T n (xeE T n (xeL T n (p + 4)).2.1 + 1)).2.2 = xeF T n (xeL T n (p + 4)).2.1 := rfl
        rw [ef] at en2
        have v1 : numP (xeV T n (xeL T n (p + 4)).2.1) := nmb_rng nn.1 ⟨by omega, by omega⟩
        have v2 : -mostN ≤ xeT T n (xeL T n (p + 4)).2.1 ∧ xeT T n (xeL T n (p + 4)).2.1 ≤ mostN := nmb_rng nn.2.1 ⟨by omega, by omega⟩
        refine tbl_of (Or.inr rfl) (hT D' (xeF T n (xeL T n (p + 4)).2.1) (by omega) en2.2 (frZ_tr z2 zx) (by rw [oD _ _ (by omega) (by omega)]; exact hkd) (oD _ _ (by omega) (by omega)) (Pre_go hP (fun A A1 v hp K' E' hC => mCV hp (fun _ => mEX hp (fun _ A2 A3 A' q2 s1 s2 s3 s4 => ?_) (fun y2 => absurd y y2)) (fun y2 => absurd e0 y2))))
        have d7 : ∀ i, (48 ≤ i ∧ i ≤ 55) ∨ 67 ≤ i ∨ i = 22 ∨ i = 2 ∨ i = 45 ∨ i = 46 ∨ i = 61 ∨ i = 3 ∨ i = 35 ∨ i = 43 → A3 1977 i = A1 1977 i := fun i u => by rw [s2 i (by omega) (by omega)]; exact q2 _ _ (by omega) (by omega) (by omega) (by omega)
        have dn : ∀ x i, x ≠ 1977 → x < 2009 → A3 x i = A1 x i := fun x i u u2 => by rw [s1 x i u]; exact q2 _ _ (by omega) (by omega) (by omega) (by omega)
        have V' : frV A1 A' := fun x j u => by
          by_cases z : x = 1977
          · subst z; rw [s4.2.2.2 _ _ (by omega)]; exact d7 j (by omega)
          by_cases z3 : x = 2003 ∨ x = 2004 ∨ x = 2005 ∨ x = 2007
          · have e : cap0 x = 168 := by rcases z3 with z3 | z3 | z3 | z3 <;> rw [z3] <;> rfl
            rw [s4.2.1 x j z3 (by omega)]; exact dn x j z (by omega)
          by_cases z6 : x = 2006
          · subst z6
            have e : cap0 2006 = 7392 := rfl
            rw [s4.2.2.1 j (by omega)]; exact dn _ j z (by omega)
          rw [s4.2.2.2 x j (by omega), s1 x j z]
          exact q2 x j (by omega) (by omega) (by omega) (by omega)
        have p1 := hp.1
        refine hC A' (frV_tr v V') (PV_to hp (MS_ex (D1 := D3) (A1 := A3) hp.2.1.1 hb1 (fun x i u => by by_cases z : x = 1957; omega; rw [r1 x i z, o2 x i u]) r3 (fun x i u u2 => dn x i (by omega) (by omega)) (fun j u => d7 j (by omega)) s4 so.2.2.1 l44 v1 ⟨by omega, by omega⟩) ⟨⟨cu_to p1.1.1 ⟨by omega, en2.2⟩ (by rw [r3.2 _ _ (by omega), r2.1, y2 _ _ (by omega)]) (by rw [r3.2 _ _ (by omega)]; exact r2.2.1) (fun x j u => oD _ _ (by omega) (by omega)), mu_to p1.1.2 ⟨by omega, en2.2⟩ (by rw [s4.2.2.2 _ _ (by omega)]; exact s3) (by rw [s4.2.2.2 _ _ (by omega)]; exact d7 _ (by omega)) (by rw [s4.2.2.2 _ _ (by omega)]; exact d7 _ (by omega)) (fun j => by rw [s4.2.2.2 _ _ (by omega)]; exact dn _ _ (by omega) (by omega))⟩, ⟨by rw [r3.2 _ _ (by omega), r2.2.2.1, y2 _ _ (by omega)]; exact p1.2.1.1, by rw [r3.2 _ _ (by omega), r2.2.2.2, y2 _ _ (by omega)]; exact p1.2.1.2.1, by rw [s4.2.2.2 _ _ (by omega), d7 _ (by omega)]; exact p1.2.1.2.2⟩, by rw [oD _ _ (by omega) (by omega)]; exact p1.2.2.1, by rw [s4.2.2.2 _ _ (by omega), d7 _ (by omega)]; exact p1.2.2.2.1, by rw [oD _ _ (by omega) (by omega)]; exact p1.2.2.2.2⟩ (fun x i u => oD _ _ (by omega) (by omega)) (fun i u => by rw [s4.2.2.2 _ _ (by omega)]; exact d7 _ (by omega)))
      · rw [eg] at y d1 d2
        refine tbl_of (Or.inl rfl) (bad D' _ e0 ?_ d1 d2 (frZ_tr z2 d3) (fun A A1 v hp K' E' hK' => mEX hp (fun y2 => absurd y2 y) (fun _ => hK')))
        have := xeN_pos (T := T) (n := n) (s := (xeL T n (p + 4)).2.1) (G := xeG w f k D)
        omega
    have l5 := ln_exs (s := 1) (Or.inr rfl) ⟨kk.1, kk.2.1⟩
    have at33 : ∀ b', b' = b → WP sc 33 0 D2 [(0, (1201, aC 1 k)), (1, (0, b'))] [] (fun D28 r29 => if r29 = -1 then (WP sc 147 0 D28 [(0, (1209, 1956)), (1, (2, 0))] [] (fun D31 r32 => tbl r32 (K D31 r32)) E) else (WP sc 147 0 D28 [(0, (1209, 1956)), (1, (1203, r29))] [] (fun D34 r35 => tbl r35 (K D34 r35)) E)) E := fun b' eb => by
      subst eb
      refine v33_0 ?_
      rw [if_neg (by omega), l5, if_pos (by omega)]
      refine ⟨⟨by omega, by omega⟩, ?_⟩
      rw [if_neg (by omega), show aC 1 k + 5 + 1 + 4 * b' = aX 1 k b' from by unfold aX aC; omega]
      exact main
    rcases hw with w1 | w3
    · rw [if_pos w1]; exact at33 0 (hb2 w1).symm
    · rw [if_neg (by omega)]; exact at33 _ (hb3 w3).symm
  have body : WP sc 44 0 D [(0, (1202, 1957)), (1, (0, 32))] [] (fun D1 r2 => if r2 = 0 then (K D1 1) else (WP sc 45 0 D1 [(0, (1202, 1957)), (1, (0, 35))] [] (fun D4 r5 => if r5 = 0 then (K D4 0) else (WP sc 45 0 D4 [(0, (1202, 1957)), (1, (0, 32))] [] (fun D7 r8 => if r8 = 0 then (K D7 0) else (WP sc 45 0 D7 [(0, (1202, 1957)), (1, (0, 123))] [] (fun D10 r11 => if r11 = 0 then (K D10 0) else (WP sc 83 0 D10 [(0, (1206, 1958))] [] (fun D13 _ => WP sc 44 0 D13 [(0, (1202, 1957)), (1, (0, 125))] [] (fun D16 r17 => if r17 = 0 then (WP sc 84 0 D16 [(0, (1206, 1958)), (1, (2, 0)), (2, (0, 2))] [] (fun D19 r20 => if r20 = 0 then (K D19 0) else (WP sc 78 0 D19 [(0, (1205, 1959))] [] (fun D22 r23 => if 40 < r23 then (WP sc 42 0 D22 [(0, (1202, 1957)), (1, (0, 7)), (2, (0, D7 1957 1))] [] (fun D25 r26 => tbl r26 (K D25 r26)) E) else (if D22 1956 6 = -1 then (if D22 1956 9 = 1 then False else False) else (if D22 1956 9 = 1 then (WP sc 33 0 D22 [(0, (1201, D22 1956 6)), (1, (0, 0))] [] (fun D28 r29 => if r29 = -1 then (WP sc 147 0 D28 [(0, (1209, 1956)), (1, (2, 0))] [] (fun D31 r32 => tbl r32 (K D31 r32)) E) else (WP sc 147 0 D28 [(0, (1209, 1956)), (1, (1203, r29))] [] (fun D34 r35 => tbl r35 (K D34 r35)) E)) E) else (WP sc 33 0 D22 [(0, (1201, D22 1956 6)), (1, (0, D22 1956 15))] [] (fun D37 r38 => if r38 = -1 then (WP sc 147 0 D37 [(0, (1209, 1956)), (1, (2, 0))] [] (fun D40 r41 => tbl r41 (K D40 r41)) E) else (WP sc 147 0 D37 [(0, (1209, 1956)), (1, (1203, r38))] [] (fun D43 r44 => tbl r44 (K D43 r44)) E)) E)))) E)) E) else (WP sc 78 0 D16 [(0, (1205, 1959))] [] (fun D46 r47 => if 40 < r47 then (WP sc 42 0 D46 [(0, (1202, 1957)), (1, (0, 7)), (2, (0, D7 1957 1))] [] (fun D49 r50 => tbl r50 (K D49 r50)) E) else (if D46 1956 6 = -1 then (if D46 1956 9 = 1 then False else False) else (if D46 1956 9 = 1 then (WP sc 33 0 D46 [(0, (1201, D46 1956 6)), (1, (0, 0))] [] (fun D52 r53 => if r53 = -1 then (WP sc 147 0 D52 [(0, (1209, 1956)), (1, (2, 0))] [] (fun D55 r56 => tbl r56 (K D55 r56)) E) else (WP sc 147 0 D52 [(0, (1209, 1956)), (1, (1203, r53))] [] (fun D58 r59 => tbl r59 (K D58 r59)) E)) E) else (WP sc 33 0 D46 [(0, (1201, D46 1956 6)), (1, (0, D46 1956 15))] [] (fun D61 r62 => if r62 = -1 then (WP sc 147 0 D61 [(0, (1209, 1956)), (1, (2, 0))] [] (fun D64 r65 => tbl r65 (K D64 r65)) E) else (WP sc 147 0 D61 [(0, (1209, 1956)), (1, (1203, r62))] [] (fun D67 r68 => tbl r68 (K D67 r68)) E)) E)))) E)) E) E)) E)) E)) E)) E := by
    refine t_passes (by omega) hc (fun e0 => ?_) (fun e0 => ?_)
    rotate_left
    · rw [if_pos rfl]
      exact hT D p (Int.le_refl _) cc.2.1.2 frZ_rf hkd rfl (Pre_go hP (fun A A1 v hp K' E' hC => mCV hp (fun y => absurd y e0) (fun _ => hC A1 v hp)))
    have b0 := pb_lt e0 (by omega)
    rw [if_neg (show ¬ (1 : Int) = 0 by decide)]
    refine t_expect (cu_wr hc (b := p + 1) ⟨by omega, by omega⟩) (fun e1 => ?_) (fun e1 => ?_)
    rotate_left
    · rw [if_pos rfl]
      refine bad _ (1, p + 1) e0 (show (0 : Int) < 1 by decide) fc_2 fc_3 (frZ_tr (frZ_wr (by omega)) frZ_fc) (fun A A1 v hp K' E' hK' => u_ex1 hp.1.1.2 e0 (fun _ => ?_) (fun y => absurd y e1) (fun y => absurd y e1) (fun y => absurd y e1) (fun y => absurd y e1))
      rw [if_pos rfl]
      exact hK' _ fl_45 fl_46 (frV_tr (frV_wr (by omega)) frV_fl) (v22 _ _ _ _)
    have b1 := pb_lt e1 (by omega)
    rw [if_neg (show ¬ (1 : Int) = 0 by decide), wr_wr, show p + 1 + 1 = p + 2 from by omega]
    refine t_expect (cu_wr hc (b := p + 2) ⟨by omega, by omega⟩) (fun e2 => ?_) (fun e2 => ?_)
    rotate_left
    · rw [if_pos rfl]
      refine bad _ (1, p + 2) e0 (show (0 : Int) < 1 by decide) fc_2 fc_3 (frZ_tr (frZ_wr (by omega)) frZ_fc) (fun A A1 v hp K' E' hK' => u_ex1 hp.1.1.2 e0 (fun y => absurd e1 y) (fun _ _ => ?_) (fun _ y => absurd y e2) (fun _ y => absurd y e2) (fun _ y => absurd y e2))
      rw [if_pos rfl]
      exact hK' _ fl_45 fl_46 (frV_tr (frV_wr (by omega)) frV_fl) (v22 _ _ _ _)
    have b2 := pb_lt e2 (by omega)
    rw [if_neg (show ¬ (1 : Int) = 0 by decide), wr_wr, show p + 2 + 1 = p + 3 from by omega, show (wr D 1957 1 (p + 3)) 1957 1 = p + 3 from wr_self]
    refine t_expect (cu_wr hc (b := p + 3) ⟨by omega, by omega⟩) (fun e3 => ?_) (fun e3 => ?_)
    rotate_left
    · rw [if_pos rfl]
      refine bad _ (1, p + 3) e0 (show (0 : Int) < 1 by decide) fc_2 fc_3 (frZ_tr (frZ_wr (by omega)) frZ_fc) (fun A A1 v hp K' E' hK' => u_ex1 hp.1.1.2 e0 (fun y => absurd e1 y) (fun _ y => absurd e2 y) (fun _ _ _ => ?_) (fun _ _ y => absurd y e3) (fun _ _ y => absurd y e3))
      rw [if_pos rfl]
      exact hK' _ fl_45 fl_46 (frV_tr (frV_wr (by omega)) frV_fl) (v22 _ _ _ _)
    have b3 := pb_lt e3 (by omega)
    rw [if_neg (show ¬ (1 : Int) = 0 by decide), wr_wr, show p + 3 + 1 = p + 4 from by omega]
    refine v83_0 (v76_0 ?_)
    show WP sc 44 0 (wr (wr (wr (wr D 1957 1 (p + 4)) 1960 1 0) 1959 1 0) 1958 5 (-1)) _ _ _ _
    have l0 := lrC_new (cu_wr hc (b := p + 4) ⟨by omega, by omega⟩)
    have f0 : frY D (wr (wr (wr (wr D 1957 1 (p + 4)) 1960 1 0) 1959 1 0) 1958 5 (-1)) := frY_tr (frY_wr (by omega)) (frY_tr (frY_wr (by omega)) (frY_tr (frY_wr (by omega)) (frY_wr (by omega))))
    generalize wr (wr (wr (wr D 1957 1 (p + 4)) 1960 1 0) 1959 1 0) 1958 5 (-1) = D1 at *
    refine t_passes (by omega) l0.1 (fun e5 => ?_) (fun e5 => ?_)
    · rw [if_neg (show ¬ (1 : Int) = 0 by decide)]
      have b4 := pb_lt e5 (by omega)
      have eL : xeL T n (p + 4) = (0, p + 4 + 1, [], none) := by unfold xeL; rw [if_pos e5]
      refine tail _ e0 e1 e2 e3 (by rw [eL]) (by omega) ?_ (frY_tr f0 (frY_wr (by omega)))
      rw [eL]
      exact ⟨cu_wr l0.1 ⟨by omega, by omega⟩, lsIs_fr2 l0.2.1 (fun x j u => wr_ne (by omega)), exC_fr l0.2.2 (wr_ne (by omega)) (fun x j u => wr_ne (by omega))⟩
    · rw [if_pos rfl]
      have eL : xeL T n (p + 4) = lbs T n 0 [] 2 4 (p + 4) [] none := by unfold xeL; rw [if_neg e5]
      refine t_labsN (most := 2) (nF := []) (by omega) l0 (fun e6 D2 l2 y2 => ?_) (fun e6 D2 q1 q2 y2 => ?_)
      · rw [if_neg (show ¬ (1 : Int) = 0 by decide)]
        exact tail D2 e0 e1 e2 e3 (by rw [eL]; exact e6) (by omega) (by rw [eL]; exact l2) (frY_tr f0 y2)
      · rw [if_pos rfl]
        have e6' : (xeL T n (p + 4)).1 ≠ 0 := by rw [eL]; exact e6
        refine bad D2 ((xeL T n (p + 4)).1, (xeL T n (p + 4)).2.1) e0 ?_ (by rw [eL]; exact q1) (by rw [eL]; exact q2) (frZ_tr (frZ_Y f0) (frZ_N y2)) (fun A A1 v hp K' E' hK' => u_ex1 hp.1.1.2 e0 (fun y => absurd e1 y) (fun _ y => absurd e2 y) (fun _ _ y => absurd e3 y) (fun _ _ _ _ A' a1 a2 a3 a4 => ?_) (fun _ _ _ y => absurd y e6'))
        · have := xeL_pos (T := T) (n := n) (b := p + 4)
          show 0 < (xeL T n (p + 4)).1
          omega
        · rw [if_pos rfl]
          exact hK' A' a1 a2 a3 a4
  rcases hw with w1 | w3
  · rw [if_pos w1]; exact body
  · rw [if_neg (by omega), if_pos w3]; exact body
end EXL
