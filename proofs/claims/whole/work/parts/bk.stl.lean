/-! reading a sample: a state, both sides together -/
section STL
variable {sc : Nat × (Nat → Int32)} {D D' A A' A0 D0 : tD} {K : tD → Int → Prop} {E : tD → Nat → Prop} {T : Int → Int} {n c : Int}
/-- what the kinds ask behind the state -/
def KS (f k w : Int) (D A : tD) : Prop := (D (aF 1 f) 5 = 4 ∧ w = 0 ∧ bz D k (D 1956 15) ∧ D 1956 15 < D (aF 1 f) 7 ∧ (D 1956 13 = 1 → D 1956 15 + 1 = D (aF 1 f) 7)) ∨ (D (aF 1 f) 5 ≠ 4 ∧ KB f k w D A)
def PS (c : Int) (T : Int → Int) (n p B f k w : Int) (D A : tD) : Prop := MQp T n p D A ∧ (MS c B f k D A ∧ MN w 0 D A) ∧ KS f k w D A
def CS (sc : Nat × (Nat → Int32)) (w : Int) (A : tD) (K' : tD → Int → Prop) (E' : tD → Nat → Prop) : Prop := WP sc 271 182 A [(0, (1211, 1977)), (3, (0, w))] [] K' E'
theorem s_state {a p B f k w q kd : Int} {l : List Int} (hok : okD D) (hP : Pre sc c T n a B D0 (PB c T n p B f k w q l D) (CB sc w kd)) (hE : ∃ A1, PB c T n p B f k w q l D A1) (hkd : D (aF 1 f) 5 = kd) (hN : ∀ D', frZ D D' → Sim sc 271 c T n a B 0 D0 D' → K D' 0) (hT : ∀ D', frZ D D' → D' (aF 1 f) 5 = kd → D' 1956 10 = D 1956 10 → Pre sc c T n a B D0 (PS c T n p B f k w D') (CS sc w) → K D' 1) : WP sc 142 0 D [(0, (1209, 1956))] [] K E := by
  obtain ⟨Ax, hQx, ⟨hMx, hNx⟩, hKx, hXx⟩ := hE
  have aFb := aF1 f
  have f1 := hMx.2.1.1
  have e5 := hMx.2.1.2.1
  have r22 : ∀ A1, MS c B f k D A1 → (0 ≤ B ∧ B ≤ A1 1977 22) ∧ A1 1977 22 ≤ B + 24 := fun A1 h => by
    have h1 := h.1.2.1
    have h2 := h.2.2.1.1
    omega
  refine v142_0 ?_
  rw [e5, if_neg (by omega), hkd]
  by_cases k4 : kd = 4
  rotate_left
  · rw [if_neg k4]
    refine hT D frZ_rf hkd rfl (Pre_go hP (fun A A1 v hp K' E' hC => ?_))
    obtain ⟨p1, p2, p3, p4⟩ := hp
    have g := hC A1 v ⟨p1, p2, Or.inr ⟨by rw [hkd]; exact k4, p3⟩⟩
    unfold CB
    rw [if_neg k4]; exact g
  subst k4
  rw [if_pos rfl, if_neg (by omega)]
  have kdA : ∀ {A1}, KB f k w D A1 → w = 0 ∧ bz D k (D 1956 15) ∧ D 1956 15 ≤ D (aF 1 f) 7 ∧ (D 1956 13 = 1 → D 1956 15 = D (aF 1 f) 7) ∧ (D 1956 13 = 0 → D 1956 15 < D (aF 1 f) 7) := fun h => by
    rcases h with ⟨_, g | g | g⟩ | h
    · omega
    · omega
    · exact g.2
    · omega
  obtain ⟨w0, bzx, st⟩ := kdA hKx
  subst w0
  obtain ⟨hX0, hl⟩ := hXx hkd
  have XA : ∀ {A1}, PB c T n p B f k 0 q l D A1 → XD T n q l D A1 := fun hp => (hp.2.2.2 hkd).1
  obtain ⟨⟨d1, ⟨d2, d2'⟩, d3, d4⟩, q0, _⟩ := hX0
  rw [txt_w8 d4, show (1966 : Int) + 1 = 1967 from rfl] at d2'
  obtain ⟨⟨t1, t2, t3⟩, t4⟩ := MS_fT hMx
  have s15 := hNx.1.2.1
  have eCB : ∀ {A1 : tD} {K' : tD → Int → Prop} {E' : tD → Nat → Prop}, WP sc 277 0 A1 [(0, (1211, 1977))] [] (fun A2 r => if r = 0 then K' A2 0 else WP sc 271 182 A2 [(0, (1211, 1977)), (3, (0, 0))] [] K' E') E' → CB sc 0 4 A1 K' E' := fun {A1 K' E'} h => by
    unfold CB
    rw [if_pos rfl]; exact h
  have fl22' : ∀ (A1 : tD) cd, (fl A1 cd q) 1977 22 = A1 1977 22 := fun A1 cd => by
    unfold fl
    rw [wr_ni (by omega), wr_ni (by omega)]
  have hex : ∀ {A1}, PB c T n p B f k 0 q l D A1 → ((∃ i, 0 ≤ i ∧ i < D 1956 15 ∧ eqr D (aF 1 f + 9 + 2 * i) 1966) ↔ ∃ i, (0 ≤ i ∧ i < D 1956 15) ∧ isT A1 (4 * (8 + f) + i) l) := fun {A1} hp => by
    have one : ∀ i, 0 ≤ i → i < D 1956 15 → (eqr D (aF 1 f + 9 + 2 * i) 1966 ↔ isT A1 (4 * (8 + f) + i) l) := fun i u v => st_eq hok hp.2.1.1 (XA hp) hl ⟨u, by have := st.1; omega⟩
    exact ⟨fun ⟨i, u, v, y⟩ => ⟨i, ⟨u, v⟩, (one i u v).mp y⟩, fun ⟨i, u, y⟩ => ⟨i, u.1, u.2, (one i u.1 u.2).mpr y⟩⟩
  have bad : ∀ cd, 0 < cd → (∀ A A1, frV A A1 → PB c T n p B f k 0 q l D A1 → ∀ (K' : tD → Int → Prop) (E' : tD → Nat → Prop), (K' (fl A1 cd q) 0) → WP sc 277 0 A1 [(0, (1211, 1977))] [] (fun A2 r => if r = 0 then K' A2 0 else WP sc 271 182 A2 [(0, (1211, 1977)), (3, (0, 0))] [] K' E') E') → K (fc D cd q) 0 := fun cd cp h => by
    refine hN _ frZ_fc (Pre_sim hP (fun A A1 v hp K' E' hK' => eCB (h A A1 v hp K' E' (hK' _ (lnP_bd (frV_tr v frV_fl) ⟨by rw [fc_2, fl_45], by rw [fc_3, fl_46]⟩ (by rw [fl_45]; exact cp) (by rw [fl22']; exact r22 A1 hp.2.1.1))))))
  refine c_hasSt (s := 1) (Or.inr rfl) ⟨f1.1, by omega⟩ (by omega) (fun i u v => ?_) (by rw [d2, show ln (1966 + 1) = 20 from rfl]; exact d3) (fun y => ?_) (fun y => ?_)
  · have g := (t4 i u (by have := st.1; omega)).1
    omega
  · rw [if_neg (by omega), d1]
    refine t_fc (bad 9 (by omega) (fun A A1 v hp K' E' hK' => ?_))
    obtain ⟨p1, ⟨p2, p2'⟩, p3, p4⟩ := hp
    refine u_state p1 p2 p2' (kdA p3).2.2 (p4 hkd).1 hl (fun _ => ?_) (fun z => absurd ((hex ⟨p1, ⟨p2, p2'⟩, p3, p4⟩).mp y) z) (fun z => absurd ((hex ⟨p1, ⟨p2, p2'⟩, p3, p4⟩).mp y) z) (fun z => absurd ((hex ⟨p1, ⟨p2, p2'⟩, p3, p4⟩).mp y) z) (fun z => absurd ((hex ⟨p1, ⟨p2, p2'⟩, p3, p4⟩).mp y) z)
    rw [if_pos rfl]; exact hK'
  · rw [if_pos rfl]
    intro _
    rw [e5]
    rcases hMx.2.2.2 with ⟨y1, _⟩ | ⟨y0, _⟩
    · rw [if_neg (by omega)]
      have e15 := st.2.1 y1
      by_cases z4 : D 1956 15 < 4
      · rw [if_pos z4, if_neg (by omega)]
        have l10 := ln_st (s := 1) (f := f) (k := D (aF 1 f) 7) (Or.inr rfl) ⟨f1.1, by omega⟩ ⟨by omega, by omega⟩
        refine v71_0 ?_
        rw [if_pos (by omega), ln_sts (s := 1) (Or.inr rfl) ⟨f1.1, by omega⟩, show aF 1 f + 8 + 1 + 2 * D (aF 1 f) 7 = aF 1 f + 9 + 2 * D (aF 1 f) 7 from by omega]
        refine ⟨by omega, c_bec (by omega) (by rw [d2, show ln (1966 + 1) = 20 from rfl]; exact d3) (by rw [show aF 1 f + 9 + 2 * D (aF 1 f) 7 + 1 = aF 1 f + 10 + 2 * D (aF 1 f) 7 from by omega, l10]; omega) (by omega) (by rw [show aF 1 f + 9 + 2 * D (aF 1 f) 7 + 1 = aF 1 f + 10 + 2 * D (aF 1 f) 7 from by omega, l10]; omega) (fun D1 hb => ?_)⟩
        obtain ⟨b1, b2, b3, b4, b5⟩ := hb
        rw [show aF 1 f + 9 + 2 * D (aF 1 f) 7 + 1 = aF 1 f + 10 + 2 * D (aF 1 f) 7 from by omega, show (1966 : Int) + 1 = 1967 from rfl] at b4
        have o1 : ∀ x i, x ≠ aF 1 f + 9 + 2 * D (aF 1 f) 7 → x ≠ aF 1 f + 10 + 2 * D (aF 1 f) 7 → D1 x i = D x i := fun x i u v => b5 x i u (by omega)
        rw [o1 (aF 1 f) 7 (by omega) (by omega), w32_id (x := D (aF 1 f) 7 + 1) (by omega) (by omega)]
        generalize hD2 : wr D1 (aF 1 f) 7 (D (aF 1 f) 7 + 1) = D2
        have o2 : ∀ x i, x ≠ aF 1 f + 9 + 2 * D (aF 1 f) 7 → x ≠ aF 1 f + 10 + 2 * D (aF 1 f) 7 → ¬ (x = aF 1 f ∧ i = 7) → D2 x i = D x i := fun x i u v y => by
          rw [← hD2]
          by_cases z : x = aF 1 f
          · subst z; rw [wr_ni (by omega)]; exact o1 _ _ u v
          · rw [wr_ne z]; exact o1 _ _ u v
        have d27 : D2 (aF 1 f) 7 = D (aF 1 f) 7 + 1 := by rw [← hD2, wr_self]
        have z2 : frZ D D2 := fun x j u => o2 x j (by omega) (by omega) (by omega)
        have h1 : D2 (aF 1 f + 9 + 2 * D (aF 1 f) 7) 1 = (l.length : Int) := by rw [← hD2, wr_ne (by omega), b1, d2]; omega
        have h2 : atL D2 (aF 1 f + 10 + 2 * D (aF 1 f) 7) 0 l := by
          refine atL_of (fun j u v => ?_)
          rw [← hD2, wr_ne (by omega), show (0 : Int) + j = j from by omega, b4 j u (by omega)]
          have := atL_lf d2' j u v
          exact this
        refine hT D2 z2 (by rw [o2 _ _ (by omega) (by omega) (by omega)]; exact hkd) (o2 _ _ (by omega) (by omega) (by omega)) (Pre_go hP (fun A A1 v hp K' E' hC => eCB ?_))
        have hp' := hp
        obtain ⟨p1, ⟨p2, p2'⟩, p3, p4⟩ := hp
        refine u_state p1 p2 p2' (kdA p3).2.2 (p4 hkd).1 hl (fun z => absurd ((hex hp').mpr z) y) (fun _ z => absurd z (by omega)) (fun _ z => absurd z (by omega)) (fun _ _ z => absurd z (by omega)) (fun _ _ _ A2 hS2 => ?_)
        rw [if_neg (by omega)]
        have hS2' := hS2
        obtain ⟨_, a4, a5, a6, a7⟩ := hS2
        have V2 : frV A1 A2 := fun x j u => by
          by_cases y1 : x = 1989
          · subst y1
            have e : cap0 1989 = 384 := rfl
            exact a5 j (by omega)
          by_cases y2 : x = 1990
          · subst y2
            have e : cap0 1990 = 32 := rfl
            exact a4 j (by omega)
          by_cases y3 : x = 1991
          · subst y3
            have e : cap0 1991 = 8 := rfl
            exact a6 j (by omega)
          exact a7 x j y1 y2 y3
        have ms := MS_st (D := D) (A := A1) (D1 := D2) (A1 := A2) (l := l) (j := D (aF 1 f) 7) p2 hkd ⟨rfl, by omega⟩ hl d4 h1 h2 d27 (fun x i _ u v y => o2 x i u v y) (by rw [← e15]; exact hS2')
        refine hC A2 (frV_tr v V2) ⟨MQp_fr p1 (fun x j u => o2 _ _ (by omega) (by omega) (by omega)) (fun j u => a7 _ _ (by omega) (by omega) (by omega)) (fun j => a7 _ _ (by omega) (by omega) (by omega)), ⟨ms, ?_⟩, Or.inl ⟨by rw [o2 _ _ (by omega) (by omega) (by omega)]; exact hkd, rfl, ?_, ?_, ?_⟩⟩
        · unfold MN
          rw [o2 1956 15 (by omega) (by omega) (by omega), o2 1956 16 (by omega) (by omega) (by omega), o2 1956 9 (by omega) (by omega) (by omega), a7 1977 53 (by omega) (by omega) (by omega), a7 1977 55 (by omega) (by omega) (by omega)]; exact p2'
        · intro b u u2
          have := aC1 k
          have := hMx.2.2.1.1
          rw [o2 _ _ (by omega) (by omega) (by omega)] at u
          rw [o2 _ _ (by omega) (by omega) (by omega)]; exact bzx b u u2
        · rw [o2 _ _ (by omega) (by omega) (by omega), d27]; omega
        · rw [o2 _ _ (by omega) (by omega) (by omega), o2 _ _ (by omega) (by omega) (by omega), d27]; intro _; omega
      · rw [if_neg z4, d1]
        refine t_fc (bad 14 (by omega) (fun A A1 v hp K' E' hK' => ?_))
        have hp' := hp
        obtain ⟨p1, ⟨p2, p2'⟩, p3, p4⟩ := hp
        refine u_state p1 p2 p2' (kdA p3).2.2 (p4 hkd).1 hl (fun z => absurd ((hex hp').mpr z) y) (fun _ z => absurd z (by omega)) (fun _ z => absurd z (by omega)) (fun _ _ _ => ?_) (fun _ _ z => absurd z z4)
        rw [if_pos rfl]; exact hK'
    · rw [if_pos y0, if_neg (by omega)]
      have lt := st.2.2 y0
      have one : ∀ {A1}, PB c T n p B f k 0 q l D A1 → (eqr D (aF 1 f + 9 + 2 * D 1956 15) 1966 ↔ isT A1 (4 * (8 + f) + D 1956 15) l) := fun hp => st_eq hok hp.2.1.1 (XA hp) hl ⟨s15, lt⟩
      have g := (t4 _ s15 lt).1
      refine v70_0 ?_
      rw [if_neg (by omega), if_pos lt, if_pos (by omega), ln_sts (s := 1) (Or.inr rfl) ⟨f1.1, by omega⟩, show aF 1 f + 8 + 1 + 2 * D 1956 15 = aF 1 f + 9 + 2 * D 1956 15 from by omega]
      refine ⟨⟨by omega, by omega⟩, ?_⟩
      have l10 := ln_st (s := 1) (f := f) (k := D 1956 15) (Or.inr rfl) ⟨f1.1, by omega⟩ ⟨by omega, by omega⟩
      refine c_like (by rw [show aF 1 f + 9 + 2 * D 1956 15 + 1 = aF 1 f + 10 + 2 * D 1956 15 from by omega, l10]; omega) (by rw [d2, show ln (1966 + 1) = 20 from rfl]; exact d3) (by omega) (fun z => ?_) (fun z => ?_)
      · rw [if_neg (by omega), if_neg (by omega)]
        refine hT D frZ_rf hkd rfl (Pre_go hP (fun A A1 v hp K' E' hC => eCB ?_))
        have hp' := hp
        obtain ⟨p1, ⟨p2, p2'⟩, p3, p4⟩ := hp
        refine u_state p1 p2 p2' (kdA p3).2.2 (p4 hkd).1 hl (fun z => absurd ((hex hp').mpr z) y) (fun _ _ z2 => absurd ((one hp').mp z) z2) (fun _ _ _ => ?_) (fun _ z => absurd z (by omega)) (fun _ z => absurd z (by omega))
        rw [if_neg (by omega)]
        exact hC A1 v ⟨p1, ⟨p2, p2'⟩, Or.inl ⟨hkd, rfl, bzx, lt, fun z => by omega⟩⟩
      · rw [if_pos rfl, if_pos rfl, d1]
        refine v42_0 ?_
        rw [if_pos rfl]
        refine bad 10 (by omega) (fun A A1 v hp K' E' hK' => ?_)
        have hp' := hp
        obtain ⟨p1, ⟨p2, p2'⟩, p3, p4⟩ := hp
        refine u_state p1 p2 p2' (kdA p3).2.2 (p4 hkd).1 hl (fun z => absurd ((hex hp').mpr z) y) (fun _ _ _ => ?_) (fun _ _ z2 => absurd ((one hp').mpr z2) z) (fun _ z => absurd z (by omega)) (fun _ z => absurd z (by omega))
        rw [if_pos rfl]; exact hK'
end STL
