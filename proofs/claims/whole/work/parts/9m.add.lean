/-! add, both sides apart -/
section ADD
variable {sc : Nat × (Nat → Int32)} {D D' : tD} {K : tD → Int → Prop} {E : tD → Nat → Prop} {c : Int}
/-- nothing that counts is other than before; the tape may be empty -/
theorem RL_fr3 {D2 : tD} (hR : RL RSc D c) (hc : c < 600) (h1 : D2 (-1) 0 = D (-1) 0 ∨ D2 (-1) 0 = D (-1) 0 + 1) (ht : (D2 1977 2 = D 1977 2 ∧ ∀ j, D2 1 j = D 1 j) ∨ (D2 1 1 = 0 ∧ D2 1977 2 = 0)) (hr : ∀ a j, (0 ≤ a ∧ a ≤ 1973 ∧ a ≠ 1) ∨ (1978 ≤ a ∧ a ≤ 2008) ∨ a = 2013 ∨ (a = 1977 ∧ j ≠ 0 ∧ j ≠ 2 ∧ j ≠ 37) → D2 a j = D a j) : RL RSc D2 (c + 1) := by
  have r8 := hR.2.2.2.2.2.2.2
  have hRS : RSc (c + 1) D2 := RSc_dep _ _ (fun a j u => hr a j (by unfold depS at u; omega)) r8
  rcases ht with ⟨t1, t2⟩ | ⟨t1, t2⟩
  · refine RL_upd hR hc h1 (fun a j u1 u2 => ?_) hRS
    rcases u1 with u1 | u1
    · exact absurd u1 u2
    · by_cases e : a = 1977 ∧ j = 2
      · rw [e.1, e.2]; exact t1
      · by_cases e1 : a = 1
        · rw [e1]; exact t2 j
        · exact hr a j (by omega)
  · exact RL_clr hR hc h1 ⟨t1, t2⟩ (fun a j u => hr a j (by omega)) hRS
def CX (x4 : Int) (D D1 : tD) : Prop := (x4 = 0 → ∀ j, D1 1 j = D 1 j) ∧ (x4 ≠ 0 → D1 1 1 = 0) ∧ ∀ a j, a ≠ 1 → a < 1974 ∨ 1976 < a → D1 a j = D a j
def MX (x4 : Int) (D D2 : tD) : Prop := (x4 = 0 → D2 1977 2 = D 1977 2) ∧ (x4 ≠ 0 → D2 1977 2 = 0) ∧ ∀ a j, a < 2009 ∨ 2012 < a → (a = 1977 → j ≠ 37 ∧ j ≠ 2 ∧ j ≠ 0) → D2 a j = D a j
def numP (v : Int) : Prop := -mostN ≤ v ∧ v ≤ mostN
def adC (D : tD) (x : Int) : Prop := kcC D x 0 ∨ kcC D x 1
def adV (D : tD) (x v : Int) : Prop := (kcC D x 0 ∧ numP v ∧ 0 ≤ v) ∨ (kcC D x 1 ∧ numP v)
theorem kcC_CX {x4 x kd : Int} {D1 : tD} (h0 : shR c D 0) (h : CX x4 D D1) : kcC D1 x kd ↔ kcC D x kd := by
  have hn := h0.1
  unfold kcC
  constructor
  · rintro ⟨a, b, d, e⟩
    rw [h.2.2 _ _ (by unfold aC; omega) (by unfold aC; omega)] at d
    have hp := ((h0.2.2.1 x a b).2.2 d).1
    rw [h.2.2 (aC 0 x) 4 (by unfold aC; omega) (by unfold aC; omega), h.2.2 _ 5 (by unfold aF; omega) (by unfold aF; omega)] at e
    exact ⟨a, b, d, e⟩
  · rintro ⟨a, b, d, e⟩
    have hp := ((h0.2.2.1 x a b).2.2 d).1
    refine ⟨a, b, by rw [h.2.2 _ _ (by unfold aC; omega) (by unfold aC; omega)]; exact d, ?_⟩
    rw [h.2.2 (aC 0 x) 4 (by unfold aC; omega) (by unfold aC; omega), h.2.2 _ 5 (by unfold aF; omega) (by unfold aF; omega)]
    exact e
theorem c_kcX {x4 x kd : Int} {D1 : tD} (h0 : shR c D 0) (h : CX x4 D D1) (hT : kcC D x kd → K D1 (aC 0 x)) (hF : ¬ kcC D x kd → K D1 (-1)) : WP sc 117 0 D1 [(0, (1208, 5)), (1, (0, kd)), (2, (0, x))] [] K E := by
  have hn := h0.1
  have e3 : ∀ k, 0 ≤ k → k < 24 → D1 (aC 0 k) 3 = D (aC 0 k) 3 := fun k u v => h.2.2 _ _ (by unfold aC; omega) (by unfold aC; omega)
  have e4 : ∀ k, 0 ≤ k → k < 24 → D1 (aC 0 k) 4 = D (aC 0 k) 4 := fun k u v => h.2.2 _ _ (by unfold aC; omega) (by unfold aC; omega)
  refine c_ofKind (s := 0) (Or.inl rfl) (fun k u v w => ?_) (fun h1 h2 h3 => hT ((kcC_CX h0 h).mp ⟨h1.1, h1.2, ?_, h3⟩)) (fun hh => hF (fun w => hh ?_))
  · rw [e3 k u v] at w
    rw [e4 k u v]
    obtain ⟨b1, b2, b3⟩ := h0.2.2.1 k u v
    have := (b3 (by omega)).1
    omega
  · rw [e3 x h1.1 h1.2] at h2 ⊢
    obtain ⟨b1, b2, b3⟩ := h0.2.2.1 x h1.1 h1.2
    omega
  · have w' := (kcC_CX h0 h).mpr w
    exact ⟨w'.1, w'.2.1, by have := w'.2.2.1; omega, w'.2.2.2⟩
theorem c_add {x v x4 : Int} (hok : okD D) (hR : RL RSc D c)
    (hN : ∀ D1, CX x4 D D1 → ¬ adC D x → E (bump D1) 93)
    (hV : ∀ D1, CX x4 D D1 → adC D x → (¬ adV D x v ∨ (x4 ≠ 0 ∧ ¬ ∃ S, exG (D 1978) (D 1977 2) S)) → E (bump D1) 90)
    (hS : ∀ D1, CX x4 D D1 → adV D x v → (x4 ≠ 0 → ∃ S, exG (D 1978) (D 1977 2) S) → ¬ numP (D (aC 0 x) 5 + v) → E (bump D1) 91)
    (hT0 : ∀ D1, CX x4 D D1 → adV D x v → (x4 ≠ 0 → ∃ S, exG (D 1978) (D 1977 2) S) → numP (D (aC 0 x) 5 + v) → (x4 = 0 ∨ ¬ kcC D x 0 ∨ ¬ kxC D (aX 0 x 0)) → K (wr D1 (aC 0 x) 5 (D (aC 0 x) 5 + v)) 0)
    (hT1 : ∀ D1 S D2, CX x4 D D1 → adV D x v → x4 ≠ 0 → exG (D 1978) (D 1977 2) S → srtL S → numP (D (aC 0 x) 5 + v) → kcC D x 0 → kxC D (aX 0 x 0) → D2 (aX 0 x 0) 1 = 1 → D2 (aX 0 x 0) 2 = v → D2 (aX 0 x 0) 3 = D 0 8 → lsIs D2 (aX 0 x 0 + 1) S → (∀ a j, a < aX 0 x 0 ∨ aX 0 x 0 + 3 < a → D2 a j = (wr D1 (aC 0 x) 5 (D (aC 0 x) 5 + v)) a j) → K D2 0) : WP sc 12 0 D [(0, (1200, 0)), (1, (0, x)), (2, (1, v)), (4, (0, x4))] [] K E := by
  have r3 := hR.2.2.1
  have r6 := hR.2.2.2.2.2.1
  have r7 := hR.2.2.2.2.2.2.1
  have r8 := hR.2.2.2.2.2.2.2
  have h0 := r8.1
  have th : ∀ D1, CX x4 D D1 → D1 (-1) 0 < 599000 := fun D1 h => by rw [h.2.2 _ _ (by omega) (by omega)]; omega
  have ex01 : ∀ {k}, kcC D x 0 → k = (1 : Int) → ¬ kcC D x k := fun a e b => by subst e; have := a.2.2.2; have := b.2.2.2; omega
  have nm : ∀ k, kcC D x k → -mostN ≤ D (aC 0 x) 5 ∧ D (aC 0 x) 5 ≤ mostN := fun k h => by
    have := ((h0.2.2.1 x h.1 h.2.1).2.2 h.2.2.1).2.2.1
    omega
  have mN : mostN = 999999999999999 := rfl
  have frC : ∀ D1, CX x4 D D1 → ∀ k, kcC D x k → D1 (aC 0 x) 5 = D (aC 0 x) 5 := fun D1 h k hk => h.2.2 _ _ (by have := hk.1; unfold aC; omega) (by have := hk.1; have := hk.2.1; unfold aC; omega)
  refine v12_0 ?_
  split
  · rename_i z4
    have cx : CX x4 D D := ⟨fun _ _ => rfl, fun h => absurd z4 h, fun _ _ _ _ => rfl⟩
    refine c_kcX h0 cx (fun hk0 => ?_) (fun hk0 => ?_)
    · have n0 := nm 0 hk0
      rw [if_neg (by have := hk0.1; unfold aC; omega)]
      refine c_num (fun hnv => ?_) (fun hnv => ?_)
      · rw [if_neg (by omega), w64_id (by omega) (by omega)]
        split
        · rename_i hlt
          rw [tlc_lt] at hlt
          exact ⟨th D cx, hV D cx (Or.inl hk0) (Or.inl (fun w => by rcases w with w | w; (have := w.2.2; omega); exact ex01 hk0 rfl w.1))⟩
        · rename_i hge
          rw [tlc_lt] at hge
          have had : adV D x v := Or.inl ⟨hk0, hnv, by omega⟩
          refine c_num (fun hns => ?_) (fun hns => ?_)
          · rw [if_neg (by omega), w64_id (by omega) (by omega)]
            exact hT0 D cx had (fun h => absurd z4 h) hns (Or.inl z4)
          · rw [if_pos rfl]
            exact ⟨th D cx, hS D cx had (fun h => absurd z4 h) hns⟩
      · rw [if_pos rfl]
        exact ⟨th D cx, hV D cx (Or.inl hk0) (Or.inl (fun w => by rcases w with w | w; exact hnv w.2.1; exact hnv w.2))⟩
    · rw [if_pos rfl]
      refine c_kcX h0 cx (fun hk1 => ?_) (fun hk1 => ?_)
      · have n1 := nm 1 hk1
        rw [if_neg (by have := hk1.1; unfold aC; omega)]
        refine c_num (fun hnv => ?_) (fun hnv => ?_)
        · rw [if_neg (by omega), w64_id (by omega) (by omega)]
          have had : adV D x v := Or.inr ⟨hk1, hnv⟩
          refine c_num (fun hns => ?_) (fun hns => ?_)
          · rw [if_neg (by omega), w64_id (by omega) (by omega)]
            exact hT0 D cx had (fun h => absurd z4 h) hns (Or.inl z4)
          · rw [if_pos rfl]
            exact ⟨th D cx, hS D cx had (fun h => absurd z4 h) hns⟩
        · rw [if_pos rfl]
          exact ⟨th D cx, hV D cx (Or.inr hk1) (Or.inl (fun w => by rcases w with w | w; exact hnv w.2.1; exact hnv w.2))⟩
      · rw [if_pos rfl]
        exact ⟨th D cx, hN D cx (fun w => by rcases w with w | w; exact hk0 w; exact hk1 w)⟩
  · rename_i z4
    refine c_tex hok hR (fun S D1 g1 g2 g3 g4 g5 => ?_) (fun D1 g1 g4 g5 => ?_)
    · have cx : CX x4 D D1 := ⟨fun h => absurd h z4, fun _ => g4, g5⟩
      have hex : ∃ S, exG (D 1978) (D 1977 2) S := ⟨S, g1⟩
      rw [if_neg (by omega)]
      refine c_kcX h0 cx (fun hk0 => ?_) (fun hk0 => ?_)
      · have n0 := nm 0 hk0
        have hx0 := hk0.1
        have hx1 := hk0.2.1
        have eC : aC 0 x = 161 + 34 * x := by unfold aC; omega
        have eX : aX 0 x 0 = 167 + 34 * x := by unfold aX; omega
        rw [if_neg (by omega)]
        refine c_num (fun hnv => ?_) (fun hnv => ?_)
        · rw [if_neg (by omega), frC D1 cx 0 hk0, w64_id (by omega) (by omega)]
          split
          · rename_i hlt
            rw [tlc_lt] at hlt
            exact ⟨th D1 cx, hV D1 cx (Or.inl hk0) (Or.inl (fun w => by rcases w with w | w; (have := w.2.2; omega); exact ex01 hk0 rfl w.1))⟩
          · rename_i hge
            rw [tlc_lt] at hge
            have had : adV D x v := Or.inl ⟨hk0, hnv, by omega⟩
            refine c_num (fun hns => ?_) (fun hns => ?_)
            · rw [if_neg (by omega), frC D1 cx 0 hk0, w64_id (by omega) (by omega)]
              have lf := fl_le S g2.2.2.2
              have lS := tkP_len g1.1
              have frX : ∀ j, (wr D1 (aC 0 x) 5 (D (aC 0 x) 5 + v)) (aX 0 x 0) j = D (aX 0 x 0) j := fun j => by rw [wr_ne (by omega), g5 _ _ (by omega) (by omega)]
              have f08 : (wr D1 (aC 0 x) 5 (D (aC 0 x) 5 + v)) 0 8 = D 0 8 := by rw [wr_ne (by omega), g5 _ _ (by omega) (by omega)]
              have exr := ((h0.2.2.1 x hx0 hx1).2.2 hk0.2.2.1).2.2.2.2.2.2 0 (by omega) (by omega)
              have kxe : kxC (wr D1 (aC 0 x) 5 (D (aC 0 x) 5 + v)) (aX 0 x 0) ↔ kxC D (aX 0 x 0) := by unfold kxC; rw [frX, frX, f08]
              refine c_keepEx (S := S) ⟨hx0, hx1⟩ (by omega) ?_ (by omega) (by rw [f08]; omega) (fun w => ?_) (fun hk D2 p1 p2 p3 p4 p5 => ?_) (fun hk => ?_)
              · obtain ⟨q1, q2, q3, q4⟩ := g2
                exact ⟨by rw [wr_ne (by omega)]; exact q1, by rw [wr_ne (by omega)]; exact q2, atL_fr (fun j u w => wr_ne (by omega)) q3, q4⟩
              · rw [frX] at w ⊢
                exact (exr.2.1 w).2.1.2
              · rw [f08] at p3
                exact hT1 D1 S D2 cx had z4 g1 g3 hns hk0 (kxe.mp hk) p1 p2 p3 p4 p5
              · exact hT0 D1 cx had (fun _ => hex) hns (Or.inr (Or.inr (fun w => hk (kxe.mpr w))))
            · rw [if_pos rfl]
              exact ⟨th D1 cx, hS D1 cx had (fun _ => hex) hns⟩
        · rw [if_pos rfl]
          exact ⟨th D1 cx, hV D1 cx (Or.inl hk0) (Or.inl (fun w => by rcases w with w | w; exact hnv w.2.1; exact hnv w.2))⟩
      · rw [if_pos rfl]
        refine c_kcX h0 cx (fun hk1 => ?_) (fun hk1 => ?_)
        · have n1 := nm 1 hk1
          rw [if_neg (by have := hk1.1; unfold aC; omega)]
          refine c_num (fun hnv => ?_) (fun hnv => ?_)
          · rw [if_neg (by omega), frC D1 cx 1 hk1, w64_id (by omega) (by omega)]
            have had : adV D x v := Or.inr ⟨hk1, hnv⟩
            refine c_num (fun hns => ?_) (fun hns => ?_)
            · rw [if_neg (by omega), frC D1 cx 1 hk1, w64_id (by omega) (by omega)]
              exact hT0 D1 cx had (fun _ => hex) hns (Or.inr (Or.inl hk0))
            · rw [if_pos rfl]
              exact ⟨th D1 cx, hS D1 cx had (fun _ => hex) hns⟩
          · rw [if_pos rfl]
            exact ⟨th D1 cx, hV D1 cx (Or.inr hk1) (Or.inl (fun w => by rcases w with w | w; exact hnv w.2.1; exact hnv w.2))⟩
        · rw [if_pos rfl]
          exact ⟨th D1 cx, hN D1 cx (fun w => by rcases w with w | w; exact hk0 w; exact hk1 w)⟩
    · have cx : CX x4 D D1 := ⟨fun h => absurd h z4, fun _ => g4, g5⟩
      rw [if_pos rfl]
      refine c_kcX h0 cx (fun hk0 => ?_) (fun hk0 => ?_)
      · rw [if_neg (by have := hk0.1; unfold aC; omega)]
        exact ⟨th D1 cx, hV D1 cx (Or.inl hk0) (Or.inr ⟨z4, g1⟩)⟩
      · rw [if_pos rfl]
        refine c_kcX h0 cx (fun hk1 => ?_) (fun hk1 => ?_)
        · rw [if_neg (by have := hk1.1; unfold aC; omega)]
          exact ⟨th D1 cx, hV D1 cx (Or.inr hk1) (Or.inr ⟨z4, g1⟩)⟩
        · rw [if_pos rfl]
          exact ⟨th D1 cx, hN D1 cx (fun w => by rcases w with w | w; exact hk0 w; exact hk1 w)⟩
end ADD
