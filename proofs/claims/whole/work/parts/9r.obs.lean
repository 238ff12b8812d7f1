/-! observe: the bucket, the class's side -/
section OBS
variable {sc : Nat × (Nat → Int32)} {D D' : tD} {K : tD → Int → Prop} {E : tD → Nat → Prop} {c : Int}
/-- the bucket that v falls to, among n rising bounds -/
def bkP (g : Int → Int) (n v b : Int) : Prop := 0 ≤ b ∧ b ≤ n ∧ (∀ j, 0 ≤ j → j < b → g j < v) ∧ ∀ j, b ≤ j → j < n → v ≤ g j
theorem bkP_uni {g g' : Int → Int} {n v b b' : Int} (hg : ∀ j, 0 ≤ j → j < n → g j = g' j) (h : bkP g n v b) (h' : bkP g' n v b') : b = b' := by
  obtain ⟨p1, p2, p3, p4⟩ := h
  obtain ⟨q1, q2, q3, q4⟩ := h'
  by_cases e : b < b'
  · have a := q3 b p1 e
    have d := p4 b (by omega) (by omega)
    rw [hg b (by omega) (by omega)] at d
    omega
  · by_cases e2 : b' < b
    · have a := p3 b' q1 e2
      have d := q4 b' (by omega) (by omega)
      rw [hg b' (by omega) (by omega)] at a
      omega
    · omega
theorem ris_lt {g : Int → Int} {n : Int} (hr : ∀ k, 0 ≤ k → k + 1 < n → g k < g (k + 1)) {i : Int} (hi : 0 ≤ i) : ∀ (m : Nat), i + (m : Int) + 1 < n → g i < g (i + (m : Int) + 1) := by
  intro m
  induction m with
  | zero =>
    intro h
    have := hr i hi (by omega)
    rw [show i + ((0 : Nat) : Int) + 1 = i + 1 from by omega]
    exact this
  | succ m ih =>
    intro h
    have a := ih (by omega)
    have b := hr (i + (m : Int) + 1) (by omega) (by omega)
    rw [show i + ((m + 1 : Nat) : Int) + 1 = i + (m : Int) + 1 + 1 from by omega]
    omega
theorem c_bkt1 {F v n : Int} (hn : D F 6 = n ∧ n ≤ 6) (hl : ln (F + 7) = 6) (hr : ∀ k, 0 ≤ k → k + 1 < n → D (F + 7) k < D (F + 7) (k + 1)) (hK : ∀ b, bkP (D (F + 7)) n v b → K D b) : ∀ (m : Nat) (k b : Int), n - k = (m : Int) → 0 ≤ k → bkP (D (F + 7)) k v b → WP sc 72 5 D [(0, (1204, F)), (1, (1, v)), (3, (0, b)), (4, (0, k))] [] K E := by
  intro m
  induction m with
  | zero =>
    intro k b hm hk hb
    refine v72_5 ?_
    rw [hn.1, if_neg (by omega)]
    rw [show k = n from by omega] at hb
    exact hK b hb
  | succ m ih =>
    intro k b hm hk hb
    obtain ⟨p1, p2, p3, p4⟩ := hb
    refine v72_5 ?_
    rw [hn.1, if_pos (by omega), if_pos (by omega), hl, w32_id (x := b + 1) (by omega) (by omega), w32_id (x := k + 1) (by omega) (by omega), w32_id (x := b + 0) (by omega) (by omega), show b + 0 = b from by omega]
    refine ⟨by omega, ?_⟩
    split
    · rename_i hlt
      rw [tlc_lt] at hlt
      have e : b = k := by
        by_cases e : b < k
        · have a := p4 b (by omega) e
          have d := ris_lt hr p1 (k - b - 1).toNat (by omega)
          rw [show b + ((k - b - 1).toNat : Int) + 1 = k from by omega] at d
          omega
        · omega
      subst e
      refine ih _ _ (by omega) (by omega) ⟨by omega, by omega, fun j u w => ?_, fun j u w => by omega⟩
      by_cases e : j = b
      · rw [e]; exact hlt
      · exact p3 j u (by omega)
    · rename_i hge
      rw [tlc_lt] at hge
      refine ih _ _ (by omega) (by omega) ⟨by omega, by omega, p3, fun j u w => ?_⟩
      by_cases e : j = k
      · rw [e]; omega
      · exact p4 j u (by omega)
theorem c_bkt {F v : Int} (hn : 0 ≤ D F 6 ∧ D F 6 ≤ 6) (hl : ln (F + 7) = 6) (hr : ∀ k, 0 ≤ k → k + 1 < D F 6 → D (F + 7) k < D (F + 7) (k + 1)) (hK : ∀ b, bkP (D (F + 7)) (D F 6) v b → K D b) : WP sc 72 0 D [(0, (1204, F)), (1, (1, v))] [] K E :=
  v72_0 (c_bkt1 (n := D F 6) ⟨rfl, hn.2⟩ hl hr hK (D F 6).toNat 0 0 (by omega) (by omega) ⟨by omega, by omega, fun j u w => by omega, fun j u w => by omega⟩)
theorem m_fal1 {f v n : Int} (hf : 0 ≤ f ∧ f < 16) (hn : D 1988 f = n ∧ n ≤ 6) (hK : ∀ b, bkP (fun j => D 1987 (6 * f + j)) n v b → (∀ j, b ≤ j → j < n → v ≤ D 1987 (6 * f + j)) → K D b) (hr : ∀ k, 0 ≤ k → k + 1 < n → D 1987 (6 * f + k) < D 1987 (6 * f + (k + 1))) : ∀ (m : Nat) (k : Int), n - k = (m : Int) → 0 ≤ k → (∀ j, 0 ≤ j → j < k → D 1987 (6 * f + j) < v) → WP sc 227 3 D [(0, (1211, 1977)), (1, (0, f)), (2, (1, v)), (4, (0, k))] [] K E := by
  intro m
  induction m with
  | zero =>
    intro k hm hk hb
    refine v227_3 ⟨hf, ?_⟩
    rw [hn.1, if_neg (by omega)]
    exact hK k ⟨hk, by omega, hb, fun j u w => by omega⟩ (fun j u w => by omega)
  | succ m ih =>
    intro k hm hk hb
    refine v227_3 ⟨hf, ?_⟩
    rw [hn.1, if_pos (by omega), w32_id (x := 6 * f) (by omega) (by omega), w32_id (x := 6 * f + k) (by omega) (by omega), w32_id (x := k + 1) (by omega) (by omega)]
    refine ⟨by omega, ?_⟩
    split
    · rename_i hlt
      rw [tlc_lt] at hlt
      refine ih _ (by omega) (by omega) (fun j u w => ?_)
      by_cases e : j = k
      · rw [e]; exact hlt
      · exact hb j u (by omega)
    · rename_i hge
      rw [tlc_lt] at hge
      have up : ∀ j, k ≤ j → j < n → v ≤ D 1987 (6 * f + j) := fun j u w => by
        by_cases e : j = k
        · rw [e]; omega
        · have d := ris_lt (g := fun j => D 1987 (6 * f + j)) hr hk (j - k - 1).toNat (by omega)
          rw [show k + ((j - k - 1).toNat : Int) + 1 = j from by omega] at d
          have d' : D 1987 (6 * f + k) < D 1987 (6 * f + j) := d
          omega
      exact hK k ⟨hk, by omega, hb, up⟩ up
theorem m_falls {f v : Int} (hf : 0 ≤ f ∧ f < 16) (hn : 0 ≤ D 1988 f ∧ D 1988 f ≤ 6) (hr : ∀ k, 0 ≤ k → k + 1 < D 1988 f → D 1987 (6 * f + k) < D 1987 (6 * f + (k + 1))) (hK : ∀ b, bkP (fun j => D 1987 (6 * f + j)) (D 1988 f) v b → K D b) : WP sc 227 0 D [(0, (1211, 1977)), (1, (0, f)), (2, (1, v))] [] K E :=
  v227_0 (m_fal1 (n := D 1988 f) hf ⟨rfl, hn.2⟩ (fun b h _ => hK b h) hr (D 1988 f).toNat 0 (by omega) (by omega) (fun j u w => by omega))
theorem c_cnt1 {x b v : Int} (hx : 0 ≤ x ∧ x < 24) (hb : 0 ≤ b ∧ b < 7) (hK : K (wr D (aC 0 x + 4) b (w64 (D (aC 0 x + 4) b + v))) 0) : WP sc 35 0 D [(0, (1201, aC 0 x)), (1, (0, b)), (2, (1, v))] [] K E := by
  refine v35_0 ?_
  rw [ln_cnt (Or.inl rfl) hx, if_neg (by omega), if_pos (by omega)]
  exact ⟨hb, hb, hK⟩
def obV (D : tD) (x v : Int) : Prop := kcC D x 2 ∧ numP v ∧ 0 ≤ v
/-- the bucket of a kept child's family -/
def obB (D : tD) (x v b : Int) : Prop := bkP (D (aF 0 (D (aC 0 x) 4) + 7)) (D (aF 0 (D (aC 0 x) 4)) 6) v b
def ob2 (D1 : tD) (x n b q : Int) : tD := wr (wr D1 (aC 0 x) 5 n) (aC 0 x + 4) b q
theorem c_observe {x v x4 : Int} (hok : okD D) (hR : RL RSc D c)
    (hN : ∀ D1, CX x4 D D1 → ¬ kcC D x 2 → E (bump D1) 93)
    (hV : ∀ D1, CX x4 D D1 → kcC D x 2 → (¬ obV D x v ∨ (x4 ≠ 0 ∧ ¬ ∃ S, exG (D 1978) (D 1977 2) S)) → E (bump D1) 90)
    (hS : ∀ D1, CX x4 D D1 → obV D x v → (x4 ≠ 0 → ∃ S, exG (D 1978) (D 1977 2) S) → ¬ numP (D (aC 0 x) 5 + v) → E (bump D1) 91)
    (hT0 : ∀ D1 b, CX x4 D D1 → obV D x v → (x4 ≠ 0 → ∃ S, exG (D 1978) (D 1977 2) S) → numP (D (aC 0 x) 5 + v) → obB D x v b → (x4 = 0 ∨ ¬ kxC D (aX 0 x b)) → K (ob2 D1 x (D (aC 0 x) 5 + v) b (D (aC 0 x + 4) b + 1)) 0)
    (hT1 : ∀ D1 b S D2, CX x4 D D1 → obV D x v → x4 ≠ 0 → exG (D 1978) (D 1977 2) S → srtL S → numP (D (aC 0 x) 5 + v) → obB D x v b → kxC D (aX 0 x b) → D2 (aX 0 x b) 1 = 1 → D2 (aX 0 x b) 2 = v → D2 (aX 0 x b) 3 = D 0 8 → lsIs D2 (aX 0 x b + 1) S → (∀ a j, a < aX 0 x b ∨ aX 0 x b + 3 < a → D2 a j = (ob2 D1 x (D (aC 0 x) 5 + v) b (D (aC 0 x + 4) b + 1)) a j) → K D2 0) : WP sc 14 0 D [(0, (1200, 0)), (1, (0, x)), (2, (1, v)), (4, (0, x4))] [] K E := by
  have r3 := hR.2.2.1
  have r6 := hR.2.2.2.2.2.1
  have r7 := hR.2.2.2.2.2.2.1
  have r8 := hR.2.2.2.2.2.2.2
  have h0 := r8.1
  have hn0 := h0.1
  have mN : mostN = 999999999999999 := rfl
  have th : ∀ D1, CX x4 D D1 → D1 (-1) 0 < 599000 := fun D1 h => by rw [h.2.2 _ _ (by omega) (by omega)]; omega
  have nm : kcC D x 2 → -mostN ≤ D (aC 0 x) 5 ∧ D (aC 0 x) 5 ≤ mostN := fun h => by
    have := ((h0.2.2.1 x h.1 h.2.1).2.2 h.2.2.1).2.2.1
    omega
  have frC : ∀ D1, CX x4 D D1 → kcC D x 2 → ∀ j, D1 (aC 0 x) j = D (aC 0 x) j := fun D1 h hk j => h.2.2 _ _ (by have := hk.1; unfold aC; omega) (by have := hk.1; have := hk.2.1; unfold aC; omega)
  /- from the class's parent on -/
  have fin : ∀ D1, CX x4 D D1 → kcC D x 2 → (∀ b, obB D x v b → 0 ≤ b ∧ b < 7 → WP sc 35 0 (wr D1 (aC 0 x) 5 (w64 (D1 (aC 0 x) 5 + v))) [(0, (1201, aC 0 x)), (1, (0, b)), (2, (1, 1))] [] (fun D16 _ => if x4 = 0 then K D16 0 else WP sc 30 0 D16 [(0, (1200, 0)), (1, (1201, aC 0 x)), (2, (0, b)), (3, (1, v))] [] (fun D19 _ => K D19 0) E) E) → WP sc 118 0 D1 [(0, (1208, 5)), (1, (1201, aC 0 x))] [] (fun D10 r11 => if r11 = -1 then False else (WP sc 72 0 D10 [(0, (1204, r11)), (1, (1, v))] [] (fun D13 r14 => WP sc 35 0 (wr D13 (aC 0 x) 5 (w64 (D13 (aC 0 x) 5 + v))) [(0, (1201, aC 0 x)), (1, (0, r14)), (2, (1, 1))] [] (fun D16 _ => if x4 = 0 then K D16 0 else WP sc 30 0 D16 [(0, (1200, 0)), (1, (1201, aC 0 x)), (2, (0, r14)), (3, (1, v))] [] (fun D19 _ => K D19 0) E) E) E)) E := fun D1 cx hk g => by
    have hx := hk.1
    have hx1 := hk.2.1
    have hch := (h0.2.2.1 x hx hx1).2.2 hk.2.2.1
    have hp := hch.1
    have hfa := h0.2.1 _ hp.1 hp.2.1
    have hB : faB D 0 (D (aC 0 x) 4) := hfa.2.2.2.2.1
    have e4 := frC D1 cx hk 4
    have fF : ∀ d j, 0 ≤ d → d ≤ 16 → D1 (aF 0 (D (aC 0 x) 4) + d) j = D (aF 0 (D (aC 0 x) 4) + d) j := fun d j u w => cx.2.2 _ _ (by unfold aF; omega) (by unfold aF; omega)
    have f6 : D1 (aF 0 (D (aC 0 x) 4)) 6 = D (aF 0 (D (aC 0 x) 4)) 6 := by have := fF 0 6 (by omega) (by omega); rwa [show aF 0 (D (aC 0 x) 4) + 0 = aF 0 (D (aC 0 x) 4) from by omega] at this
    refine c_parent (s := 0) (Or.inl rfl) (by rw [e4]; omega) ?_
    rw [e4, if_neg (by unfold aF; omega)]
    refine c_bkt (by rw [f6]; exact ⟨hB.2.1, hB.2.2.1⟩) (ln_bnd (Or.inl rfl) (by omega)) (fun k u w => ?_) (fun b hb => g b ?_ ?_)
    · rw [f6] at w
      rw [fF 7 _ (by omega) (by omega), fF 7 _ (by omega) (by omega)]
      exact hB.2.2.2.2.2 k u w
    · rw [f6, show D1 (aF 0 (D (aC 0 x) 4) + 7) = D (aF 0 (D (aC 0 x) 4) + 7) from funext (fun j => fF 7 j (by omega) (by omega))] at hb
      exact hb
    · rw [f6] at hb
      have := hB.2.2.1
      exact ⟨hb.1, by have := hb.2.1; omega⟩
  have cnt : kcC D x 2 → ∀ b, 0 ≤ b → b < 7 → 0 ≤ D (aC 0 x + 4) b ∧ D (aC 0 x + 4) b ≤ 1000000000600 := fun hk b u w => by
    have := ((h0.2.2.1 x hk.1 hk.2.1).2.2 hk.2.2.1).2.2.2.2.2.1 b u w
    omega
  have one : ∀ D1, CX x4 D D1 → obV D x v → numP (D (aC 0 x) 5 + v) → ∀ b, 0 ≤ b → b < 7 → (wr (wr D1 (aC 0 x) 5 (w64 (D1 (aC 0 x) 5 + v))) (aC 0 x + 4) b (w64 ((wr D1 (aC 0 x) 5 (w64 (D1 (aC 0 x) 5 + v))) (aC 0 x + 4) b + 1))) = ob2 D1 x (D (aC 0 x) 5 + v) b (D (aC 0 x + 4) b + 1) := fun D1 cx ho hs b u w => by
    have hk := ho.1
    have n0 := nm hk
    have c0 := cnt hk b u w
    have n1 := hs.1
    have n2 := hs.2
    rw [frC D1 cx hk, w64_id (x := D (aC 0 x) 5 + v) (by omega) (by omega), wr_ne (by omega), cx.2.2 (aC 0 x + 4) b (by have := hk.1; unfold aC; omega) (by have := hk.1; have := hk.2.1; unfold aC; omega), w64_id (by omega) (by omega)]
    rfl
  refine v14_0 ?_
  by_cases z4 : x4 = 0
  · rw [if_pos z4]
    have cx : CX x4 D D := ⟨fun _ _ => rfl, fun h => absurd z4 h, fun _ _ _ _ => rfl⟩
    refine c_kcX h0 cx (fun hk => ?_) (fun hk => ?_)
    · have n0 := nm hk
      rw [if_neg (by have := hk.1; unfold aC; omega)]
      refine c_num (fun hnv => ?_) (fun hnv => ?_)
      · rw [if_neg (by omega)]
        by_cases hlt : tlc v 0 < 0
        · rw [if_pos hlt]
          rw [tlc_lt] at hlt
          exact ⟨th D cx, hV D cx hk (Or.inl (fun w => by have := w.2.2; omega))⟩
        · rw [if_neg hlt]
          rw [tlc_lt] at hlt
          have ho : obV D x v := ⟨hk, hnv, by omega⟩
          rw [w64_id (x := D (aC 0 x) 5 + v) (by omega) (by omega)]
          refine c_num (fun hns => ?_) (fun hns => ?_)
          · rw [if_neg (by omega)]
            refine fin D cx hk (fun b hb hb7 => c_cnt1 ⟨hk.1, hk.2.1⟩ hb7 ?_)
            rw [one D cx ho hns b hb7.1 hb7.2, if_pos z4]
            exact hT0 D b cx ho (fun h => absurd z4 h) hns hb (Or.inl z4)
          · rw [if_pos rfl]
            exact ⟨th D cx, hS D cx ho (fun h => absurd z4 h) hns⟩
      · rw [if_pos rfl]
        exact ⟨th D cx, hV D cx hk (Or.inl (fun w => hnv w.2.1))⟩
    · rw [if_pos rfl]
      exact ⟨th D cx, hN D cx hk⟩
  · rw [if_neg z4]
    refine c_tex hok hR (fun S D1 g1 g2 g3 g4 g5 => ?_) (fun D1 g1 g4 g5 => ?_)
    · have cx : CX x4 D D1 := ⟨fun h => absurd h z4, fun _ => g4, g5⟩
      have hex : ∃ S, exG (D 1978) (D 1977 2) S := ⟨S, g1⟩
      rw [if_neg (by omega)]
      refine c_kcX h0 cx (fun hk => ?_) (fun hk => ?_)
      · have n0 := nm hk
        have hx0 := hk.1
        have hx1 := hk.2.1
        have eC : aC 0 x = 161 + 34 * x := by unfold aC; omega
        rw [if_neg (by omega)]
        refine c_num (fun hnv => ?_) (fun hnv => ?_)
        · rw [if_neg (by omega)]
          by_cases hlt : tlc v 0 < 0
          · rw [if_pos hlt]
            rw [tlc_lt] at hlt
            exact ⟨th D1 cx, hV D1 cx hk (Or.inl (fun w => by have := w.2.2; omega))⟩
          · rw [if_neg hlt]
            rw [tlc_lt] at hlt
            have ho : obV D x v := ⟨hk, hnv, by omega⟩
            rw [frC D1 cx hk 5, w64_id (x := D (aC 0 x) 5 + v) (by omega) (by omega)]
            refine c_num (fun hns => ?_) (fun hns => ?_)
            · rw [if_neg (by omega)]
              refine fin D1 cx hk (fun b hb hb7 => c_cnt1 ⟨hx0, hx1⟩ hb7 ?_)
              rw [one D1 cx ho hns b hb7.1 hb7.2, if_neg z4]
              have eX : aX 0 x b = 167 + 34 * x + 4 * b := by unfold aX; omega
              have lS := tkP_len g1.1
              have lf := fl_le S g2.2.2.2
              have frO : ∀ a j, a ≠ aC 0 x → a ≠ aC 0 x + 4 → (ob2 D1 x (D (aC 0 x) 5 + v) b (D (aC 0 x + 4) b + 1)) a j = D1 a j := fun a j u w => by unfold ob2; rw [wr_ne w, wr_ne u]
              have frX : ∀ j, (ob2 D1 x (D (aC 0 x) 5 + v) b (D (aC 0 x + 4) b + 1)) (aX 0 x b) j = D (aX 0 x b) j := fun j => by rw [frO _ _ (by omega) (by omega), g5 _ _ (by omega) (by omega)]
              have f08 : (ob2 D1 x (D (aC 0 x) 5 + v) b (D (aC 0 x + 4) b + 1)) 0 8 = D 0 8 := by rw [frO _ _ (by omega) (by omega), g5 _ _ (by omega) (by omega)]
              have exr := ((h0.2.2.1 x hx0 hx1).2.2 hk.2.2.1).2.2.2.2.2.2 b hb7.1 hb7.2
              have kxe : kxC (ob2 D1 x (D (aC 0 x) 5 + v) b (D (aC 0 x + 4) b + 1)) (aX 0 x b) ↔ kxC D (aX 0 x b) := by unfold kxC; rw [frX, frX, f08]
              refine c_keepEx (S := S) ⟨hx0, hx1⟩ hb7 ?_ (by omega) (by rw [f08]; omega) (fun w => ?_) (fun hq D2 p1 p2 p3 p4 p5 => ?_) (fun hq => ?_)
              · obtain ⟨q1, q2, q3, q4⟩ := g2
                exact ⟨by rw [frO _ _ (by omega) (by omega)]; exact q1, by rw [frO _ _ (by omega) (by omega)]; exact q2, atL_fr (fun j u w => frO _ _ (by omega) (by omega)) q3, q4⟩
              · rw [frX] at w ⊢
                exact (exr.2.1 w).2.1.2
              · rw [f08] at p3
                exact hT1 D1 b S D2 cx ho z4 g1 g3 hns hb (kxe.mp hq) p1 p2 p3 p4 p5
              · exact hT0 D1 b cx ho (fun _ => hex) hns hb (Or.inr (fun w => hq (kxe.mpr w)))
            · rw [if_pos rfl]
              exact ⟨th D1 cx, hS D1 cx ho (fun _ => hex) hns⟩
        · rw [if_pos rfl]
          exact ⟨th D1 cx, hV D1 cx hk (Or.inl (fun w => hnv w.2.1))⟩
      · rw [if_pos rfl]
        exact ⟨th D1 cx, hN D1 cx hk⟩
    · have cx : CX x4 D D1 := ⟨fun h => absurd h z4, fun _ => g4, g5⟩
      rw [if_pos rfl]
      refine c_kcX h0 cx (fun hk => ?_) (fun hk => ?_)
      · rw [if_neg (by have := hk.1; unfold aC; omega)]
        exact ⟨th D1 cx, hV D1 cx hk (Or.inr ⟨z4, g1⟩)⟩
      · rw [if_pos rfl]
        exact ⟨th D1 cx, hN D1 cx hk⟩
end OBS
