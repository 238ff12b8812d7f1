/-! reading a sample: a state, both sides -/
section STM
variable {sc : Nat × (Nat → Int32)} {D D' A A' A0 D0 : tD} {K : tD → Int → Prop} {E : tD → Nat → Prop} {T : Int → Int} {n c : Int}
theorem kd_st1_n : ((List.range 8).all fun f => (List.range 4).all fun k => Nat.beq (tkd (992 + 17 * f + 2 * k)) 2) = true := by decide +kernel
theorem kd_st1 {f k : Int} (hf : 0 ≤ f ∧ f < 8) (hk : 0 ≤ k ∧ k < 4) : tkd (aF 1 f + 10 + 2 * k).toNat = 2 := by
  have h := nbeq.mp (List.all_eq_true.mp (List.all_eq_true.mp kd_st1_n f.toNat (List.mem_range.mpr (by omega))) k.toNat (List.mem_range.mpr (by omega)))
  rw [show (aF 1 f + 10 + 2 * k).toNat = 992 + 17 * f.toNat + 2 * k.toNat from by unfold aF; omega]
  exact h
theorem MS_fT {B f k : Int} (h : MS c B f k D A) : (D (aF 1 f) 7 = A 1991 (8 + f) ∧ 0 ≤ D (aF 1 f) 7 ∧ D (aF 1 f) 7 ≤ 4) ∧ (∀ i, 0 ≤ i → i < D (aF 1 f) 7 → (D (aF 1 f + 9 + 2 * i) 1 = A 1990 (4 * (8 + f) + i) ∧ 0 ≤ A 1990 (4 * (8 + f) + i) ∧ A 1990 (4 * (8 + f) + i) ≤ 12) ∧ ∀ j, 0 ≤ j → j < A 1990 (4 * (8 + f) + i) → D (aF 1 f + 10 + 2 * i) j % 256 = A 1989 (12 * (4 * (8 + f) + i) + j)) := by
  have fa := MS_fa h
  have aFb := aF1 f
  have f1 := h.2.1.1
  obtain ⟨_, _, _, _, _, ⟨b1, b2, b3, b4, b5⟩, _⟩ := fa
  have e8 : (8 : Int) * 1 + f = 8 + f := by omega
  rw [e8] at b1 b5
  have l0 : ∀ j, mx D A (aF 1 f) j = D (aF 1 f) j := fun j => mx_lo (by omega)
  have hh : ∀ x j, 1977 ≤ x → mx D A x j = A x j := fun x j u => mx_hi u
  rw [l0, hh _ _ (by omega)] at b1
  rw [l0] at b2 b3
  refine ⟨⟨b1, b2, b3⟩, fun i u v => ?_⟩
  obtain ⟨⟨r1, r2, r3, r4⟩, _⟩ := b5 i u (by rw [l0]; exact v)
  rw [hh 1990 _ (by omega)] at r1 r2 r3 r4
  rw [mx_lo (by omega)] at r1
  refine ⟨⟨r1, r2, r3⟩, fun j u2 v2 => ?_⟩
  have := r4 j u2 v2
  rw [mx_lo (by omega), hh _ _ (by omega), show aF 1 f + 9 + 2 * i + 1 = aF 1 f + 10 + 2 * i from by omega] at this
  exact this
/-- a state is told, both sides -/
theorem st_eq {B f k q i : Int} {l : List Int} (hok : okD D) (h : MS c B f k D A) (hX : XD T n q l D A) (hl : (l.length : Int) ≤ 12) (hi : 0 ≤ i ∧ i < D (aF 1 f) 7) : eqr D (aF 1 f + 9 + 2 * i) 1966 ↔ isT A (4 * (8 + f) + i) l := by
  obtain ⟨⟨t1, t2, t3⟩, t4⟩ := MS_fT h
  obtain ⟨⟨r1, r2, r3⟩, r4⟩ := t4 i hi.1 hi.2
  obtain ⟨⟨_, ⟨d2, d2'⟩, d3, d4⟩, _⟩ := hX
  rw [txt_w8 d4, show (1966 : Int) + 1 = 1967 from rfl] at d2'
  have f1 := h.2.1.1
  have aFb := aF1 f
  have rng : ∀ j, 0 ≤ j → j < (l.length : Int) → 0 ≤ lf l j ∧ lf l j ≤ 127 := fun j u v => by
    have := d4 _ (lf_mem (l := l) ⟨u, v⟩)
    unfold txt at this
    omega
  have le : ∀ j, 0 ≤ j → j < (l.length : Int) → D 1967 j = lf l j := fun j u v => by
    have := atL_lf d2' j u v
    rw [show (0 : Int) + j = j from by omega] at this
    exact this
  unfold eqr isT
  rw [d2, r1, show aF 1 f + 9 + 2 * i + 1 = aF 1 f + 10 + 2 * i from by omega, show (1966 : Int) + 1 = 1967 from rfl]
  refine ⟨fun ⟨g1, g2⟩ => ⟨g1, atL_of (fun j u v => ?_)⟩, fun ⟨g1, g2⟩ => ⟨g1, fun j u v => ?_⟩⟩
  · rw [← r4 j u (by omega), g2 j u (by omega), le j u v]
    have := rng j u v
    omega
  · have e1 := atL_lf g2 j u (by omega)
    have e2 := r4 j u v
    have e3 := rng j u (by omega)
    have e4 := okD_byte hok (a := aF 1 f + 10 + 2 * i) (j := j) ⟨by omega, by omega⟩ (kd_st1 ⟨f1.1, f1.2.1⟩ ⟨hi.1, by omega⟩) ⟨u, by rw [ln_st (s := 1) (Or.inr rfl) ⟨f1.1, by omega⟩ ⟨hi.1, by omega⟩]; omega⟩
    rw [le j u (by omega)]
    omega
/-- a state more on the other side -/
def stP (f j : Int) (l : List Int) (A A' : tD) : Prop := (A' 1990 (4 * (8 + f) + j) = (l.length : Int) ∧ atL A' 1989 (12 * (4 * (8 + f) + j)) l ∧ A' 1991 (8 + f) = j + 1) ∧ (∀ i, i ≠ 4 * (8 + f) + j → A' 1990 i = A 1990 i) ∧ (∀ i, ¬ (12 * (4 * (8 + f) + j) ≤ i ∧ i < 12 * (4 * (8 + f) + j) + 12) → A' 1989 i = A 1989 i) ∧ (∀ i, i ≠ 8 + f → A' 1991 i = A 1991 i) ∧ ∀ x i, x ≠ 1989 → x ≠ 1990 → x ≠ 1991 → A' x i = A x i
theorem u_st135 {f j : Int} {l : List Int} {A0 : tD} (hf : 0 ≤ f ∧ f < 8) (h48 : A0 1977 48 = 8 + f) (hj : 0 ≤ j ∧ j < 4) (h66 : A0 1977 66 = (l.length : Int)) (h16 : atL A0 2016 0 l) (hl : l.length ≤ 12) (h91 : A0 1991 (8 + f) = j) (hK : ∀ A', stP f j l A0 A' → K A' 1) : ∀ (m : Nat) (t : Int) (A : tD), (l.length : Int) - t = (m : Int) → 0 ≤ t → A 1990 (4 * (8 + f) + j) = (l.length : Int) → (∀ i, 0 ≤ i → i < t → A 1989 (12 * (4 * (8 + f) + j) + i) = lf l i) → (∀ i, i ≠ 4 * (8 + f) + j → A 1990 i = A0 1990 i) → (∀ i, ¬ (12 * (4 * (8 + f) + j) ≤ i ∧ i < 12 * (4 * (8 + f) + j) + 12) → A 1989 i = A0 1989 i) → (∀ x i, x ≠ 1989 → x ≠ 1990 → A x i = A0 x i) → WP sc 277 135 A [(0, (1211, 1977)), (2, (0, 4 * (8 + f) + j)), (3, (0, t))] [] K E := by
  intro m
  induction m with
  | zero =>
    intro t A hm ht h90 hd h90' h89 ho
    refine v277_135 ?_
    rw [ho 1977 66 (by omega) (by omega), h66, if_neg (by omega), ho 1977 48 (by omega) (by omega), h48, ho 1991 (8 + f) (by omega) (by omega), h91, w32_id (x := j + 1) (by omega) (by omega)]
    refine ⟨by omega, by omega, hK _ ⟨⟨?_, ?_, wr_self⟩, fun i u => ?_, fun i u => ?_, fun i u => ?_, fun x i u1 u2 u3 => ?_⟩⟩
    · rw [wr_ne (by omega)]; exact h90
    · exact atL_of (fun i u v => by rw [wr_ne (by omega)]; exact hd i u (by omega))
    · rw [wr_ne (by omega)]; exact h90' i u
    · rw [wr_ne (by omega)]; exact h89 i u
    · rw [wr_ni u]; exact ho _ _ (by omega) (by omega)
    · rw [wr_ne u3]; exact ho x i u1 u2
  | succ m ih =>
    intro t A hm ht h90 hd h90' h89 ho
    refine v277_135 ?_
    rw [ho 1977 66 (by omega) (by omega), h66, if_pos (by omega), w32_id (x := 12 * (4 * (8 + f) + j)) (by omega) (by omega), w32_id (x := 12 * (4 * (8 + f) + j) + t) (by omega) (by omega), w32_id (x := t + 1) (by omega) (by omega), ho 2016 t (by omega) (by omega)]
    refine ⟨⟨ht, by omega⟩, ⟨by omega, by omega⟩, ?_⟩
    refine ih (t + 1) _ (by omega) (by omega) (by rw [wr_ne (by omega)]; exact h90) (fun i u v => ?_) (fun i u => by rw [wr_ne (by omega)]; exact h90' i u) (fun i u => by rw [wr_ni (by omega)]; exact h89 i u) (fun x i u v => by rw [wr_ne u]; exact ho x i u v)
    by_cases z : i = t
    · rw [z, wr_self]
      have := atL_lf h16 t ht (by omega)
      rw [show (0 : Int) + t = t from by omega] at this
      exact this
    · rw [wr_ni (by omega)]; exact hd i u (by omega)
/-- the other side reads a state -/
theorem u_state {p B f k q : Int} {l : List Int} (hQ : MQp T n p D A) (hM : MS c B f k D A) (hN : MN 0 0 D A) (hs : D 1956 15 ≤ D (aF 1 f) 7 ∧ (D 1956 13 = 1 → D 1956 15 = D (aF 1 f) 7) ∧ (D 1956 13 = 0 → D 1956 15 < D (aF 1 f) 7)) (hX : XD T n q l D A) (hl : (l.length : Int) ≤ 12) (hW : (∃ i, (0 ≤ i ∧ i < D 1956 15) ∧ isT A (4 * (8 + f) + i) l) → K (fl A 9 q) 0) (hO : (¬ ∃ i, (0 ≤ i ∧ i < D 1956 15) ∧ isT A (4 * (8 + f) + i) l) → D 1956 13 = 0 → ¬ isT A (4 * (8 + f) + D 1956 15) l → K (fl A 10 q) 0) (hS : (¬ ∃ i, (0 ≤ i ∧ i < D 1956 15) ∧ isT A (4 * (8 + f) + i) l) → D 1956 13 = 0 → isT A (4 * (8 + f) + D 1956 15) l → K A 1) (hF : (¬ ∃ i, (0 ≤ i ∧ i < D 1956 15) ∧ isT A (4 * (8 + f) + i) l) → D 1956 13 = 1 → D 1956 15 = 4 → K (fl A 14 q) 0) (hP : (¬ ∃ i, (0 ≤ i ∧ i < D 1956 15) ∧ isT A (4 * (8 + f) + i) l) → D 1956 13 = 1 → D 1956 15 < 4 → ∀ A', stP f (D 1956 15) l A A' → K A' 1) : WP sc 277 0 A [(0, (1211, 1977))] [] K E := by
  obtain ⟨_, ⟨q0, qn⟩, ⟨x56, x57, x66, x16⟩, _⟩ := hX
  have m45 := hQ.1.2.1.2.2
  have g48 := hM.2.1.2.2.2
  have g50 := hM.2.2.1.2.2.1
  have f1 := hM.2.1.1
  have kk := hM.2.2.1.1
  have fi := fi_ms hM
  obtain ⟨⟨t1, t2, t3⟩, t4⟩ := MS_fT hM
  obtain ⟨⟨s1, s2, s3⟩, _⟩ := hN
  have e53 : A 1977 53 = D 1956 15 := by omega
  have n48 : 0 ≤ A 1977 48 ∧ A 1977 48 < 16 := by omega
  have go : ∀ (m : Nat) (i x : Int), D 1956 15 - i = (m : Int) → 0 ≤ i → ((x = 1 ∧ ∃ i, (0 ≤ i ∧ i < D 1956 15) ∧ isT A (4 * (8 + f) + i) l) ∨ (x = 0 ∧ ∀ r, 0 ≤ r → r < i → ¬ isT A (4 * (8 + f) + r) l)) → WP sc 277 4 A [(0, (1211, 1977)), (1, (0, x)), (2, (0, i))] [] K E := by
    intro m
    induction m with
    | zero =>
      intro i x hm hi hx
      refine v277_4 ?_
      rw [e53, if_neg (by omega), x56]
      rcases hx with ⟨e, h⟩ | ⟨e, h⟩
      · rw [if_neg (by omega)]
        exact u_fails m45 (hW h)
      · rw [if_pos e, g50]
        have no : ¬ ∃ i, (0 ≤ i ∧ i < D 1956 15) ∧ isT A (4 * (8 + f) + i) l := fun ⟨r, r1, r2⟩ => h r r1.1 (by omega) r2
        refine u_first ⟨kk.1, kk.2.1⟩ (fun y => ?_) (fun y => ?_)
        · have y1 := fi.mp y
          rw [if_neg (by omega), e53, g48, x56, x66, w32_id (x := 4 * (8 + f)) (by omega) (by omega), w32_id (x := 4 * (8 + f) + D 1956 15) (by omega) (by omega)]
          by_cases z : D 1956 15 = 4
          · rw [if_pos z]
            exact u_fails m45 (hF no y1 z)
          · rw [if_neg z]
            refine ⟨⟨by omega, by omega⟩, ?_⟩
            refine u_st135 (A0 := A) (j := D 1956 15) ⟨f1.1, f1.2.1⟩ g48 ⟨s2, by have := hs.1; omega⟩ x66 x16 (by omega) (by rw [← t1]; exact (hs.2.1 y1).symm) (fun A' h' => hP no y1 (by have := hs.1; omega) A' h') l.length 0 _ (by omega) (by omega) wr_self (fun i u v => by omega) (fun i u => wr_ni u) (fun i u => wr_ne (by omega)) (fun x i u v => wr_ne v)
        · have y0 : D 1956 13 = 0 := by
            rcases hM.2.2.2 with w | w
            · exact absurd (fi.mpr w.1) y
            · exact w.1
          rw [if_pos rfl, e53]
          have lt := hs.2.2 y0
          refine u_isSt (l := l) (i := D 1956 15) n48 ⟨s2, by omega⟩ x66 x16 (by omega) (fun w => ?_) (fun w => ?_)
          · rw [g48] at w
            rw [if_neg (by omega)]
            exact hS no y0 w
          · rw [g48] at w
            rw [if_pos rfl, x56]
            refine u_finds m45 ?_
            rw [if_pos rfl]
            exact hO no y0 w
    | succ m ih =>
      intro i x hm hi hx
      refine v277_4 ?_
      rw [e53, if_pos (by omega), w32_id (x := i + 1) (by omega) (by omega)]
      rcases hx with ⟨e, h⟩ | ⟨e, h⟩
      · rw [if_neg (by omega)]
        exact ih (i + 1) 1 (by omega) (by omega) (Or.inl ⟨rfl, h⟩)
      · rw [if_pos e]
        refine u_isSt (l := l) (i := i) n48 ⟨hi, by have := hs.1; omega⟩ x66 x16 (by omega) (fun w => ?_) (fun w => ?_)
        · rw [g48] at w
          rw [if_neg (by omega)]
          exact ih (i + 1) 1 (by omega) (by omega) (Or.inl ⟨rfl, i, ⟨hi, by omega⟩, w⟩)
        · rw [g48] at w
          rw [if_pos rfl]
          refine ih (i + 1) 0 (by omega) (by omega) (Or.inr ⟨rfl, fun r u v => ?_⟩)
          by_cases z : r = i
          · rw [z]; exact w
          · exact h r u (by omega)
  exact v277_0 (go (D 1956 15).toNat 0 0 (by omega) (by omega) (Or.inr ⟨rfl, fun r u v => by omega⟩))
/-- a state more, both sides -/
theorem MS_st {B f k j : Int} {D1 A1 : tD} {l : List Int} (h : MS c B f k D A) (h4 : D (aF 1 f) 5 = 4) (hj : j = D (aF 1 f) 7 ∧ j < 4) (hl : (l.length : Int) ≤ 12) (ht : ∀ b ∈ l, txt b) (h1 : D1 (aF 1 f + 9 + 2 * j) 1 = (l.length : Int)) (h2 : atL D1 (aF 1 f + 10 + 2 * j) 0 l) (h3 : D1 (aF 1 f) 7 = j + 1) (hD : ∀ x i, x < 1957 → x ≠ aF 1 f + 9 + 2 * j → x ≠ aF 1 f + 10 + 2 * j → ¬ (x = aF 1 f ∧ i = 7) → D1 x i = D x i) (hA : stP f j l A A1) : MS c B f k D1 A1 := by
  obtain ⟨⟨t1, t2, t3⟩, t4⟩ := MS_fT h
  have aFb := aF1 f
  have f1 := h.2.1.1
  have fa := MS_fa h
  have e8 : (8 : Int) * 1 + f = 8 + f := by omega
  obtain ⟨⟨a1, a2, a3⟩, a4, a5, a6, a7⟩ := hA
  have L : ∀ x i, x < 1957 → mx D1 A1 x i = D1 x i := fun x i u => mx_lo (by omega)
  have H : ∀ x i, 1977 ≤ x → mx D1 A1 x i = A1 x i := fun x i u => mx_hi u
  have oldL : ∀ x i, x < 1957 → mx D A x i = D x i := fun x i u => mx_lo (by omega)
  have oldH : ∀ x i, 1977 ≤ x → mx D A x i = A x i := fun x i u => mx_hi u
  have slo : ∀ x i, x < 1957 → x ≠ aF 1 f + 9 + 2 * j → x ≠ aF 1 f + 10 + 2 * j → ¬ (x = aF 1 f ∧ i = 7) → mx D1 A1 x i = mx D A x i := fun x i u y1 y2 y3 => by rw [L _ _ u, oldL _ _ u]; exact hD x i u y1 y2 y3
  have shi : ∀ x i, 1977 ≤ x → x ≠ 1989 → x ≠ 1990 → x ≠ 1991 → mx D1 A1 x i = mx D A x i := fun x i u y1 y2 y3 => by rw [H _ _ u, oldH _ _ u]; exact a7 x i y1 y2 y3
  have fT : faT (mx D1 A1) 1 f := by
    have old := fa.2.2.2.2.2.1
    obtain ⟨b1, b2, b3, b4, b5⟩ := old
    unfold faT
    rw [e8] at b5 ⊢
    rw [L _ _ (by omega), H _ _ (by omega), h3, a3, slo (aF 1 f) 5 (by omega) (by omega) (by omega) (by omega), oldL _ _ (by omega)]
    refine ⟨rfl, by omega, by omega, fun y => absurd h4 y, fun i u y => ?_⟩
    by_cases z : i = j
    · subst z
      have es : mx D1 A1 (aF 1 f + 9 + 2 * i) 1 = (l.length : Int) := by rw [L _ _ (by omega)]; exact h1
      have eb : atL (mx D1 A1) (aF 1 f + 9 + 2 * i + 1) 0 l := by
        rw [show aF 1 f + 9 + 2 * i + 1 = aF 1 f + 10 + 2 * i from by omega]
        exact atL_fr (fun j _ _ => L _ _ (by omega)) h2
      have ea : atL (mx D1 A1) 1989 (12 * (4 * (8 + f) + i)) l := atL_fr (fun j _ _ => H _ _ (by omega)) a2
      rw [H 1990 _ (by omega), a1, es]
      refine ⟨rowm_new es eb ea hl (fun b hb => by have := ht b hb; unfold txt at this; omega), ⟨by omega, by omega, fun r u1 u2 => ?_⟩⟩
      unfold rat
      rw [es, if_pos ⟨u1, u2⟩]
      have e1 := atL_lf eb r u1 u2
      rw [show (0 : Int) + r = r from by omega] at e1
      rw [e1]
      have e2 := ht _ (lf_mem (l := l) ⟨u1, u2⟩)
      have e3 : lf l r % 256 = lf l r := by unfold txt at e2; omega
      rw [e3]; exact e2
    · obtain ⟨c1, c2⟩ := b5 i u (by rw [oldL _ _ (by omega)]; omega)
      have fr3 : ∀ x r, x = aF 1 f + 9 + 2 * i ∨ x = aF 1 f + 9 + 2 * i + 1 → mx D1 A1 x r = mx D A x r := fun x r w => slo _ _ (by omega) (by omega) (by omega) (by omega)
      refine ⟨rowm_fr2 (fun r => fr3 _ _ (Or.inl rfl)) (fun r => fr3 _ _ (Or.inr rfl)) (fun r u1 u2 => ?_) ?_ c1, ?_⟩
      · rw [H _ _ (by omega), oldH _ _ (by omega)]; exact a5 _ (by omega)
      · rw [H _ _ (by omega), oldH _ _ (by omega)]; exact a4 _ (by omega)
      · rw [fr3 _ _ (Or.inl rfl)]
        exact txtP_fr (rat_fr (fr3 _ _ (Or.inl rfl)) (fun r => fr3 _ _ (Or.inr rfl))) c2
  have hfa : faR (mx D1 A1) 1 f := by
    refine faR_mk (D := mx D A) (slo _ _ (by omega) (by omega) (by omega) (by omega)) (fun x i u y => slo _ _ (by omega) (by omega) (by omega) (by omega)) (fun x i u y => shi _ _ (by omega) (by omega) (by omega) (by omega)) ?_ fT (fun y => by omega) fa
    exact faB_fr (D := mx D A) (slo _ _ (by omega) (by omega) (by omega) (by omega)) (slo _ _ (by omega) (by omega) (by omega) (by omega)) (fun i => slo _ _ (by omega) (by omega) (by omega) (by omega)) (fun i => shi _ _ (by omega) (by omega) (by omega) (by omega)) (fun i => shi _ _ (by omega) (by omega) (by omega) (by omega)) fa.2.2.2.2.1
  refine MS_to h ?_ (fun i u => hD _ _ (by omega) (by omega) (by omega) (by omega)) (fun i i2 u y z => by have := aC1 i; exact hD _ _ (by omega) (by omega) (by omega) (by omega)) (fun i u => hD _ _ (by omega) (by omega) (by omega) (by omega)) (fun i u => a7 _ _ (by omega) (by omega) (by omega))
  refine shR_fam (D := mx D A) (f := f) (Or.inr rfl) (by omega) (Int.le_refl _) (fun _ => hfa) ⟨slo _ _ (by omega) (by omega) (by omega) (by omega), ?_⟩ (fun x i u1 u2 => ?_) h.1.1.1
  · rw [slo _ _ (by omega) (by omega) (by omega) (by omega)]; exact Int.le_refl _
  · have n1 : ¬ (aF 1 f ≤ x ∧ x ≤ aF 1 f + 16) := fun w => u2 (Or.inl w)
    by_cases z : x < 1957
    · exact slo x i z (by omega) (by omega) (by omega)
    have z7 : 1977 ≤ x := by rcases u1 with w | w | w | w | w | w | w <;> omega
    by_cases z1 : x = 1989
    · subst z1
      rw [H _ _ (by omega), oldH _ _ (by omega)]
      exact a5 i (fun w => u2 (Or.inr (Or.inr (Or.inr (Or.inr (Or.inr (Or.inr (Or.inl ⟨rfl, by omega, by omega⟩))))))))
    by_cases z2 : x = 1990
    · subst z2
      rw [H _ _ (by omega), oldH _ _ (by omega)]
      exact a4 i (fun w => u2 (Or.inr (Or.inr (Or.inr (Or.inr (Or.inr (Or.inr (Or.inr (Or.inl ⟨rfl, by omega, by omega⟩)))))))))
    by_cases z3 : x = 1991
    · subst z3
      rw [H _ _ (by omega), oldH _ _ (by omega)]
      exact a6 i (fun w => u2 (Or.inr (Or.inl ⟨by omega, by omega⟩)))
    exact shi x i z7 z1 z2 z3
end STM
