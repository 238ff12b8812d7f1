/-! reading a sample: a bucket's bound, the other side -/
section BDM
variable {sc : Nat × (Nat → Int32)} {D D' A A' A0 : tD} {K : tD → Int → Prop} {E : tD → Nat → Prop} {T : Int → Int} {n c : Int}
theorem tlc_p {x y : Int} : 0 < tlc x y ↔ y < x := by
  unfold tlc
  split
  · constructor <;> intro _ <;> omega
  · split <;> constructor <;> intro _ <;> omega
theorem MS_fa {B f k : Int} (h : MS c B f k D A) : faR (mx D A) 1 f := by
  obtain ⟨⟨⟨h1, _⟩, _⟩, ⟨⟨f1, f2, f3⟩, _⟩, _⟩ := h
  exact h1.2.1 f f1 (by rw [mx_lo (by omega)]; show f < D 980 4; omega)
theorem MS_fB {B f k : Int} (h : MS c B f k D A) : (D (aF 1 f) 6 = A 1988 (8 + f) ∧ 0 ≤ D (aF 1 f) 6 ∧ D (aF 1 f) 6 ≤ 6) ∧ (∀ i, 0 ≤ i → i < D (aF 1 f) 6 → D (aF 1 f + 7) i = A 1987 (6 * (8 + f) + i) ∧ -mostN ≤ D (aF 1 f + 7) i ∧ D (aF 1 f + 7) i ≤ mostN) ∧ (∀ i, 0 ≤ i → i + 1 < D (aF 1 f) 6 → D (aF 1 f + 7) i < D (aF 1 f + 7) (i + 1)) ∧ (D (aF 1 f) 5 = A 1980 (8 + f) ∧ 0 ≤ D (aF 1 f) 5 ∧ D (aF 1 f) 5 ≤ 4) := by
  have fa := MS_fa h
  have aFb := aF1 f
  have f1 := h.2.1.1
  obtain ⟨a1, _, _, _, ⟨b1, b2, b3, b4, b5, b6⟩, _⟩ := fa
  have e8 : (8 : Int) * 1 + f = 8 + f := by omega
  rw [e8] at a1 b1 b5
  have l0 : ∀ j, mx D A (aF 1 f) j = D (aF 1 f) j := fun j => mx_lo (by omega)
  have l7 : ∀ j, mx D A (aF 1 f + 7) j = D (aF 1 f + 7) j := fun j => mx_lo (by omega)
  have hh : ∀ x j, 1977 ≤ x → mx D A x j = A x j := fun x j u => mx_hi u
  rw [l0, hh _ _ (by omega)] at a1 b1
  rw [l0] at b2 b3
  refine ⟨⟨b1, b2, b3⟩, fun i u v => ?_, fun i u v => ?_, a1⟩
  · have := b5 i u (by rw [l0]; exact v)
    rw [l7, hh _ _ (by omega)] at this
    exact this
  · have := b6 i u (by rw [l0]; exact v)
    rw [l7, l7] at this
    exact this
theorem fi_ms {B f k : Int} (h : MS c B f k D A) : fiM A k ↔ D 1956 13 = 1 := by
  obtain ⟨⟨⟨hsh, _⟩, _, hct⟩, ⟨⟨f1, f2, f3⟩, _, _, g4⟩, ⟨⟨k1, k2, k3⟩, _⟩, g5⟩ := h
  have one : ∀ i, 0 ≤ i → i < k → ((A 1994 (24 + i) ≠ 0 ∧ A 1995 (24 + i) = A 1977 48) ↔ D (aC 1 i) 4 = f) := fun i u v => by
    have aCb := aC1 i
    have t := (hct i u (by omega)).mpr (by omega)
    have q := hsh.2.2.1 i u (by omega)
    rw [mx_lo (by omega), mx_hi (by omega), show (24 : Int) * 1 + i = 24 + i from by omega] at q
    have q2 := (q.2.2 t).1.2.2
    rw [mx_hi (x := 1995) (by omega), mx_lo (x := aC 1 i) (by omega), show (24 : Int) * 1 + i = 24 + i from by omega] at q2
    rw [← q.1, t, q2, g4]
    omega
  rcases g5 with ⟨e1, e2⟩ | ⟨e1, i, e2, e3, e4⟩
  · refine ⟨fun _ => e1, fun _ i u v w => e2 i u v ((one i u v).mp w)⟩
  · refine ⟨fun w => absurd ((one i e2 e3).mpr e4) (w i e2 e3), fun w => by omega⟩
/-- may the bound stand here -/
def bdK (f v : Int) (D : tD) : Prop := (D 1956 13 = 0 ∧ D 1956 15 < D (aF 1 f) 6 ∧ v = D (aF 1 f + 7) (D 1956 15)) ∨ (D 1956 13 = 1 ∧ D 1956 15 < 6 ∧ (D (aF 1 f) 6 = 0 ∨ D (aF 1 f + 7) (D (aF 1 f) 6 - 1) < v))
/-- the bound's step on the other side -/
def bdA (f j v : Int) (A : tD) : tD := wr (wr A 1987 (6 * (8 + f) + j) v) 1988 (8 + f) (j + 1)
theorem u_bd134 {B f k q : Int} {A1 : tD} {x : Int} (hM : MS c B f k D A) (hN : MN 3 0 D A) (hk : KD f k 3 D A) (h2 : D (aF 1 f) 5 = 2) (hf : ∀ x j, x ≠ 2014 → x ≠ 1977 → A1 x j = A x j) (hf7 : ∀ j, 48 ≤ j → j ≤ 57 → A1 1977 j = A 1977 j) (h45 : A1 1977 45 = 0) (h56 : A1 1977 56 = q) (hx : (x = 1 ∧ D 1956 13 = 1) ∨ (x = 0 ∧ D 1956 13 = 0)) (h67 : A1 1977 67 = 0 ∨ A1 1977 67 = 1) (hI : A1 1977 67 = 1 → D 1956 15 = D (aF 1 f) 6 → K A1 1) (hI0 : A1 1977 67 = 1 → D 1956 15 ≠ D (aF 1 f) 6 → K (fl A1 12 q) 0) (hV : A1 1977 67 = 0 → bdK f (A1 1977 68) D → K (if D 1956 13 = 1 then bdA f (D 1956 15) (A1 1977 68) A1 else A1) 1) (hV0 : A1 1977 67 = 0 → ¬ bdK f (A1 1977 68) D → K (fl A1 12 q) 0) : A1 1977 67 = 1 ∨ D 1956 15 = 0 ∨ A 1977 54 < A1 1977 68 → WP sc 274 134 A1 [(0, (1211, 1977)), (1, (0, 8 + f)), (2, (0, x))] [] K E := fun hb => by
  obtain ⟨⟨b1, b2, b3⟩, b4, b5, b6⟩ := MS_fB hM
  obtain ⟨f1, f2, f3⟩ := hM.2.1.1
  obtain ⟨⟨s1, s2, s3⟩, _⟩ := hN
  have e53 : A1 1977 53 = D 1956 15 := by rw [hf7 _ (by omega) (by omega)]; omega
  have e88 : A1 1988 (8 + f) = D (aF 1 f) 6 := by rw [hf _ _ (by omega) (by omega)]; exact b1.symm
  have st : (D 1956 15 = 0 ∧ (D 1956 13 = 1 → D (aF 1 f) 6 = 0)) ∨ (1 ≤ D 1956 15 ∧ D 1956 15 ≤ D (aF 1 f) 6 ∧ (D 1956 13 = 1 → D 1956 15 = D (aF 1 f) 6) ∧ A 1977 54 = D (aF 1 f + 7) (D 1956 15 - 1)) := by
    rcases hk with g | g | g
    · omega
    · rcases g.2.2 with y | y | y | y
      · omega
      · omega
      · omega
      · exact y.2
    · omega
  have s6 : D 1956 15 ≤ 6 := by rcases st with y | y <;> omega
  refine v274_134 ?_
  rw [e53, e88, w32_id (x := 6 * (8 + f)) (by omega) (by omega), w32_id (x := 6 * (8 + f) + D 1956 15) (by omega) (by omega)]
  rcases hx with ⟨x1, y1⟩ | ⟨x0, y0⟩
  · rw [if_neg (by omega)]
    intro _
    rcases h67 with z | z
    · rw [if_pos z]
      have iff1 : bdK f (A1 1977 68) D ↔ D 1956 15 < 6 := by
        unfold bdK
        refine ⟨fun w => by rcases w with w | w <;> omega, fun w => Or.inr ⟨y1, w, ?_⟩⟩
        rcases st with y | ⟨y, y2, y3, y4⟩
        · exact Or.inl (y.2 y1)
        · refine Or.inr ?_
          rw [← y3 y1, ← y4]
          omega
      by_cases z6 : D 1956 15 < 6
      · rw [if_pos z6, if_neg (by omega)]
        intro _
        rw [if_pos z]
        refine ⟨⟨by omega, by omega⟩, ⟨by omega, by omega⟩, ⟨by omega, by omega⟩, ?_⟩
        have g := hV z (iff1.mpr z6)
        rw [if_pos y1] at g
        have e15 : D (aF 1 f) 6 = D 1956 15 := by
          rcases st with y | ⟨y, y2, y3, y4⟩
          · rw [y.2 y1, y.1]
          · exact (y3 y1).symm
        have e : (wr A1 1987 (6 * (8 + f) + D 1956 15) (A1 1977 68)) 1988 (8 + f) = D 1956 15 := by rw [wr_ne (by omega), e88, e15]
        rw [e, w32_id (x := D 1956 15 + 1) (by omega) (by omega)]
        exact g
      · rw [if_neg z6, h56]
        exact u_fails h45 (hV0 z (fun w => z6 (iff1.mp w)))
    · rw [if_neg (by omega), if_neg (by omega)]
      intro _
      rw [if_neg (by omega)]
      refine hI z ?_
      rcases st with y | ⟨y, y2, y3, y4⟩
      · rw [y.2 y1, y.1]
      · exact y3 y1
  · rw [if_pos x0]
    intro _
    rcases h67 with z | z
    · rw [if_pos z]
      refine ⟨⟨by omega, by omega⟩, ?_⟩
      by_cases zl : D 1956 15 < D (aF 1 f) 6
      · rw [if_pos zl]
        have q := b4 _ s2 zl
        have e87 : A1 1987 (6 * (8 + f) + D 1956 15) = D (aF 1 f + 7) (D 1956 15) := by rw [hf _ _ (by omega) (by omega)]; exact q.1.symm
        rw [e87]
        refine ⟨⟨by omega, by omega⟩, ?_⟩
        by_cases ze : A1 1977 68 = D (aF 1 f + 7) (D 1956 15)
        · rw [if_pos (tlc_z.mpr ze), if_pos x0]
          have g := hV z (Or.inl ⟨y0, zl, ze⟩)
          rw [if_neg (by omega)] at g
          exact g
        · rw [if_neg (fun w => ze (tlc_z.mp w)), h56]
          refine u_fails h45 (hV0 z (fun w => ?_))
          rcases w with w | w
          · exact ze w.2.2
          · omega
      · rw [if_neg zl, h56]
        refine u_fails h45 (hV0 z (fun w => ?_))
        rcases w with w | w
        · exact zl w.2.1
        · omega
    · rw [if_neg (by omega)]
      refine ⟨⟨by omega, by omega⟩, ?_⟩
      by_cases ze : D 1956 15 = D (aF 1 f) 6
      · rw [if_pos ze, if_pos x0]; exact hI z ze
      · rw [if_neg ze, h56]
        exact u_fails h45 (hI0 z ze)
/-- the other side reads a bound -/
theorem u_bound {p B f k q : Int} {l : List Int} (hQ : MQp T n p D A) (hM : MS c B f k D A) (hN : MN 3 0 D A) (hk : KD f k 3 D A) (h2 : D (aF 1 f) 5 = 2) (hX : XD T n q l D A) (hI : wdM l 16 → D 1956 15 = D (aF 1 f) 6 → K (wr A 1977 67 1) 1) (hI0 : wdM l 16 → D 1956 15 ≠ D (aF 1 f) 6 → K (fl (wr A 1977 67 1) 12 q) 0) (hS0 : ¬ wdM l 16 → ¬ spP l → ∀ A1, frV A A1 → A1 1977 22 = A 1977 22 → K (fl A1 11 q) 0) (hV : ¬ wdM l 16 → spP l → bdK f (spV l).2.1 D → ∀ A1, (∀ x j, x ≠ 2014 → x ≠ 1977 → A1 x j = A x j) → (∀ j, j ≠ 58 → j ≠ 67 → j ≠ 68 → A1 1977 j = A 1977 j) → A1 1977 67 = 0 → A1 1977 68 = (spV l).2.1 → K (if D 1956 13 = 1 then bdA f (D 1956 15) (spV l).2.1 A1 else A1) 1) (hV0 : ¬ wdM l 16 → spP l → ¬ bdK f (spV l).2.1 D → ∀ A1, frV A A1 → A1 1977 22 = A 1977 22 → K (fl A1 12 q) 0) : WP sc 274 0 A [(0, (1211, 1977))] [] K E := by
  obtain ⟨⟨d1, d2, d3, d4⟩, ⟨q0, qn⟩, ⟨x56, x57, x66, x16⟩, el, et, e34⟩ := hX
  obtain ⟨⟨_, hmu⟩, ⟨_, _, m46⟩, _⟩ := hQ
  have cm := hmu.2
  obtain ⟨g48a, g48⟩ : (0 ≤ f ∧ f < 8) ∧ A 1977 48 = 8 + f := ⟨⟨hM.2.1.1.1, hM.2.1.1.2.1⟩, hM.2.1.2.2.2⟩
  have g50 := hM.2.2.1.2.2.1
  have kk := hM.2.2.1.1
  have fi := fi_ms hM
  have m45 := hmu.1.2.2
  have hN2 := hN
  obtain ⟨⟨s1, s2, s3⟩, _⟩ := hN
  have v1 : ∀ z x j, ¬ (x = 1977 ∧ j = 67) → (wr A 1977 67 z) x j = A x j := fun z x j u => by
    by_cases y : x = 1977
    · subst y; exact wr_ni (by omega)
    · exact wr_ne y
  refine v274_0 (u_more (l := l) (by omega) x66 x16 (by omega) (fun wi => ?_) (fun wi => ?_))
  · refine tbl_of (Or.inr rfl) (fun _ => ?_)
    rw [wr_self, if_neg (by omega), v1 _ 1977 50 (by omega), g50, g48]
    have fe : fiM (wr A 1977 67 1) k ↔ fiM A k := by
      unfold fiM
      have e4 : ∀ j, (wr A 1977 67 1) 1994 j = A 1994 j := fun j => v1 _ _ _ (by omega)
      have e5 : ∀ j, (wr A 1977 67 1) 1995 j = A 1995 j := fun j => v1 _ _ _ (by omega)
      simp only [e4, e5, v1 _ 1977 48 (show ¬ ((1977 : Int) = 1977 ∧ (48 : Int) = 67) by omega)]
    have tail : ∀ x, ((x = 1 ∧ D 1956 13 = 1) ∨ (x = 0 ∧ D 1956 13 = 0)) → WP sc 274 134 (wr A 1977 67 1) [(0, (1211, 1977)), (1, (0, 8 + f)), (2, (0, x))] [] K E := fun x hx => by
      refine u_bd134 (q := q) hM hN2 hk h2 (fun x j u v => wr_ne v) (fun j u v => wr_ni (by omega)) (by rw [wr_ni (by omega)]; exact m45) (by rw [wr_ni (by omega)]; exact x56) hx (Or.inr wr_self) (fun _ => hI wi) (fun _ => hI0 wi) (fun y => ?_) (fun y => ?_) (Or.inl wr_self)
      · rw [wr_self] at y; omega
      · rw [wr_self] at y; omega
    refine u_first ⟨kk.1, kk.2.1⟩ (fun y => ?_) (fun y => ?_)
    · rw [wr_self]
      intro _
      rw [if_neg (by omega)]
      exact tail 1 (Or.inl ⟨rfl, fi.mp (fe.mp y)⟩)
    · rw [wr_self]
      intro _
      rw [if_neg (by omega)]
      refine tail 0 (Or.inr ⟨rfl, ?_⟩)
      have := hM.2.2.2
      rcases this with w | w
      · exact absurd (fe.mpr (fi.mpr w.1)) y
      · exact w.1
  · refine tbl_of (Or.inl rfl) (fun _ => ?_)
    rw [wr_self, if_pos rfl, v1 _ 1977 56 (by omega), x56]
    have h0 : mu (wr (wr A 1977 67 0) 1977 47 q) T n q := mu_wr (mu_to hmu (b := p) ⟨cm.1.1, cm.1.2.1⟩ (by rw [wr_ni (by omega)]; exact hmu.1.1) (wr_ni (by omega)) (wr_ni (by omega)) (fun j => wr_ne (by omega))) ⟨q0, qn⟩
    have e47 : (wr A 1977 67 0) 1977 47 = p := by rw [wr_ni (by omega)]; exact hmu.1.1
    have iff1 := sp_iff (T := T) (n := n) (p := q) ⟨q0, qn⟩ et e34
    rw [← el] at iff1
    have w0 : ∀ x j, ¬ (x = 1977 ∧ (j = 67 ∨ j = 47)) → (wr (wr A 1977 67 0) 1977 47 q) x j = A x j := fun x j u => by
      by_cases y : x = 1977
      · subst y; rw [wr_ni (by omega), wr_ni (by omega)]
      · rw [wr_ne y, wr_ne y]
    /- not spelled -/
    have bad : ¬ spP l → ∀ A4 : tD, (∀ x j, x ≠ 1977 → x ≠ 2014 → A4 x j = A x j) → (∀ j, j < 45 ∨ 48 ≤ j → j ≠ 58 → j ≠ 67 → A4 1977 j = A 1977 j) → WP sc 251 0 (wr (wr A4 1977 47 ((wr A 1977 67 0) 1977 47)) 1977 45 0) [(0, (1211, 1977)), (1, (0, 11)), (2, (0, (wr (wr A4 1977 47 ((wr A 1977 67 0) 1977 47)) 1977 45 0) 1977 56))] [] (fun D7 r8 => tbl r8 (K D7 r8)) E := fun ns A4 o1 o2 => by
      have e56 : (wr (wr A4 1977 47 ((wr A 1977 67 0) 1977 47)) 1977 45 0) 1977 56 = q := by rw [wr_ni (by omega), wr_ni (by omega), o2 _ (by omega) (by omega) (by omega)]; exact x56
      rw [e56]
      refine u_fails wr_self (hS0 wi ns _ (fun x j u => ?_) ?_)
      · by_cases y : x = 1977
        · subst y
          rw [wr_ni (by omega), wr_ni (by omega)]
          exact o2 j (by omega) (by omega) (by omega)
        · rw [wr_ne y, wr_ne y]
          exact o1 x j y (by omega)
      · rw [wr_ni (by omega), wr_ni (by omega)]
        exact o2 _ (by omega) (by omega) (by omega)
    refine u_num h0 (fun e0 => ?_) (fun e0 A4 a1 a2 a3 => ?_)
    rotate_left
    · rw [if_pos rfl]
      refine bad (fun y => e0 (iff1.mpr y).1) A4 (fun x j u _ => ?_) (fun j u u2 u3 => ?_)
      · rw [a3 x j (by omega)]; exact w0 x j (by omega)
      · rw [a3 _ j (by omega)]; exact w0 _ j (by omega)
    rw [if_neg (by omega)]
    have nr := nmb_rng e0 ⟨q0, qn⟩
    generalize hA4 : wr (wr (wr (wr A 1977 67 0) 1977 47 q) 1977 47 (nmb T n q).2.2) 1977 58 (nmb T n q).2.1 = A4
    have o4 : ∀ x j, x ≠ 1977 → A4 x j = A x j := fun x j u => by rw [← hA4, wr_ne u, wr_ne u, wr_ne u, wr_ne u]
    have o47 : ∀ j, j ≠ 47 → j ≠ 58 → j ≠ 67 → A4 1977 j = A 1977 j := fun j u v y => by rw [← hA4, wr_ni v, wr_ni u, wr_ni u, wr_ni y]
    have r47 : A4 1977 47 = (nmb T n q).2.2 := by rw [← hA4, wr_ni (by omega), wr_self]
    have r58 : A4 1977 58 = (nmb T n q).2.1 := by rw [← hA4, wr_self]
    have r67 : A4 1977 67 = 0 := by rw [← hA4, wr_ni (by omega), wr_ni (by omega), wr_ni (by omega), wr_self]
    rw [r47, o47 57 (by omega) (by omega) (by omega), x57]
    by_cases z57 : (nmb T n q).2.2 = (es T n q).1
    rotate_left
    · rw [if_neg z57]
      exact bad (fun y => z57 (iff1.mpr y).2.1) A4 (fun x j u _ => o4 x j u) (fun j u u2 u3 => o47 j (by omega) u2 u3)
    rw [if_pos z57]
    refine u_written (l := l) (by rw [o47 _ (by omega) (by omega) (by omega)]; exact x66) (atL_fr (fun j _ _ => o4 _ _ (by omega)) x16) (by omega) (by rw [r58]; exact nr) (fun ew A5 o5 => ?_) (fun ew A5 o5 => ?_)
    rotate_left
    · rw [if_pos rfl]
      rw [r58] at ew
      exact bad (fun y => ew (iff1.mpr y).2.2) A5 (fun x j u u2 => by rw [o5 x j u2]; exact o4 x j u) (fun j u u2 u3 => by rw [o5 _ j (by omega)]; exact o47 j (by omega) u2 u3)
    rw [if_neg (by omega)]
    rw [r58] at ew
    have sp : spP l := iff1.mp ⟨e0, z57, ew⟩
    have ev : (nmb T n q).2.1 = (spV l).2.1 := by
      have g := sp_val (T := T) (n := n) (p := q) ⟨q0, qn⟩ et e34 (by rw [← el]; exact sp)
      rw [← el] at g
      exact g
    have e58 : (wr A5 1977 47 ((wr A 1977 67 0) 1977 47)) 1977 58 = (spV l).2.1 := by rw [wr_ni (by omega), o5 _ _ (by omega), r58, ev]
    rw [e58, e47]
    generalize hA6 : wr (wr A5 1977 47 p) 1977 68 (spV l).2.1 = A6
    have o6 : ∀ x j, x ≠ 2014 → x ≠ 1977 → A6 x j = A x j := fun x j u v => by rw [← hA6, wr_ne v, wr_ne v, o5 x j u, o4 x j v]
    have o67 : ∀ j, j ≠ 58 → j ≠ 67 → j ≠ 68 → A6 1977 j = A 1977 j := fun j u v y => by
      rw [← hA6, wr_ni y]
      by_cases z : j = 47
      · rw [z, wr_self]; exact hmu.1.1.symm
      · rw [wr_ni z, o5 _ _ (by omega), o47 j z u v]
    have t67 : A6 1977 67 = 0 := by rw [← hA6, wr_ni (by omega), wr_ni (by omega), o5 _ _ (by omega)]; exact r67
    have t68 : A6 1977 68 = (spV l).2.1 := by rw [← hA6, wr_self]
    rw [o67 50 (by omega) (by omega) (by omega), g50]
    have fe : fiM A6 k ↔ fiM A k := by
      unfold fiM
      have e4 : ∀ j, A6 1994 j = A 1994 j := fun j => o6 _ _ (by omega) (by omega)
      have e5 : ∀ j, A6 1995 j = A 1995 j := fun j => o6 _ _ (by omega) (by omega)
      simp only [e4, e5, o67 48 (by omega) (by omega) (by omega)]
    have V6 : frV A A6 := fun x j u => by
      by_cases y : x = 1977
      · subst y; exact o67 j (by omega) (by omega) (by omega)
      · exact o6 x j (by omega) y
    have tail : ∀ x, ((x = 1 ∧ D 1956 13 = 1) ∨ (x = 0 ∧ D 1956 13 = 0)) → (A6 1977 67 = 1 ∨ D 1956 15 = 0 ∨ A 1977 54 < A6 1977 68) → WP sc 274 134 A6 [(0, (1211, 1977)), (1, (0, 8 + f)), (2, (0, x))] [] K E := fun x hx hb => by
      refine u_bd134 (q := q) hM hN2 hk h2 o6 (fun j u v => o67 j (by omega) (by omega) (by omega)) (by rw [o67 _ (by omega) (by omega) (by omega)]; exact m45) (by rw [o67 _ (by omega) (by omega) (by omega)]; exact x56) hx (Or.inl t67) (fun y => by omega) (fun y => by omega) (fun _ y => ?_) (fun _ y => ?_) hb
      · rw [t68] at y ⊢
        exact hV wi sp y A6 o6 o67 t67 t68
      · rw [t68] at y
        exact hV0 wi sp y A6 V6 (o67 _ (by omega) (by omega) (by omega))
    have mid : ∀ x, ((x = 1 ∧ D 1956 13 = 1) ∨ (x = 0 ∧ D 1956 13 = 0)) → (if A6 1977 53 = 0 then (WP sc 274 134 A6 [(0, (1211, 1977)), (1, (0, A 1977 48)), (2, (0, x))] [] K E) else (if 0 < tlc (A6 1977 68) (A6 1977 54) then (WP sc 274 134 A6 [(0, (1211, 1977)), (1, (0, A 1977 48)), (2, (0, x))] [] K E) else (if x = 0 then (WP sc 251 0 A6 [(0, (1211, 1977)), (1, (0, 12)), (2, (0, A6 1977 56))] [] (fun D19 r20 => tbl r20 (K D19 r20)) E) else (WP sc 251 0 A6 [(0, (1211, 1977)), (1, (0, 12)), (2, (0, A6 1977 56))] [] (fun D22 r23 => tbl r23 (K D22 r23)) E)))) := fun x hx => by
      rw [o67 53 (by omega) (by omega) (by omega), o67 54 (by omega) (by omega) (by omega), o67 56 (by omega) (by omega) (by omega), x56, g48]
      by_cases z3 : A 1977 53 = 0
      · rw [if_pos z3]
        exact tail x hx (Or.inr (Or.inl (by omega)))
      rw [if_neg z3]
      by_cases zt : A 1977 54 < A6 1977 68
      · rw [if_pos (tlc_p.mpr zt)]
        exact tail x hx (Or.inr (Or.inr zt))
      rw [if_neg (fun y => zt (tlc_p.mp y))]
      have nb : ¬ bdK f (spV l).2.1 D := by
        obtain ⟨⟨b1, b2, b3⟩, b4, b5, b6⟩ := MS_fB hM
        have st : 1 ≤ D 1956 15 ∧ D 1956 15 ≤ D (aF 1 f) 6 ∧ (D 1956 13 = 1 → D 1956 15 = D (aF 1 f) 6) ∧ A 1977 54 = D (aF 1 f + 7) (D 1956 15 - 1) := by
          rcases hk with g | g | g
          · omega
          · rcases g.2.2 with y | y | y | ⟨_, y | y⟩
            · omega
            · omega
            · omega
            · omega
            · exact y
          · omega
        rw [t68] at zt
        intro y
        rcases y with ⟨y1, y2, y3⟩ | ⟨y1, y2, y3⟩
        · have g := b5 (D 1956 15 - 1) (by omega) (by omega)
          rw [show D 1956 15 - 1 + 1 = D 1956 15 from by omega] at g
          omega
        · rw [← st.2.2.1 y1] at y3
          rcases y3 with y3 | y3
          · omega
          · omega
      have fin := hV0 wi sp nb A6 V6 (o67 _ (by omega) (by omega) (by omega))
      have f45 : A6 1977 45 = 0 := by rw [o67 _ (by omega) (by omega) (by omega)]; exact m45
      split
      · exact u_fails f45 fin
      · exact u_fails f45 fin
    refine u_first ⟨kk.1, kk.2.1⟩ (fun y => ?_) (fun y => ?_)
    · rw [t67]
      intro _
      rw [if_pos rfl]
      exact mid 1 (Or.inl ⟨rfl, fi.mp (fe.mp y)⟩)
    · rw [t67]
      intro _
      rw [if_pos rfl]
      refine mid 0 (Or.inr ⟨rfl, ?_⟩)
      rcases hM.2.2.2 with w | w
      · exact absurd (fe.mpr (fi.mpr w.1)) y
      · exact w.1
end BDM
