/-! reading a sample: its child, the other side -/
section WHM
variable {sc : Nat × (Nat → Int32)} {D D' A A' : tD} {K : tD → Int → Prop} {E : tD → Nat → Prop} {T : Int → Int} {n c : Int}
/-- the labels of a child, on both sides -/
theorem ck_iff {k : Int} {S : List (List Int)} (hok : okD D) (hk : 0 ≤ k ∧ k < 24) (hx : chR c (mx D A) 1 k) (hS : lsIs D 1959 S) : eqr D (aC 1 k + 2) 1960 ↔ isS A (24 + k) S.flatten := by
  have aCb := aC1 k
  obtain ⟨_, ⟨⟨p1, p2, p3, p4⟩, _⟩, _⟩ := hx
  have e24 : (24 : Int) * 1 + k = 24 + k := by omega
  rw [e24] at p1 p2 p3 p4
  rw [mx_lo (by omega), mx_hi (by omega)] at p1
  rw [mx_hi (by omega)] at p2 p3 p4
  have q4 : ∀ j, 0 ≤ j → j < A 1998 (24 + k) → D (aC 1 k + 3) j % 256 = A 1997 (66 * (24 + k) + j) := fun j u v => by
    have := p4 j u v
    rw [mx_lo (by omega), mx_hi (by omega), show aC 1 k + 2 + 1 = aC 1 k + 3 from by omega] at this
    exact this
  obtain ⟨_, s2, s3, s4⟩ := hS
  have s2' : D 1960 1 = (S.flatten.length : Int) := s2
  have s3' : atL D 1961 0 S.flatten := s3
  have rng : ∀ j, 0 ≤ j → j < (S.flatten.length : Int) → 0 ≤ D 1961 j ∧ D 1961 j ≤ 127 := fun j u v => by
    have m := lbs_rng s4 _ (atL_mem s3' j u v)
    rw [show (0 : Int) + j = j from by omega] at m
    exact m
  unfold eqr isS
  rw [s2', p1, show (1960 : Int) + 1 = 1961 from rfl, show aC 1 k + 2 + 1 = aC 1 k + 3 from by omega]
  refine ⟨fun ⟨h1, h2⟩ => ⟨h1, atL_mov (D := D) (a := 1961) (o := 0) (fun j u v => ?_) s3'⟩, fun ⟨h1, h2⟩ => ⟨h1, fun j u v => ?_⟩⟩
  · have g1 := q4 j u (by omega)
    have g2 := h2 j u (by omega)
    have g3 := rng j u v
    rw [show (0 : Int) + j = j from by omega, ← g1, g2]
    omega
  · have g1 := q4 j u v
    have g3 := rng j u (by omega)
    have g4 := atL_eq h2 s3' j u (by omega)
    rw [show (0 : Int) + j = j from by omega] at g4
    have r := okD_byte hok (a := aC 1 k + 3) (j := j) (by omega) (kd_lab (Or.inr rfl) hk) ⟨u, by rw [ln_lab (Or.inr rfl) hk]; omega⟩
    omega
/-- the first child of the family -/
def fiM (A : tD) (k : Int) : Prop := ∀ i, 0 ≤ i → i < k → ¬ (A 1994 (24 + i) ≠ 0 ∧ A 1995 (24 + i) = A 1977 48)
theorem u_first1 {k : Int} (hk : 0 ≤ k ∧ k < 24) (hT : fiM A k → K A 1) (hF : ¬ fiM A k → K A 0) : ∀ (m : Nat) (i x : Int), k - i = (m : Int) → 0 ≤ i → ((x = 1 ∧ ∀ q, 0 ≤ q → q < i → ¬ (A 1994 (24 + q) ≠ 0 ∧ A 1995 (24 + q) = A 1977 48)) ∨ (x = 0 ∧ ¬ fiM A k)) → WP sc 270 5 A [(0, (1211, 1977)), (1, (0, 24 + k)), (2, (0, x)), (3, (0, 24 + i))] [] K E := by
  intro m
  induction m with
  | zero =>
    intro i x hm hi hx
    refine v270_5 ?_
    rw [if_neg (by omega)]
    rcases hx with ⟨e, h⟩ | ⟨e, h⟩
    · rw [e]; exact tbl_of (Or.inr rfl) (hT (fun q u v => h q u (by omega)))
    · rw [e]; exact tbl_of (Or.inl rfl) (hF h)
  | succ m ih =>
    intro i x hm hi hx
    refine v270_5 ?_
    rw [if_pos (by omega), w32_id (x := 24 + i + 1) (by omega) (by omega), show 24 + i + 1 = 24 + (i + 1) from by omega]
    rcases hx with ⟨e, h⟩ | ⟨e, h⟩
    · rw [if_neg (by omega)]
      refine ⟨by omega, fun h01 => ?_⟩
      by_cases z : A 1994 (24 + i) = 0
      · rw [if_pos z]
        refine ih (i + 1) 1 (by omega) (by omega) (Or.inl ⟨rfl, fun q u v => ?_⟩)
        by_cases y : q = i
        · rw [y]; exact fun w => w.1 z
        · exact h q u (by omega)
      · rw [if_neg z]
        refine ⟨by omega, ?_⟩
        by_cases z2 : A 1995 (24 + i) = A 1977 48
        · rw [if_pos z2]
          exact ih (i + 1) 0 (by omega) (by omega) (Or.inr ⟨rfl, fun w => w i hi (by omega) ⟨z, z2⟩⟩)
        · rw [if_neg z2]
          refine ih (i + 1) 1 (by omega) (by omega) (Or.inl ⟨rfl, fun q u v => ?_⟩)
          by_cases y : q = i
          · rw [y]; exact fun w => z2 w.2
          · exact h q u (by omega)
    · rw [if_pos e]
      exact ih (i + 1) 0 (by omega) (by omega) (Or.inr ⟨rfl, h⟩)
theorem u_first {k : Int} (hk : 0 ≤ k ∧ k < 24) (hT : fiM A k → K A 1) (hF : ¬ fiM A k → K A 0) : WP sc 270 0 A [(0, (1211, 1977)), (1, (0, 24 + k))] [] K E := by
  have g := u_first1 (sc := sc) (E := E) hk hT hF k.toNat 0 1 (by omega) (by omega) (Or.inl ⟨rfl, fun q u v => by omega⟩)
  exact v270_0 g
/-- first, on both sides -/
theorem fi_iff {f k : Int} (hsh : shR c (mx D A) 1) (hf : 0 ≤ f ∧ f < 8 ∧ A 1977 48 = 8 + f) (h1 : ch1 D A f k) (hct : ∀ i, 0 ≤ i → i < 24 → (D (aC 1 i) 3 = 1 ↔ i < D 980 5)) : fiM A k ↔ D 1956 13 = 1 := by
  obtain ⟨g1, _, _, _, g5, _⟩ := h1
  have one : ∀ i, 0 ≤ i → i < k → ((A 1994 (24 + i) ≠ 0 ∧ A 1995 (24 + i) = A 1977 48) ↔ D (aC 1 i) 4 = f) := fun i u v => by
    have aCb := aC1 i
    have t := (hct i u (by omega)).mpr (by omega)
    have q := hsh.2.2.1 i u (by omega)
    rw [mx_lo (by omega), mx_hi (by omega), show (24 : Int) * 1 + i = 24 + i from by omega] at q
    have q2 := (q.2.2 t).1.2.2
    rw [mx_hi (x := 1995) (by omega), mx_lo (x := aC 1 i) (by omega), show (24 : Int) * 1 + i = 24 + i from by omega] at q2
    rw [← q.1, t, q2, hf.2.2]
    omega
  rcases g5 with ⟨e1, e2⟩ | ⟨e1, i, e2, e3, e4⟩
  · refine ⟨fun _ => e1, fun _ i u v w => e2 i u v ((one i u v).mp w)⟩
  · refine ⟨fun w => absurd ((one i e2 e3).mpr e4) (w i e2 e3), fun w => by omega⟩
end WHM
