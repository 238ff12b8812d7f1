/-! reading a sample: the middle of its line -/
section MID
variable {sc : Nat × (Nat → Int32)} {D D' A A' A0 : tD} {K : tD → Int → Prop} {E : tD → Nat → Prop} {T : Int → Int} {n c : Int}
/-- counts, state bits from a place on are nought -/
def cz (D : tD) (k b0 : Int) : Prop := ∀ b, b0 ≤ b → b < 7 → D (aC 1 k + 4) b = 0
def bz (D : tD) (k b0 : Int) : Prop := ∀ b, b0 ≤ b → b < 4 → ∀ q : Nat, (q : Int) = b → (D (aC 1 k) 7).toNat.testBit q = false
/-- places and faults -/
def MQp (T : Int → Int) (n p : Int) (D A : tD) : Prop := (cu D 1957 1 T n p ∧ mu A T n p) ∧ (D 1957 2 = 0 ∧ D 1957 3 = -1 ∧ A 1977 46 = -1) ∧ D 1956 18 = 0 ∧ A 1977 61 = 0 ∧ D 1956 17 = 0
/-- the sheets, the family, the child -/
def MS (c B f k : Int) (D A : tD) : Prop := ((shR c (mx D A) 1 ∧ 0 ≤ c) ∧ ((0 ≤ B ∧ B ≤ A 1977 22) ∧ A 1977 22 ≤ B + D 980 5) ∧ ∀ i, 0 ≤ i → i < 24 → (D (aC 1 i) 3 = 1 ↔ i < D 980 5)) ∧
  ((0 ≤ f ∧ f < 8 ∧ D 980 4 = f + 1) ∧ D 1956 5 = aF 1 f ∧ D 1956 7 = f ∧ A 1977 48 = 8 + f) ∧
  ((0 ≤ k ∧ k < 24 ∧ k + 1 = D 980 5) ∧ D 1956 6 = aC 1 k ∧ A 1977 50 = 24 + k ∧ D (aC 1 k) 3 = 1 ∧ D (aC 1 k) 4 = f) ∧
  ((D 1956 13 = 1 ∧ ∀ i, 0 ≤ i → i < k → D (aC 1 i) 4 ≠ f) ∨ (D 1956 13 = 0 ∧ ∃ i, 0 ≤ i ∧ i < k ∧ D (aC 1 i) 4 = f))
/-- steps and counts -/
def MN (w dl : Int) (D A : tD) : Prop := (D 1956 15 + dl = A 1977 53 ∧ 0 ≤ D 1956 15 ∧ D 1956 15 + dl ≤ 7) ∧ (A 1977 55 = 1000 * D 1956 16 ∧ 0 ≤ D 1956 16 ∧ D 1956 16 ≤ 1000000000000) ∧ D 1956 9 = w
/-- what the kinds ask before the one more and the value -/
def KD (f k w : Int) (D A : tD) : Prop := (((D (aF 1 f) 5 = 0 ∧ (w = 1 ∨ w = 2)) ∨ (D (aF 1 f) 5 = 1 ∧ w = 0) ∨ (D (aF 1 f) 5 = 3 ∧ w = 6)) ∧ A 1977 51 = 0) ∨
  (D (aF 1 f) 5 = 2 ∧ cz D k (D 1956 15) ∧ ((w = 2 ∧ A 1977 51 = 0) ∨ w = 4 ∨ w = 5 ∨ (w = 3 ∧ ((D 1956 15 = 0 ∧ (D 1956 13 = 1 → D (aF 1 f) 6 = 0)) ∨ (1 ≤ D 1956 15 ∧ D 1956 15 ≤ D (aF 1 f) 6 ∧ (D 1956 13 = 1 → D 1956 15 = D (aF 1 f) 6) ∧ A 1977 54 = D (aF 1 f + 7) (D 1956 15 - 1)))))) ∨
  (D (aF 1 f) 5 = 4 ∧ w = 0 ∧ bz D k (D 1956 15) ∧ D 1956 15 ≤ D (aF 1 f) 7 ∧ (D 1956 13 = 1 → D 1956 15 = D (aF 1 f) 7) ∧ (D 1956 13 = 0 → D 1956 15 < D (aF 1 f) 7))
/-- the one more, both sides -/
def XD (T : Int → Int) (n q : Int) (l : List Int) (D A : tD) : Prop := (D 1958 5 = q ∧ rl D 1966 l ∧ (l.length : Int) ≤ 20 ∧ ∀ b ∈ l, txt b) ∧ (0 ≤ q ∧ q ≤ n) ∧ (A 1977 56 = q ∧ A 1977 57 = (es T n q).1 ∧ A 1977 66 = (l.length : Int) ∧ atL A 2016 0 l) ∧ l = (es T n q).2.1 ∧ (es T n q).2.2 = true ∧ pb T n (es T n q).1 = 34
theorem XD_of {q : Int} {l : List Int} (h1 : exC D (some (q, l))) (h2 : exM A T n (some (q, l))) : XD T n q l D A := by
  rcases h1 with ⟨h, _⟩ | ⟨p1, l1, e1, a1, a2, a3, a4, a5⟩
  · exact absurd h (by simp)
  rcases h2 with ⟨h, _⟩ | ⟨p2, l2, e2, b1, b2, b3⟩
  · exact absurd h (by simp)
  simp only [Option.some.injEq, Prod.mk.injEq] at e1 e2
  obtain ⟨x1, x2⟩ := e1
  obtain ⟨y1, y2⟩ := e2
  subst x1; subst x2; subst y1; subst y2
  exact ⟨⟨a2, a3, a4, a5⟩, b1, b2.2, b3⟩
theorem lb1_12 {kd most a : Int} {nF : List Int} {S : List (List Int)} {ex : Option (Int × List Int)} (hk : kd ≠ 2) (h0 : (lb1 T n kd nF most a S ex).1 = 0) (hx : ∀ p l, ex = some (p, l) → (l.length : Int) ≤ 12) : ∀ p l, (lb1 T n kd nF most a S ex).2.2.2 = some (p, l) → (l.length : Int) ≤ 12 := by
  unfold lb1 at h0 ⊢
  have hM : lbM T n kd nF a ex = 12 := by
    rcases lbM_or (T := T) (n := n) (kd := kd) (a := a) (nF := nF) (ex := ex) with w | w
    · exact absurd w.2.2 hk
    · exact w.1
  rw [hM] at h0 ⊢
  by_cases z1 : (lbN T n a).1 ≠ 0
  · rw [if_pos z1] at h0 ⊢; exact hx
  rw [if_neg z1] at h0 ⊢
  by_cases z2 : (lbV T n (lbE T n a + 2) 12).1 ≠ 0
  · rw [if_pos z2] at h0 ⊢; exact hx
  rw [if_neg z2] at h0 ⊢
  have l12 : ((es T n (lbE T n a + 2)).2.1.length : Int) ≤ 12 := by
    by_cases z : (12 : Int) < ((es T n (lbE T n a + 2)).2.1.length : Int)
    · exfalso
      refine z2 ?_
      unfold lbV
      split
      · exact show (1 : Int) ≠ 0 from by decide
      · first
          | (rw [if_pos z]; exact show (7 : Int) ≠ 0 from by decide)
          | exact show (7 : Int) ≠ 0 from by decide
    · omega
  by_cases z3 : lbZ T n kd nF a ex
  · rw [cif_pos z3]
    intro p l e
    simp only [Option.some.injEq, Prod.mk.injEq] at e
    rw [← e.2]; exact l12
  rw [cif_neg z3]
  by_cases z4 : lbO T n most a S ex
  · rw [cif_pos z4]; exact hx
  · rw [cif_neg z4]; exact hx
theorem lbs_12 {kd most : Int} {nF : List Int} (hk : kd ≠ 2) : ∀ (k : Nat) (a : Int) (S : List (List Int)) (ex : Option (Int × List Int)), (lbs T n kd nF most k a S ex).1 = 0 → (∀ p l, ex = some (p, l) → (l.length : Int) ≤ 12) → ∀ p l, (lbs T n kd nF most k a S ex).2.2.2 = some (p, l) → (l.length : Int) ≤ 12 := by
  intro k
  induction k with
  | zero => intro a S ex _ hx; exact hx
  | succ k ih =>
    intro a S ex h0 hx
    unfold lbs at h0 ⊢
    by_cases z1 : (lb1 T n kd nF most a S ex).1 ≠ 0
    · rw [if_pos z1] at h0; exact absurd h0 z1
    rw [if_neg z1] at h0 ⊢
    have g := lb1_12 hk (Classical.byContradiction z1) hx
    by_cases z2 : pb T n (lb1 T n kd nF most a S ex).2.1 = 44
    · rw [if_pos z2] at h0 ⊢
      exact ih _ _ _ h0 g
    rw [if_neg z2] at h0 ⊢
    by_cases z3 : pb T n (lb1 T n kd nF most a S ex).2.1 = 125
    · rw [if_pos z3]; exact g
    · rw [if_neg z3] at h0
      exact absurd (show (1 : Int) = 0 from h0) (by decide)
theorem sl_12 {b w : Int} {nF : List Int} (hw : w ≠ 3) (h : (slL T n b w 4 nF).1 = 0) : ∀ p l, (slL T n b w 4 nF).2.2.2 = some (p, l) → (l.length : Int) ≤ 12 := by
  have e : slK w 4 = 4 := by unfold slK; rw [if_neg hw, if_pos rfl]
  unfold slL at h ⊢
  rw [e] at h ⊢
  split
  · rename_i z
    rw [if_pos z] at h
    exact lbs_12 (by omega) _ _ _ _ h (fun p l y => absurd y (by simp))
  · exact fun p l y => absurd y (by simp)
/-- the same child -/
theorem MS_same {B f : Int} (hQ : RQ c B D A) (hf : D 980 4 = f + 1 ∧ 0 ≤ f ∧ f < 8) (h6 : D 1956 6 ≠ -1) : ∃ k, MS c B f k D A ∧ ch1 D A f k := by
  obtain ⟨h1, hwh, h22, hct, hfm⟩ := hQ
  obtain ⟨f0, f1, f2⟩ := hf
  rcases hfm with g | ⟨g1, g2, g3, g4, g5⟩
  · omega
  rw [f0, show f + 1 - 1 = f from by omega] at g2 g3 g4 g5
  rcases g5 with g | ⟨k, g⟩
  · exact absurd g.1.1 h6
  · refine ⟨k, ⟨⟨h1, h22, hct⟩, ⟨⟨f1, f2, f0⟩, g2, g3, g4⟩, ⟨⟨g.1.1, g.1.2.1, g.1.2.2⟩, g.2.1⟩, g.2.2.2.2.1⟩, g⟩
theorem KD_same {f k w : Int} (h1 : ch1 D A f k) (hk : 0 ≤ D (aF 1 f) 5 ∧ D (aF 1 f) 5 ≤ 4) (h11 : A 1977 51 = 0 ↔ D 1956 11 ≠ 0) (hw : w = D 1956 10 ∨ (w = 2 ∧ D 1956 12 = 1)) (hg : (w = 2 ∨ D 1956 11 = 0) ∨ D 1956 14 ≠ 0) : KD f k w D A := by
  obtain ⟨-, -, ⟨c1, c2, c3⟩, c4, -, c6, -, -, c9⟩ := h1
  have n2 : ∀ kd due, wnt kd due ≠ 2 := fun kd due => by
    unfold wnt
    repeat' split
    all_goals omega
  have hw' : (w = wnt (D (aF 1 f) 5) (A 1977 51)) ∨ (w = 2 ∧ D 1956 12 = 1) := by rw [← c4]; exact hw
  rcases c9 with ⟨k2, d, z⟩ | ⟨k4, d1, d2, z⟩ | ⟨k0, d⟩
  · refine Or.inr (Or.inl ⟨k2, z, ?_⟩)
    rw [if_neg (by omega)] at c6
    rcases hw' with e | ⟨e, e2⟩
    · rw [k2] at e
      have ne := n2 2 (A 1977 51)
      have d0 : A 1977 51 ≠ 0 := fun y => by
        have := h11.mp y
        omega
      unfold wnt at e
      rw [if_neg (by omega), if_pos rfl] at e
      rcases d with y | y | y | y
      · exact absurd y d0
      · rw [y, if_neg (by omega), if_pos rfl] at e; exact Or.inr (Or.inl e)
      · rw [y, if_neg (by omega), if_neg (by omega)] at e; exact Or.inr (Or.inr (Or.inl e))
      · rw [y.1, if_pos (Or.inr rfl)] at e; exact Or.inr (Or.inr (Or.inr ⟨e, Or.inr y.2⟩))
    · exact Or.inl ⟨e, (c3 e2).2⟩
  · refine Or.inr (Or.inr ⟨k4, ?_, z, d1.2, ?_⟩)
    · rcases hw' with e | ⟨e, e2⟩
      · rw [k4] at e
        unfold wnt at e
        rw [if_neg (by omega), if_neg (by omega), if_neg (by omega)] at e
        exact e
      · have := (c3 e2).1; omega
    · refine ⟨fun y => ?_, fun y => ?_⟩
      · rcases d2 with d | d
        · exact d.2.1
        · omega
      · rw [if_neg (by omega)] at c6
        rcases d2 with d | ⟨_, d | d⟩
        · omega
        · have := h11.mp d.1
          rcases hw' with e | ⟨e, e2⟩
          · exact absurd e (fun e3 => by have := n2 (D (aF 1 f) 5) (A 1977 51); omega)
          · have := (c3 e2).1; omega
        · exact d.2
  · have e11 := h11.mp d
    rw [if_neg (by omega)] at c6
    have w2 : w = 2 := by omega
    have m1 : D 1956 12 = 1 := by
      rcases hw' with e | ⟨e, e2⟩
      · exact absurd (e.symm.trans w2) (n2 _ _)
      · exact e2
    have := (c3 m1).1
    exact Or.inl ⟨Or.inl ⟨by omega, Or.inr w2⟩, d⟩
end MID
