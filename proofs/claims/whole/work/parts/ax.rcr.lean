/-! reading: how both sides stand to each other between two lines -/
section RCR
variable {sc : Nat × (Nat → Int32)} {D D' A A' : tD} {K : tD → Int → Prop} {E : tD → Nat → Prop} {T : Int → Int} {n c : Int}
/-- the class's memory and the other side's -/
def mx (D A : tD) : tD := fun x j => if x < 1977 then D x j else A x j
theorem mx_lo {x j : Int} (h : x < 1977) : mx D A x j = D x j := if_pos h
theorem mx_hi {x j : Int} (h : 1977 ≤ x) : mx D A x j = A x j := if_neg (by omega)
/-- the part that a line of a kind must tell -/
def wnt (kd due : Int) : Int := if kd = 0 then 1 else if kd = 2 then (if due = 0 ∨ due = 1 then 3 else if due = 2 then 4 else 5) else if kd = 3 then 6 else 0
theorem wnt_0 {kd : Int} : wnt kd 0 = fpt kd := by
  unfold wnt fpt
  rw [if_pos (Or.inl rfl)]
/-- no child of the family yet -/
def ch0 (D A : tD) (f : Int) : Prop := (D 1956 6 = -1 ∧ A 1977 50 = -1) ∧ (D 1956 11 = 1 ∧ A 1977 51 = 0) ∧ (D 1956 12 = 0 ∧ A 1977 52 = 0) ∧ D 1956 10 = fpt (D (aF 1 f) 5) ∧ (∀ k, 0 ≤ k → k < 24 → D (aC 1 k) 3 = 1 → D (aC 1 k) 4 ≠ f) ∧ D (aF 1 f) 6 = 0 ∧ D (aF 1 f) 7 = 0
/-- the child that is being read -/
def ch1 (D A : tD) (f k : Int) : Prop := (0 ≤ k ∧ k < 24 ∧ k + 1 = D 980 5) ∧ (D 1956 6 = aC 1 k ∧ A 1977 50 = 24 + k ∧ D (aC 1 k) 3 = 1 ∧ D (aC 1 k) 4 = f) ∧
  ((D 1956 12 = 0 ∨ D 1956 12 = 1) ∧ D 1956 12 = A 1977 52 ∧ (D 1956 12 = 1 → (D (aF 1 f) 5 = 0 ∨ D (aF 1 f) 5 = 2) ∧ A 1977 51 = 0)) ∧
  D 1956 10 = wnt (D (aF 1 f) 5) (A 1977 51) ∧
  ((D 1956 13 = 1 ∧ ∀ i, 0 ≤ i → i < k → D (aC 1 i) 4 ≠ f) ∨ (D 1956 13 = 0 ∧ ∃ i, 0 ≤ i ∧ i < k ∧ D (aC 1 i) 4 = f)) ∧
  (D 1956 14 = if D 1956 13 = 1 ∧ D (aF 1 f) 5 = 4 then 1 else 0) ∧
  (D 1956 15 = A 1977 53 ∧ 0 ≤ D 1956 15 ∧ D 1956 15 ≤ 7) ∧ (A 1977 55 = 1000 * D 1956 16 ∧ 0 ≤ D 1956 16 ∧ D 1956 16 ≤ 1000000000000) ∧
  ((D (aF 1 f) 5 = 2 ∧ (A 1977 51 = 0 ∨ A 1977 51 = 2 ∨ A 1977 51 = 3 ∨ (A 1977 51 = 1 ∧ 1 ≤ D 1956 15 ∧ D 1956 15 ≤ D (aF 1 f) 6 ∧ (D 1956 13 = 1 → D 1956 15 = D (aF 1 f) 6) ∧ A 1977 54 = D (aF 1 f + 7) (D 1956 15 - 1))) ∧ ∀ b, D 1956 15 ≤ b → b < 7 → D (aC 1 k + 4) b = 0) ∨
   (D (aF 1 f) 5 = 4 ∧ (1 ≤ D 1956 15 ∧ D 1956 15 ≤ D (aF 1 f) 7) ∧ ((D 1956 13 = 1 ∧ D 1956 15 = D (aF 1 f) 7 ∧ A 1977 51 = 0) ∨ (D 1956 13 = 0 ∧ ((A 1977 51 = 0 ∧ D 1956 15 = D (aF 1 f) 7) ∨ (A 1977 51 = 4 ∧ D 1956 15 < D (aF 1 f) 7)))) ∧ ∀ b, D 1956 15 ≤ b → b < 4 → ∀ q : Nat, (q : Int) = b → (D (aC 1 k) 7).toNat.testBit q = false) ∨
   ((D (aF 1 f) 5 = 0 ∨ D (aF 1 f) 5 = 1 ∨ D (aF 1 f) 5 = 3) ∧ A 1977 51 = 0))
def chP (D A : tD) (f : Int) : Prop := ch0 D A f ∨ ∃ k, ch1 D A f k
theorem chP_fr {f : Int} (h : chP D A f) (hf : 0 ≤ f ∧ f < 8) (hD : ∀ x j, (980 ≤ x ∧ x < 1955 ∧ ¬ (aF 1 f + 1 ≤ x ∧ x ≤ aF 1 f + 6)) ∨ (x = 1956 ∧ j ≠ 8 ∧ j ≠ 9 ∧ j ≠ 17) → D' x j = D x j) (hA : ∀ j, 50 ≤ j → j ≤ 55 → A' 1977 j = A 1977 j) : chP D' A' f := by
  have aFb : aF 1 f = 982 + 17 * f := by unfold aF; omega
  have e5 : ∀ j, D' (aF 1 f) j = D (aF 1 f) j := fun j => hD _ _ (by omega)
  have e7 : ∀ j, D' (aF 1 f + 7) j = D (aF 1 f + 7) j := fun j => hD _ _ (by omega)
  have r : ∀ j, j ≠ 8 ∧ j ≠ 9 ∧ j ≠ 17 → D' 1956 j = D 1956 j := fun j u => hD _ _ (by omega)
  have ck : ∀ i d j, 0 ≤ i → i < 24 → 0 ≤ d → d ≤ 33 → D' (aC 1 i + d) j = D (aC 1 i + d) j := fun i d j u v w1 w2 => by
    have : aC 1 i = 1136 + 34 * i := by unfold aC; omega
    exact hD _ _ (by omega)
  have ck0 : ∀ i j, 0 ≤ i → i < 24 → D' (aC 1 i) j = D (aC 1 i) j := fun i j u v => by
    have := ck i 0 j u v (by omega) (by omega)
    rw [show aC 1 i + 0 = aC 1 i from by omega] at this
    exact this
  rcases h with h | ⟨k, h⟩
  · refine Or.inl ?_
    obtain ⟨h1, h2, h3, h4, h5, h6, h7⟩ := h
    refine ⟨?_, ?_, ?_, ?_, fun k u v => ?_, ?_, ?_⟩
    · rw [r _ (by omega), hA _ (by omega) (by omega)]; exact h1
    · rw [r _ (by omega), hA _ (by omega) (by omega)]; exact h2
    · rw [r _ (by omega), hA _ (by omega) (by omega)]; exact h3
    · rw [r _ (by omega), e5]; exact h4
    · rw [ck0 k _ u v, ck0 k _ u v]; exact h5 k u v
    · rw [e5]; exact h6
    · rw [e5]; exact h7
  · refine Or.inr ⟨k, ?_⟩
    obtain ⟨h1, h2, h3, h4, h5, h6, h7, h8, h9⟩ := h
    have e980 : D' 980 5 = D 980 5 := hD _ _ (by omega)
    refine ⟨?_, ?_, ?_, ?_, ?_, ?_, ?_, ?_, ?_⟩
    · rw [e980]; exact h1
    · rw [r _ (by omega), hA _ (by omega) (by omega), ck0 k _ h1.1 h1.2.1, ck0 k _ h1.1 h1.2.1]; exact h2
    · rw [r _ (by omega), hA 52 (by omega) (by omega), hA 51 (by omega) (by omega), e5]; exact h3
    · rw [r _ (by omega), hA 51 (by omega) (by omega), e5]; exact h4
    · rw [r _ (by omega)]
      rcases h5 with ⟨g1, g2⟩ | ⟨g1, i, g2, g3, g4⟩
      · exact Or.inl ⟨g1, fun i u v => by rw [ck0 i _ u (by omega)]; exact g2 i u v⟩
      · exact Or.inr ⟨g1, i, g2, g3, by rw [ck0 i _ g2 (by omega)]; exact g4⟩
    · rw [r _ (by omega), r 13 (by omega), e5]; exact h6
    · rw [r _ (by omega), hA _ (by omega) (by omega)]; exact h7
    · rw [r _ (by omega), hA _ (by omega) (by omega)]; exact h8
    · rw [r 15 (by omega), r 13 (by omega), hA 51 (by omega) (by omega), hA 54 (by omega) (by omega), e5, e5, e5, e7, ck0 k _ h1.1 h1.2.1]
      rcases h9 with ⟨g1, g2, g3⟩ | h9
      · exact Or.inl ⟨g1, g2, fun b u v => by rw [ck k 4 _ h1.1 h1.2.1 (by omega) (by omega)]; exact g3 b u v⟩
      · exact Or.inr h9
/-- between two lines -/
def RC (c : Int) (T : Int → Int) (n a B : Int) (D A : tD) : Prop := (cu D 1957 1 T n a ∧ mu A T n a) ∧ (shR c (mx D A) 1 ∧ 0 ≤ c) ∧ ((D 1957 2 = 0 ∧ D 1957 3 = -1 ∧ A 1977 46 = -1) ∧ D 1956 18 = 0 ∧ A 1977 61 = 0) ∧
  ((0 ≤ D 1956 17 ∧ D 1956 17 ≤ 2) ∧ (A 1977 49 = 1 ↔ D 1956 17 = 1) ∧ (A 1977 49 = 2 ↔ D 1956 17 = 2)) ∧ ((D 1956 11 = 0 ∨ D 1956 11 = 1) ∧ (A 1977 51 = 0 ↔ D 1956 11 ≠ 0)) ∧
  ((0 ≤ B ∧ B ≤ A 1977 22) ∧ A 1977 22 ≤ B + D 980 5) ∧ (∀ k, 0 ≤ k → k < 24 → (D (aC 1 k) 3 = 1 ↔ k < D 980 5)) ∧
  ((D 980 4 = 0 ∧ D 980 5 = 0 ∧ D 1956 5 = -1 ∧ D 1956 17 = 0 ∧ A 1977 51 = 0) ∨ (1 ≤ D 980 4 ∧ D 1956 5 = aF 1 (D 980 4 - 1) ∧ D 1956 7 = D 980 4 - 1 ∧ A 1977 48 = 8 + (D 980 4 - 1) ∧ chP D A (D 980 4 - 1)))
/-- what a line may change, the other side -/
def frV (A A' : tD) : Prop := ∀ x j, (x < 1977 ∨ x = 1978 ∨ x = 2008 ∨ x = 2013 ∨ 2016 < x ∨ (x = 1977 ∧ (j = 2 ∨ j = 3 ∨ j = 35 ∨ j = 43)) ∨ (x = 1979 ∧ j = 0) ∨ (1980 ≤ x ∧ x ≤ 2007 ∧ j < cap0 x)) → A' x j = A x j
theorem frV_W (h : frW A A') : frV A A' := fun x j u => h x j (by omega)
theorem frV_tr {A1 A2 : tD} (h : frV A A1) (h2 : frV A1 A2) : frV A A2 := fun x j u => by rw [h2 x j u, h x j u]
theorem frV_rf : frV A A := fun _ _ _ => rfl
/-- the end of a line on the other side -/
def lnP (c : Int) (T : Int → Int) (n a B r : Int) (D' A A' : tD) : Prop := frV A A' ∧ ((r = 1 ∧ ∃ b, a < b ∧ RC c T n b B D' A') ∨ (r = 1 ∧ D' 1956 18 = 1 ∧ A' 1977 61 = 1 ∧ shR c (mx D' A') 1 ∧ (D' 1957 2 = 0 ∧ A' 1977 45 = 0) ∧ (D' 1957 3 = -1 ∧ A' 1977 46 = -1) ∧ (0 ≤ B ∧ B ≤ A' 1977 22) ∧ A' 1977 22 ≤ B + 24) ∨ (r = 0 ∧ D' 1957 2 = A' 1977 45 ∧ D' 1957 3 = A' 1977 46 ∧ 0 < A' 1977 45 ∧ (0 ≤ B ∧ B ≤ A' 1977 22) ∧ A' 1977 22 ≤ B + 24))
/-- a move of both places -/
theorem RC_to {a b B : Int} (h : RC c T n a B D A) (hb : 0 ≤ b ∧ b ≤ n) : RC c T n b B (wr D 1957 1 b) (wr A 1977 47 b) := by
  obtain ⟨⟨h1, h2⟩, ⟨h3, h3'⟩, ⟨⟨h4, h5, h6⟩, h7, h8⟩, h9, h10, h11, h12, h13⟩ := h
  have r : ∀ x j, x ≠ 1957 → (wr D 1957 1 b) x j = D x j := fun x j u => wr_ne u
  have r7 : ∀ j, j ≠ 47 → (wr A 1977 47 b) 1977 j = A 1977 j := fun j u => wr_ni u
  have ck : ∀ k, 0 ≤ k → k < 24 → aC 1 k ≠ 1957 := fun k u v => by unfold aC; omega
  refine ⟨⟨cu_wr h1 hb, mu_wr h2 hb⟩, ⟨?_, h3'⟩, ⟨⟨by rw [wr_ni (by omega)]; exact h4, by rw [wr_ni (by omega)]; exact h5, by rw [r7 _ (by omega)]; exact h6⟩, by rw [r _ _ (by omega)]; exact h7, by rw [r7 _ (by omega)]; exact h8⟩, by rw [r _ _ (by omega), r7 _ (by omega)]; exact h9, by rw [r _ _ (by omega), r7 _ (by omega)]; exact h10, by rw [r _ _ (by omega), r7 _ (by omega)]; exact h11, fun k u v => by rw [r _ _ (ck k u v), r _ _ (by omega)]; exact h12 k u v, ?_⟩
  · refine shR_fr (Or.inr rfl) (Int.le_refl _) (fun x j u => ?_) h3
    unfold depS at u
    by_cases z : x < 1977
    · rw [mx_lo z, mx_lo z]; exact r _ _ (by omega)
    · rw [mx_hi (by omega), mx_hi (by omega)]
      by_cases z2 : x = 1977
      · subst z2; exact r7 _ (by omega)
      · exact wr_ne z2
  · rw [r 980 4 (by omega), r 980 5 (by omega), r 1956 5 (by omega), r 1956 17 (by omega), r 1956 7 (by omega), r7 51 (by omega), r7 48 (by omega)]
    rcases h13 with h13 | ⟨g1, g2, g3, g4, g5⟩
    · exact Or.inl h13
    · exact Or.inr ⟨g1, g2, g3, g4, chP_fr g5 ⟨by omega, by have := h3.1.2.2; rw [mx_lo (by omega)] at this; have : D 980 4 ≤ 8 := this; omega⟩ (fun x j u => r x j (by omega)) (fun j u v => r7 _ (by omega))⟩
end RCR
