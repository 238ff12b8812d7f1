/-! reading a sample: how both sides stand in the middle of a line -/
section RQR
variable {sc : Nat × (Nat → Int32)} {D D' A A' : tD} {K : tD → Int → Prop} {E : tD → Nat → Prop} {T : Int → Int} {n c : Int}
/-- what holds between two lines, but places, faults and the kind of the line before -/
def RQ (c B : Int) (D A : tD) : Prop := (shR c (mx D A) 1 ∧ 0 ≤ c) ∧ ((D 1956 11 = 0 ∨ D 1956 11 = 1) ∧ (A 1977 51 = 0 ↔ D 1956 11 ≠ 0)) ∧
  ((0 ≤ B ∧ B ≤ A 1977 22) ∧ A 1977 22 ≤ B + D 980 5) ∧ (∀ k, 0 ≤ k → k < 24 → (D (aC 1 k) 3 = 1 ↔ k < D 980 5)) ∧
  ((D 980 4 = 0 ∧ D 980 5 = 0 ∧ D 1956 5 = -1 ∧ A 1977 51 = 0) ∨ (1 ≤ D 980 4 ∧ D 1956 5 = aF 1 (D 980 4 - 1) ∧ D 1956 7 = D 980 4 - 1 ∧ A 1977 48 = 8 + (D 980 4 - 1) ∧ chP D A (D 980 4 - 1)))
theorem RQ_of {a B : Int} (h : RC c T n a B D A) : RQ c B D A := by
  obtain ⟨_, h3, _, _, h10, h11, h12, h13⟩ := h
  refine ⟨h3, h10, h11, h12, ?_⟩
  rcases h13 with ⟨g1, g2, g3, g4, g5⟩ | h13
  · exact Or.inl ⟨g1, g2, g3, g5⟩
  · exact Or.inr h13
/-- what the middle of a line may change, both sides -/
def frI (D D' : tD) : Prop := ∀ x j, (980 ≤ x ∧ x ≤ 1954) ∨ (x = 1956 ∧ j ≠ 8 ∧ j ≠ 9 ∧ j ≠ 17) → D' x j = D x j
def frJ (A A' : tD) : Prop := ∀ x j, (1979 ≤ x ∧ x ≤ 2008) ∨ (x = 1977 ∧ (j = 22 ∨ j = 48 ∨ (50 ≤ j ∧ j ≤ 55))) → A' x j = A x j
theorem frI_tr {D1 D2 : tD} (h : frI D D1) (h2 : frI D1 D2) : frI D D2 := fun x j u => by rw [h2 x j u, h x j u]
theorem frJ_tr {A1 A2 : tD} (h : frJ A A1) (h2 : frJ A1 A2) : frJ A A2 := fun x j u => by rw [h2 x j u, h x j u]
theorem frI_Y (h : frY D D') : frI D D' := fun x j u => h x j (by omega)
theorem frJ_X (h : frX A A') : frJ A A' := fun x j u => h x j (by omega) (by omega) (by omega) (by omega)
theorem frI_wr {a i v : Int} (h : (1957 ≤ a ∧ a ≤ 1970) ∨ (a = 1956 ∧ (i = 8 ∨ i = 9 ∨ i = 17))) : frI D (wr D a i v) := fun x j u => by
  by_cases e : x = a
  · subst e; exact wr_ni (by omega)
  · exact wr_ne e
theorem frJ_wr {i v : Int} (h : i ≠ 22 ∧ i ≠ 48 ∧ (i < 50 ∨ 55 < i)) : frJ A (wr A 1977 i v) := fun x j u => by
  by_cases e : x = 1977
  · subst e; exact wr_ni (by omega)
  · exact wr_ne e
theorem RQ_fr {B : Int} (h : RQ c B D A) (hD : frI D D') (hA : frJ A A') : RQ c B D' A' := by
  obtain ⟨⟨h1, h1'⟩, h2, h3, h4, h5⟩ := h
  have d980 : ∀ j, D' 980 j = D 980 j := fun j => hD _ _ (by omega)
  have r : ∀ j, j ≠ 8 → j ≠ 9 → j ≠ 17 → D' 1956 j = D 1956 j := fun j u v w => hD _ _ (by omega)
  have q : ∀ j, j = 22 ∨ j = 48 ∨ (50 ≤ j ∧ j ≤ 55) → A' 1977 j = A 1977 j := fun j u => hA _ _ (by omega)
  have s8 : D 980 4 ≤ 8 := by
    have g := h1.1.2.2
    rw [mx_lo (by omega)] at g
    exact g
  refine ⟨⟨?_, h1'⟩, by rw [r _ (by omega) (by omega) (by omega), q _ (by omega)]; exact h2, by rw [q _ (by omega), d980]; exact h3, fun k u v => ?_, ?_⟩
  · refine shR_fr2 (D := mx D A) (Or.inr rfl) (Int.le_refl _) (fun x j u => ?_) h1
    by_cases z : x < 1977
    · rw [mx_lo z, mx_lo z]
      refine hD x j (Or.inl ?_)
      rcases u with w | w | w | w | w | w | w <;> omega
    · rw [mx_hi (by omega), mx_hi (by omega)]
      refine hA x j ?_
      rcases u with w | w | w | w | w | w | w <;> omega
  · have := aC1 k
    rw [hD (aC 1 k) _ (by omega), d980]; exact h4 k u v
  · rw [d980, d980, r 5 (by omega) (by omega) (by omega), r 7 (by omega) (by omega) (by omega), q 51 (by omega), q 48 (by omega)]
    rcases h5 with g | ⟨g1, g2, g3, g4, g5⟩
    · exact Or.inl g
    · refine Or.inr ⟨g1, g2, g3, g4, ?_⟩
      exact chP_fr g5 ⟨by omega, by omega⟩ (fun x j u => hD x j (by omega)) (fun j u v => q _ (by omega))
end RQR
