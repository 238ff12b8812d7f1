/-! the plain machine over two heaps: what runs over the one, runs over the other -/
section PHM
variable {H1 H2 : Type} (G1 : H1 → Nat → Option pv_E) (S1 : H1 → Nat → pv_E → H1) (P1 : H1 → pv_E → H1) (N1 M1 : H1 → Nat) (G2 : H2 → Nat → Option pv_E) (S2 : H2 → Nat → pv_E → H2) (P2 : H2 → pv_E → H2) (N2 M2 : H2 → Nat) (r : H1 → H2 → Prop)
/-- how two heaps stand to each other -/
def ph_R : Prop := (∀ (a : H1) (b : H2) (i : Nat) (x : pv_E), r a b → G1 a i = some x → G2 b i = some x) ∧ (∀ (a : H1) (b : H2) (i : Nat) (x e : pv_E), r a b → G1 a i = some x → pv_sz e = pv_sz x → r (S1 a i e) (S2 b i e)) ∧ (∀ (a : H1) (b : H2) (e : pv_E), r a b → r (P1 a e) (P2 b e)) ∧ (∀ (a : H1) (b : H2), r a b → N1 a = N2 b) ∧ ∀ (a : H1) (b : H2), r a b → M1 a = M2 b
variable {G1 S1 P1 N1 M1 G2 S2 P2 N2 M2 r} {sc : Nat × (Nat → Int32)} {capC capS : Nat} {ar : Nat → Bool} {nw : Nat → List Value} {a : H1} {b : H2} {a' : H1} {st st' : List Value}
theorem ph_getf (hR : ph_R G1 S1 P1 N1 M1 G2 S2 P2 N2 M2 r) (hr : r a b) {a1 a2 : Nat} (h : pv_getf G1 a1 a2 a st = some (a', st')) : ∃ b', pv_getf G2 a1 a2 b st = some (b', st') ∧ r a' b' := by
  unfold pv_getf at h
  repeat' (split at h)
  all_goals first
    | (cases h; done)
    | (cases h; have hg := hR.1 _ _ _ _ hr ‹_›; exact ⟨b, by simp [pv_getf, hg, *], hr⟩)
    | (cases h; exact ⟨b, by simp [pv_getf, *], hr⟩)
theorem ph_aldi (hR : ph_R G1 S1 P1 N1 M1 G2 S2 P2 N2 M2 r) (hr : r a b) {kd : Nat} (h : pv_aldi G1 sc kd a st = some (a', st')) : ∃ b', pv_aldi G2 sc kd b st = some (b', st') ∧ r a' b' := by
  unfold pv_aldi at h
  repeat' (split at h)
  all_goals first
    | (cases h; done)
    | (cases h; have hg := hR.1 _ _ _ _ hr ‹_›; exact ⟨b, by simp [pv_aldi, hg, *], hr⟩)
    | (cases h; exact ⟨b, by simp [pv_aldi, *], hr⟩)
theorem ph_aldb (hR : ph_R G1 S1 P1 N1 M1 G2 S2 P2 N2 M2 r) (hr : r a b) (h : pv_aldb G1 a st = some (a', st')) : ∃ b', pv_aldb G2 b st = some (b', st') ∧ r a' b' := by
  unfold pv_aldb at h
  repeat' (split at h)
  all_goals first
    | (cases h; done)
    | (cases h; have hg := hR.1 _ _ _ _ hr ‹_›; exact ⟨b, by simp [pv_aldb, hg, *], hr⟩)
    | (cases h; exact ⟨b, by simp [pv_aldb, *], hr⟩)
theorem ph_aldl (hR : ph_R G1 S1 P1 N1 M1 G2 S2 P2 N2 M2 r) (hr : r a b) (h : pv_aldl G1 a st = some (a', st')) : ∃ b', pv_aldl G2 b st = some (b', st') ∧ r a' b' := by
  unfold pv_aldl at h
  repeat' (split at h)
  all_goals first
    | (cases h; done)
    | (cases h; have hg := hR.1 _ _ _ _ hr ‹_›; exact ⟨b, by simp [pv_aldl, hg, *], hr⟩)
    | (cases h; exact ⟨b, by simp [pv_aldl, *], hr⟩)
theorem ph_alda (hR : ph_R G1 S1 P1 N1 M1 G2 S2 P2 N2 M2 r) (hr : r a b) (h : pv_alda G1 ar a st = some (a', st')) : ∃ b', pv_alda G2 ar b st = some (b', st') ∧ r a' b' := by
  unfold pv_alda at h
  repeat' (split at h)
  all_goals first
    | (cases h; done)
    | (cases h; have hg := hR.1 _ _ _ _ hr ‹_›; exact ⟨b, by simp [pv_alda, hg, *], hr⟩)
    | (cases h; exact ⟨b, by simp [pv_alda, *], hr⟩)
theorem ph_alen (hR : ph_R G1 S1 P1 N1 M1 G2 S2 P2 N2 M2 r) (hr : r a b) (h : pv_alen G1 sc ar a st = some (a', st')) : ∃ b', pv_alen G2 sc ar b st = some (b', st') ∧ r a' b' := by
  unfold pv_alen at h
  repeat' (split at h)
  all_goals first
    | (cases h; done)
    | (cases h; have hg := hR.1 _ _ _ _ hr ‹_›; exact ⟨b, by simp [pv_alen, hg, *], hr⟩)
    | (cases h; exact ⟨b, by simp [pv_alen, *], hr⟩)
theorem ph_putf (hR : ph_R G1 S1 P1 N1 M1 G2 S2 P2 N2 M2 r) (hr : r a b) {T : FieldType} {a1 a2 : Nat} (h : pv_putf G1 S1 nw T a1 a2 a st = some (a', st')) : ∃ b', pv_putf G2 S2 nw T a1 a2 b st = some (b', st') ∧ r a' b' := by
  unfold pv_putf at h ⊢
  split at h
  · split at h
    · rename_i hg1
      split at h
      · rename_i hc
        cases h
        refine ⟨_, ?_, hR.2.1 _ _ _ _ _ hr hg1 (by simp [pv_sz])⟩
        rw [hR.1 _ _ _ _ hr hg1]
        exact if_pos hc
      · cases h
    · cases h
  · cases h
theorem ph_asti (hR : ph_R G1 S1 P1 N1 M1 G2 S2 P2 N2 M2 r) (hr : r a b) (h : pv_asti G1 S1 a st = some (a', st')) : ∃ b', pv_asti G2 S2 b st = some (b', st') ∧ r a' b' := by
  unfold pv_asti at h
  repeat' (split at h)
  all_goals first
    | (cases h; done)
    | (cases h; have hg1 : G1 a _ = some _ := ‹_›; have hg := hR.1 _ _ _ _ hr hg1; exact ⟨_, by simp [pv_asti, hg, *], hR.2.1 _ _ _ _ _ hr hg1 (by simp [pv_sz])⟩)
theorem ph_astb (hR : ph_R G1 S1 P1 N1 M1 G2 S2 P2 N2 M2 r) (hr : r a b) (h : pv_astb G1 S1 a st = some (a', st')) : ∃ b', pv_astb G2 S2 b st = some (b', st') ∧ r a' b' := by
  unfold pv_astb at h
  repeat' (split at h)
  all_goals first
    | (cases h; done)
    | (cases h; have hg1 : G1 a _ = some _ := ‹_›; have hg := hR.1 _ _ _ _ hr hg1; exact ⟨_, by simp [pv_astb, hg, *], hR.2.1 _ _ _ _ _ hr hg1 (by simp [pv_sz])⟩)
theorem ph_astl (hR : ph_R G1 S1 P1 N1 M1 G2 S2 P2 N2 M2 r) (hr : r a b) (h : pv_astl G1 S1 a st = some (a', st')) : ∃ b', pv_astl G2 S2 b st = some (b', st') ∧ r a' b' := by
  unfold pv_astl at h
  repeat' (split at h)
  all_goals first
    | (cases h; done)
    | (cases h; have hg1 : G1 a _ = some _ := ‹_›; have hg := hR.1 _ _ _ _ hr hg1; exact ⟨_, by simp [pv_astl, hg, *], hR.2.1 _ _ _ _ _ hr hg1 (by simp [pv_sz])⟩)
theorem ph_mk (hR : ph_R G1 S1 P1 N1 M1 G2 S2 P2 N2 M2 r) (hr : r a b) {x : pv_E} {n : Nat} (h : pv_mk P1 N1 M1 capC capS a x n st = some (a', st')) : ∃ b', pv_mk P2 N2 M2 capC capS b x n st = some (b', st') ∧ r a' b' := by
  unfold pv_mk at h ⊢
  rw [hR.2.2.2.1 _ _ hr, hR.2.2.2.2 _ _ hr] at h
  split at h
  · rename_i hc
    cases h
    exact ⟨_, by rw [if_pos hc], hR.2.2.1 _ _ _ hr⟩
  · cases h
theorem ph_newa (hR : ph_R G1 S1 P1 N1 M1 G2 S2 P2 N2 M2 r) (hr : r a b) {t : ArrayType} (h : pv_newa P1 N1 M1 capC capS t a st = some (a', st')) : ∃ b', pv_newa P2 N2 M2 capC capS t b st = some (b', st') ∧ r a' b' := by
  unfold pv_newa at h ⊢
  split at h
  · split at h
    · cases h
    · rename_i hc
      rw [if_neg hc]
      exact ph_mk hR hr h
  · cases h
theorem ph_newr (hR : ph_R G1 S1 P1 N1 M1 G2 S2 P2 N2 M2 r) (hr : r a b) {a1 : Nat} (h : pv_newr P1 N1 M1 capC capS a1 a st = some (a', st')) : ∃ b', pv_newr P2 N2 M2 capC capS a1 b st = some (b', st') ∧ r a' b' := by
  unfold pv_newr at h ⊢
  split at h
  · split at h
    · cases h
    · rename_i hc
      rw [if_neg hc]
      exact ph_mk hR hr h
  · cases h
theorem ph_asta (hR : ph_R G1 S1 P1 N1 M1 G2 S2 P2 N2 M2 r) (hr : r a b) (h : pv_asta G1 S1 ar a st = some (a', st')) : ∃ b', pv_asta G2 S2 ar b st = some (b', st') ∧ r a' b' := by
  unfold pv_asta at h ⊢
  split at h
  · split at h
    · rename_i hg1
      split at h
      · rename_i hg2
        have e1 := hR.1 _ _ _ _ hr hg1
        have e2 := hR.1 _ _ _ _ hr hg2
        split at h
        · rename_i hc
          split at h
          · rename_i hq
            cases h
            refine ⟨_, ?_, hR.2.1 _ _ _ _ _ hr hg1 (by simp [pv_sz])⟩
            simp only [e1, e2, hc, hq, and_self, if_true]
          · cases h
        · cases h
      · cases h
    · cases h
  · cases h
theorem ph_h (hR : ph_R G1 S1 P1 N1 M1 G2 S2 P2 N2 M2 r) (hr : r a b) {fty : Nat → Nat → FieldType} {i : Instr} {a1 a2 : Nat} (h : pv_h G1 S1 P1 N1 M1 sc capC capS ar nw fty i a1 a2 a st = some (a', st')) : ∃ b', pv_h G2 S2 P2 N2 M2 sc capC capS ar nw fty i a1 a2 b st = some (b', st') ∧ r a' b' := by
  unfold pv_h at h ⊢
  split at h
  · exact ph_getf hR hr h
  · exact ph_putf hR hr h
  · exact ph_aldi hR hr h
  · exact ph_aldb hR hr h
  · exact ph_aldl hR hr h
  · exact ph_alda hR hr h
  · exact ph_asti hR hr h
  · exact ph_astb hR hr h
  · exact ph_astl hR hr h
  · exact ph_asta hR hr h
  · exact ph_alen hR hr h
  · exact ph_newa hR hr h
  · exact ph_newr hR hr h
  · split at h
    · rename_i hc
      rw [if_pos hc]
      exact ph_mk hR hr h
    · cases h
  · cases h
/-- an instruction that is none of the heap's is so over every heap -/
theorem ph_no1 {fty : Nat → Nat → FieldType} {i : Instr} {a1 a2 : Nat} {t : Option FieldType} {v : Option Value} (hi : pv_ret t i st = some v) : pv_h G2 S2 P2 N2 M2 sc capC capS ar nw fty i a1 a2 b st = none := by
  unfold pv_ret at hi
  split at hi
  · rfl
  · rfl
  · rfl
  · rfl
  · cases hi
theorem ph_no2 {fty : Nat → Nat → FieldType} {i : Instr} {a1 a2 : Nat} (hi : pv_isld i = true) : pv_h G2 S2 P2 N2 M2 sc capC capS ar nw fty i a1 a2 b st = none := by
  unfold pv_isld at hi
  split at hi
  · rfl
  · rfl
  · rfl
  · cases hi
theorem ph_no3 {fty : Nat → Nat → FieldType} {i : Instr} {a1 a2 : Nat} (hi : pv_isiv i = true) : pv_h G2 S2 P2 N2 M2 sc capC capS ar nw fty i a1 a2 b st = none := by
  unfold pv_isiv at hi
  split at hi
  · rfl
  · rfl
  · rfl
  · cases hi
theorem ph_no4 {fty : Nat → Nat → FieldType} {i : Instr} {a1 a2 : Nat} (hi : pv_isth i a1 = true) : pv_h G2 S2 P2 N2 M2 sc capC capS ar nw fty i a1 a2 b st = none := by
  unfold pv_isth at hi
  split at hi
  · have h9 : 90 ≤ a1 := Nat.le_of_ble_eq_true hi
    unfold pv_h
    exact if_neg (by omega)
  · cases hi
end PHM
