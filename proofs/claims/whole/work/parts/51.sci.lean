/-! a run that asks no int array goes alike over every script -/
section RSC
variable {HT : Type} {G : HT → Nat → Option pv_E} {S : HT → Nat → pv_E → HT} {P : HT → pv_E → HT} {N M : HT → Nat} {sc1 sc2 : Nat × (Nat → Int32)} {capC capS : Nat} {ar : Nat → Bool} {nw : Nat → List Value} {fty : Nat → Nat → FieldType} {co1 co2 : Nat → Nat → Option Instr} {ax : Nat → Instr → Nat × Nat × Nat} {nL : Nat → Nat} {cst : Nat → Instr → Option Value} {rt : Nat → Option FieldType} {hs : Nat → List (Nat × Nat × Nat × Nat)} {rc : Nat → Nat} {xt : Nat → Nat → Nat → Nat → HT → List Value → Option (HT × List Value)}
theorem rs_body (hco : ∀ y pc i, co1 y pc = some i → co2 y pc = some i ∧ i ≠ .iaload ∧ i ≠ .arraylength)
    {ih1 ih2 : Nat → Nat → HT → Nat → Nat → List (Nat × Value) → List Value → Option (HT × pv_O)} (hih : ∀ (fr lo : Nat) (h : HT) (y pc : Nat) (lv : List (Nat × Value)) (st : List Value) (r : HT × pv_O), ih1 fr lo h y pc lv st = some r → ih2 fr lo h y pc lv st = some r)
    {fr lo : Nat} {a : HT} {y pc : Nat} {lv : List (Nat × Value)} {st : List Value} {r : HT × pv_O} (h : pv_body G S P N M sc1 capC capS ar nw fty co1 ax nL cst rt hs rc xt ih1 fr lo a y pc lv st = some r) : pv_body G S P N M sc2 capC capS ar nw fty co2 ax nL cst rt hs rc xt ih2 fr lo a y pc lv st = some r := by
  unfold pv_body at h ⊢
  split at h
  · cases h
  rename_i i hc
  obtain ⟨h2, hn1, hn2⟩ := hco _ _ _ hc
  rw [h2]
  have eh : pv_h G S P N M sc2 capC capS ar nw fty i (ax y i).1 (ax y i).2.1 a st = pv_h G S P N M sc1 capC capS ar nw fty i (ax y i).1 (ax y i).2.1 a st := by
    cases i <;> first | rfl | exact absurd rfl hn1 | exact absurd rfl hn2
  dsimp only
  rw [eh]
  split at h
  · rename_i e1
    try rw [e1]
    exact hih _ _ _ _ _ _ _ _ h
  rename_i e1
  try rw [e1]
  try dsimp only
  split at h
  · rename_i e2
    try rw [e2]
    exact hih _ _ _ _ _ _ _ _ h
  rename_i e2
  try rw [e2]
  try dsimp only
  split at h
  · rename_i e3
    try rw [e3]
    try dsimp only
    split at h
    · rename_i c1
      try rw [if_pos c1]
      split at h
      · rename_i c2
        try rw [if_pos c2]
        exact hih _ _ _ _ _ _ _ _ h
      · rename_i c2
        try rw [if_neg c2]
        exact hih _ _ _ _ _ _ _ _ h
    · cases h
  rename_i e3
  try rw [e3]
  try dsimp only
  split at h
  · rename_i e4
    try rw [e4]
    exact hih _ _ _ _ _ _ _ _ h
  rename_i e4
  try rw [e4]
  try dsimp only
  split at h
  · rename_i e5
    try rw [e5]
    exact h
  rename_i e5
  try rw [e5]
  try dsimp only
  split at h
  · rename_i e6
    try rw [e6]
    try dsimp only
    split at h
    · rename_i e7
      try rw [e7]
      exact hih _ _ _ _ _ _ _ _ h
    · cases h
  rename_i e6
  try rw [e6]
  try dsimp only
  split at h
  · rename_i e7
    try rw [e7]
    exact h
  rename_i e7
  try rw [e7]
  try dsimp only
  split at h
  · rename_i e8
    try rw [e8]
    try dsimp only
    split at h
    · rename_i c3
      try rw [if_pos c3]
      split at h
      · rename_i e9
        try rw [e9]
        exact hih _ _ _ _ _ _ _ _ h
      · cases h
    · rename_i c3
      try rw [if_neg c3]
      split at h
      · cases h
      · rename_i c4
        try rw [if_neg c4]
        split at h
        · rename_i c5
          try rw [if_pos c5]
          split at h
          · cases h
          · try dsimp only
            split at h
            · rename_i e9
              rw [hih _ _ _ _ _ _ _ _ e9]
              exact hih _ _ _ _ _ _ _ _ h
            · rename_i e9
              rw [hih _ _ _ _ _ _ _ _ e9]
              try dsimp only
              split at h
              · rename_i e10
                try rw [e10]
                try dsimp only
                split at h
                · rename_i e11
                  try rw [e11]
                  exact hih _ _ _ _ _ _ _ _ h
                · rename_i e11
                  try rw [e11]
                  exact h
              · cases h
            · cases h
        · cases h
  · cases h
theorem rs_run (hco : ∀ y pc i, co1 y pc = some i → co2 y pc = some i ∧ i ≠ .iaload ∧ i ≠ .arraylength) (n : Nat) : ∀ (fr lo : Nat) (h : HT) (y pc : Nat) (lv : List (Nat × Value)) (st : List Value) (r : HT × pv_O), pv_run G S P N M sc1 capC capS ar nw fty co1 ax nL cst rt hs rc xt n fr lo h y pc lv st = some r → pv_run G S P N M sc2 capC capS ar nw fty co2 ax nL cst rt hs rc xt n fr lo h y pc lv st = some r := by
  induction n with
  | zero => intro fr lo h y pc lv st r e; cases e
  | succ n ih =>
    intro fr lo h y pc lv st r e
    exact rs_body hco ih e
end RSC
/-- the code without asking int arrays -/
noncomputable def ci1 (y pc : Nat) : Option Instr := match pt_cox y pc with
  | some .iaload => none
  | some .arraylength => none
  | o => o
theorem ci1_ok (y pc : Nat) (i : Instr) (h : ci1 y pc = some i) : pt_cox y pc = some i ∧ i ≠ .iaload ∧ i ≠ .arraylength := by
  unfold ci1 at h
  split at h
  · cases h
  · cases h
  · rename_i h1 h2
    exact ⟨h, fun e => h1 (h.trans (congrArg some e)), fun e => h2 (h.trans (congrArg some e))⟩
