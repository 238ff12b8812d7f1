/-! the run over two heaps, with more fuel and more room -/
section PHN
variable {H1 H2 : Type} {G1 : H1 → Nat → Option pv_E} {S1 : H1 → Nat → pv_E → H1} {P1 : H1 → pv_E → H1} {N1 M1 : H1 → Nat} {G2 : H2 → Nat → Option pv_E} {S2 : H2 → Nat → pv_E → H2} {P2 : H2 → pv_E → H2} {N2 M2 : H2 → Nat} {r : H1 → H2 → Prop}
variable {sc : Nat × (Nat → Int32)} {capC capS : Nat} {ar : Nat → Bool} {nw : Nat → List Value} {fty : Nat → Nat → FieldType} {co : Nat → Nat → Option Instr} {ax : Nat → Instr → Nat × Nat × Nat} {nL : Nat → Nat} {cst : Nat → Instr → Option Value} {rt : Nat → Option FieldType} {hs : Nat → List (Nat × Nat × Nat × Nat)} {rc : Nat → Nat}
  {xt1 : Nat → Nat → Nat → Nat → H1 → List Value → Option (H1 × List Value)} {xt2 : Nat → Nat → Nat → Nat → H2 → List Value → Option (H2 × List Value)}
theorem ph_recv (hR : ph_R G1 S1 P1 N1 M1 G2 S2 P2 N2 M2 r) {a : H1} {b : H2} (hr : r a b) {kd z : Nat} {as : List Value} (h : pv_recv G1 rc kd z a as = true) : pv_recv G2 rc kd z b as = true := by
  unfold pv_recv at h ⊢
  split at h
  · rfl
  · exact h
  · split at h
    · split at h
      · rename_i hg
        rw [hR.1 _ _ _ _ hr hg]
        exact h
      · cases h
    · cases h
  · cases h
theorem ph_exc (hR : ph_R G1 S1 P1 N1 M1 G2 S2 P2 N2 M2 r) {a : H1} {b : H2} (hr : r a b) {q x : Nat} (h : pv_exc G1 a q = some x) : pv_exc G2 b q = some x := by
  unfold pv_exc at h ⊢
  split at h
  · rename_i hg
    rw [hR.1 _ _ _ _ hr hg]
    exact h
  · cases h
theorem ph_body (hR : ph_R G1 S1 P1 N1 M1 G2 S2 P2 N2 M2 r) (hxt : ∀ (kd z fr lo fr2 lo2 : Nat) (a : H1) (b : H2) (st : List Value) (a' : H1) (st' : List Value), r a b → fr ≤ fr2 → lo ≤ lo2 → xt1 kd z fr lo a st = some (a', st') → ∃ b', xt2 kd z fr2 lo2 b st = some (b', st') ∧ r a' b')
    {ih1 : Nat → Nat → H1 → Nat → Nat → List (Nat × Value) → List Value → Option (H1 × pv_O)} {ih2 : Nat → Nat → H2 → Nat → Nat → List (Nat × Value) → List Value → Option (H2 × pv_O)}
    (hih : ∀ (fr lo fr2 lo2 : Nat) (a : H1) (b : H2) (y pc : Nat) (lv : List (Nat × Value)) (st : List Value) (a' : H1) (o : pv_O), r a b → fr ≤ fr2 → lo ≤ lo2 → ih1 fr lo a y pc lv st = some (a', o) → ∃ b', ih2 fr2 lo2 b y pc lv st = some (b', o) ∧ r a' b')
    {fr lo fr2 lo2 : Nat} {a : H1} {b : H2} {y pc : Nat} {lv : List (Nat × Value)} {st : List Value} {a' : H1} {o : pv_O} (hr : r a b) (hf : fr ≤ fr2) (hl : lo ≤ lo2)
    (h : pv_body G1 S1 P1 N1 M1 sc capC capS ar nw fty co ax nL cst rt hs rc xt1 ih1 fr lo a y pc lv st = some (a', o)) : ∃ b', pv_body G2 S2 P2 N2 M2 sc capC capS ar nw fty co ax nL cst rt hs rc xt2 ih2 fr2 lo2 b y pc lv st = some (b', o) ∧ r a' b' := by
  unfold pv_body at h ⊢
  split at h
  · cases h
  rename_i i hco
  try rw [hco]
  try dsimp only
  try dsimp only
  split at h
  · rename_i e1
    try rw [e1]
    try dsimp only
    exact hih _ _ _ _ _ _ _ _ _ _ _ _ hr hf hl h
  rename_i e1
  try rw [e1]
  try dsimp only
  try dsimp only
  split at h
  · rename_i e2
    try rw [e2]
    try dsimp only
    exact hih _ _ _ _ _ _ _ _ _ _ _ _ hr hf hl h
  rename_i e2
  try rw [e2]
  try dsimp only
  try dsimp only
  split at h
  · rename_i e3
    try rw [e3]
    try dsimp only
    try dsimp only
    split at h
    · rename_i c1
      try rw [if_pos c1]
      try dsimp only
      split at h
      · rename_i c2
        try rw [if_pos c2]
        try dsimp only
        exact hih _ _ _ _ _ _ _ _ _ _ _ _ hr hf hl h
      · rename_i c2
        try rw [if_neg c2]
        try dsimp only
        exact hih _ _ _ _ _ _ _ _ _ _ _ _ hr hf hl h
    · cases h
  rename_i e3
  try rw [e3]
  try dsimp only
  try dsimp only
  split at h
  · rename_i e4
    obtain ⟨b1, g1, r1⟩ := ph_h hR hr e4
    rw [g1]
    exact hih _ _ _ _ _ _ _ _ _ _ _ _ r1 hf hl h
  rename_i e4
  split at h
  · rename_i e5
    rw [ph_no1 e5]
    try dsimp only
    try rw [e5]
    try dsimp only
    cases h
    exact ⟨b, rfl, hr⟩
  rename_i e5
  split at h
  · rename_i e6
    rw [ph_no2 e6]
    try dsimp only
    try rw [e5]
    try dsimp only
    try rw [e6]
    try dsimp only
    try dsimp only
    split at h
    · rename_i e7
      try rw [e7]
      try dsimp only
      exact hih _ _ _ _ _ _ _ _ _ _ _ _ hr hf hl h
    · cases h
  rename_i e6
  split at h
  · rename_i e7
    rw [ph_no4 e7]
    try dsimp only
    try rw [e5]
    try dsimp only
    try rw [e6]
    try dsimp only
    try rw [e7]
    try dsimp only
    try dsimp only
    split at h
    · rename_i e8
      try rw [e8]
      try dsimp only
      try dsimp only
      split at h
      · rename_i c1
        cases h
        have k1 := hR.2.2.2.1 _ _ hr
        have k2 := hR.2.2.2.2 _ _ hr
        refine ⟨P2 b (.inr ((ax y i).1, nw (ax y i).1)), ?_, hR.2.2.1 _ _ _ hr⟩
        rw [k1, k2] at c1
        rw [if_pos ⟨c1.1, c1.2.1, by omega, by omega⟩, k1]
      · cases h
    · cases h
  rename_i e7
  split at h
  · rename_i e8
    rw [ph_no3 e8]
    try dsimp only
    try rw [e5]
    try dsimp only
    try rw [e6]
    try dsimp only
    try rw [e7]
    try dsimp only
    try rw [e8]
    try dsimp only
    try dsimp only
    split at h
    · rename_i c3
      try rw [if_pos c3]
      try dsimp only
      split at h
      · rename_i e9
        obtain ⟨b1, g1, r1⟩ := hxt _ _ _ _ _ _ _ _ _ _ _ hr hf hl e9
        rw [g1]
        exact hih _ _ _ _ _ _ _ _ _ _ _ _ r1 hf hl h
      · cases h
    · rename_i c3
      try rw [if_neg c3]
      try dsimp only
      split at h
      · cases h
      · rename_i c4
        try rw [if_neg c4]
        try dsimp only
        split at h
        · rename_i c5
          rw [if_pos ⟨ph_recv hR hr c5.1, by omega, c5.2.2⟩]
          split at h
          · cases h
          · rename_i fr'
            obtain ⟨f2, rfl⟩ : ∃ f2, fr2 = f2 + 1 := ⟨fr2 - 1, by omega⟩
            try dsimp only
            split at h
            · rename_i e9
              obtain ⟨b1, g1, r1⟩ := hih _ _ f2 (lo2 - (((st.drop (ax y i).2.2).map Value.category).sum + (nL (ax y i).2.1 + 11))) _ _ _ _ _ _ _ _ hr (by omega) (by omega) e9
              rw [g1]
              exact hih _ _ _ _ _ _ _ _ _ _ _ _ r1 hf hl h
            · rename_i e9
              obtain ⟨b1, g1, r1⟩ := hih _ _ f2 (lo2 - (((st.drop (ax y i).2.2).map Value.category).sum + (nL (ax y i).2.1 + 11))) _ _ _ _ _ _ _ _ hr (by omega) (by omega) e9
              rw [g1]
              try dsimp only
              split at h
              · rename_i e10
                rw [ph_exc hR r1 e10]
                try dsimp only
                split at h
                · rename_i e11
                  try rw [e11]
                  try dsimp only
                  exact hih _ _ _ _ _ _ _ _ _ _ _ _ r1 hf hl h
                · rename_i e11
                  try rw [e11]
                  try dsimp only
                  try dsimp only
                  split at h
                  · rename_i e12
                    try rw [e12]
                    try dsimp only
                    cases h
                    exact ⟨b1, rfl, r1⟩
                  · cases h
              · cases h
            · cases h
        · cases h
  · cases h
theorem ph_run (hR : ph_R G1 S1 P1 N1 M1 G2 S2 P2 N2 M2 r) (hxt : ∀ (kd z fr lo fr2 lo2 : Nat) (a : H1) (b : H2) (st : List Value) (a' : H1) (st' : List Value), r a b → fr ≤ fr2 → lo ≤ lo2 → xt1 kd z fr lo a st = some (a', st') → ∃ b', xt2 kd z fr2 lo2 b st = some (b', st') ∧ r a' b') :
    ∀ (n n2 : Nat), n ≤ n2 → ∀ (fr lo fr2 lo2 : Nat) (a : H1) (b : H2) (y pc : Nat) (lv : List (Nat × Value)) (st : List Value) (a' : H1) (o : pv_O), r a b → fr ≤ fr2 → lo ≤ lo2 →
      pv_run G1 S1 P1 N1 M1 sc capC capS ar nw fty co ax nL cst rt hs rc xt1 n fr lo a y pc lv st = some (a', o) → ∃ b', pv_run G2 S2 P2 N2 M2 sc capC capS ar nw fty co ax nL cst rt hs rc xt2 n2 fr2 lo2 b y pc lv st = some (b', o) ∧ r a' b' := by
  intro n
  induction n with
  | zero => intro n2 _ fr lo fr2 lo2 a b y pc lv st a' o _ _ _ h; cases h
  | succ n ih =>
    intro n2 hn fr lo fr2 lo2 a b y pc lv st a' o hr hf hl h
    obtain ⟨n3, rfl⟩ : ∃ n3, n2 = n3 + 1 := ⟨n2 - 1, by omega⟩
    exact ph_body hR hxt (ih n3 (by omega)) hr hf hl h
end PHN
