/-! sheets: what is asked of them -/
section GET
variable {sc : Nat × (Nat → Int32)} {D : tD} {K : tD → Int → Prop} {E : tD → Nat → Prop} {s c i : Int}
theorem ln_fams (hs : s = 0 ∨ s = 1) : ln (5 + 975 * s + 1) = 9 := by rcases hs with rfl | rfl <;> rfl
theorem ln_chs (hs : s = 0 ∨ s = 1) : ln (5 + 975 * s + 155) = 24 := by rcases hs with rfl | rfl <;> rfl
theorem ln_ord (hs : s = 0 ∨ s = 1) : ln (977 + 975 * s) = 24 := by rcases hs with rfl | rfl <;> rfl
theorem lnk {t : Nat → Int} {v : Nat} {n : Nat} (h : (List.range n).all (fun k => Nat.beq (tln (t k).toNat) v) = true) {k : Int} (hk : 0 ≤ k ∧ k < (n : Nat)) : ln (t k.toNat) = (v : Nat) := by
  have := nbeq.mp (List.all_eq_true.mp h k.toNat (List.mem_range.mpr (by omega)))
  unfold ln
  rw [this]
theorem ln_ch {k d : Int} {v : Nat} (hs : s = 0 ∨ s = 1) (hk : 0 ≤ k ∧ k < 24) (h0 : (List.range 24).all (fun k => Nat.beq (tln (161 + 975 * (0 : Int) + 34 * (k : Nat) + d).toNat) v) = true) (h1 : (List.range 24).all (fun k => Nat.beq (tln (161 + 975 * (1 : Int) + 34 * (k : Nat) + d).toNat) v) = true) : ln (aC s k + d) = (v : Nat) := by
  have e : ((k.toNat : Nat) : Int) = k := by omega
  rcases hs with rfl | rfl
  · have := lnk (t := fun k => 161 + 975 * (0 : Int) + 34 * (k : Nat) + d) h0 hk
    try dsimp only at this
    rw [e] at this
    exact this
  · have := lnk (t := fun k => 161 + 975 * (1 : Int) + 34 * (k : Nat) + d) h1 hk
    try dsimp only at this
    rw [e] at this
    exact this
theorem ln_cnt {k : Int} (hs : s = 0 ∨ s = 1) (hk : 0 ≤ k ∧ k < 24) : ln (aC s k + 4) = 7 := ln_ch hs hk (by decide +kernel) (by decide +kernel)
theorem ln_exs {k : Int} (hs : s = 0 ∨ s = 1) (hk : 0 ≤ k ∧ k < 24) : ln (aC s k + 5) = 7 := ln_ch hs hk (by decide +kernel) (by decide +kernel)
theorem ln_lab {k : Int} (hs : s = 0 ∨ s = 1) (hk : 0 ≤ k ∧ k < 24) : ln (aC s k + 3) = 66 := ln_ch hs hk (by decide +kernel) (by decide +kernel)
theorem ln_fa {f d : Int} {v : Nat} (hs : s = 0 ∨ s = 1) (hk : 0 ≤ f ∧ f < 9) (h0 : (List.range 9).all (fun k => Nat.beq (tln (7 + 975 * (0 : Int) + 17 * (k : Nat) + d).toNat) v) = true) (h1 : (List.range 9).all (fun k => Nat.beq (tln (7 + 975 * (1 : Int) + 17 * (k : Nat) + d).toNat) v) = true) : ln (aF s f + d) = (v : Nat) := by
  have e : ((f.toNat : Nat) : Int) = f := by omega
  rcases hs with rfl | rfl
  · have := lnk (t := fun k => 7 + 975 * (0 : Int) + 17 * (k : Nat) + d) h0 hk
    try dsimp only at this
    rw [e] at this
    exact this
  · have := lnk (t := fun k => 7 + 975 * (1 : Int) + 17 * (k : Nat) + d) h1 hk
    try dsimp only at this
    rw [e] at this
    exact this
theorem ln_nam {f : Int} (hs : s = 0 ∨ s = 1) (hk : 0 ≤ f ∧ f < 9) : ln (aF s f + 2) = 24 := ln_fa hs hk (by decide +kernel) (by decide +kernel)
theorem ln_uni {f : Int} (hs : s = 0 ∨ s = 1) (hk : 0 ≤ f ∧ f < 9) : ln (aF s f + 4) = 8 := ln_fa hs hk (by decide +kernel) (by decide +kernel)
theorem ln_hel {f : Int} (hs : s = 0 ∨ s = 1) (hk : 0 ≤ f ∧ f < 9) : ln (aF s f + 6) = 40 := ln_fa hs hk (by decide +kernel) (by decide +kernel)
theorem ln_bnd {f : Int} (hs : s = 0 ∨ s = 1) (hk : 0 ≤ f ∧ f < 9) : ln (aF s f + 7) = 6 := ln_fa hs hk (by decide +kernel) (by decide +kernel)
theorem ln_sts {f : Int} (hs : s = 0 ∨ s = 1) (hk : 0 ≤ f ∧ f < 9) : ln (aF s f + 8) = 4 := ln_fa hs hk (by decide +kernel) (by decide +kernel)
theorem ln_st {f k : Int} (hs : s = 0 ∨ s = 1) (hk : 0 ≤ f ∧ f < 9) (h : 0 ≤ k ∧ k < 4) : ln (aF s f + 10 + 2 * k) = 12 := by
  have hk4 : k = 0 ∨ k = 1 ∨ k = 2 ∨ k = 3 := by omega
  rw [show aF s f + 10 + 2 * k = aF s f + (10 + 2 * k) from by omega]
  rcases hk4 with rfl | rfl | rfl | rfl
  · exact ln_fa hs hk (by decide +kernel) (by decide +kernel)
  · exact ln_fa hs hk (by decide +kernel) (by decide +kernel)
  · exact ln_fa hs hk (by decide +kernel) (by decide +kernel)
  · exact ln_fa hs hk (by decide +kernel) (by decide +kernel)
/-- the family of a number -/
theorem c_famAt {x : Int} (hs : s = 0 ∨ s = 1) (h8 : D (5 + 975 * s) 4 ≤ 8) (hT : 0 ≤ x ∧ x < D (5 + 975 * s) 4 → K D (aF s x)) (hF : ¬ (0 ≤ x ∧ x < D (5 + 975 * s) 4) → K D (-1)) : WP sc 107 0 D [(0, (1208, 5 + 975 * s)), (1, (0, x))] [] K E := by
  have hl := ln_fams hs
  refine v107_0 ?_
  split
  · exact hF (by omega)
  split
  · refine ⟨by omega, ?_⟩
    rw [show 5 + 975 * s + 1 + 1 + 17 * x = aF s x from by unfold aF; omega]
    exact hT (by omega)
  · exact hF (by omega)
theorem c_chAt {x : Int} (hs : s = 0 ∨ s = 1) (hT : 0 ≤ x ∧ x < 24 → D (aC s x) 3 ≠ 0 → K D (aC s x)) (hF : ¬ (0 ≤ x ∧ x < 24 ∧ D (aC s x) 3 ≠ 0) → K D (-1)) : WP sc 111 0 D [(0, (1208, 5 + 975 * s)), (1, (0, x))] [] K E := by
  have hl := ln_chs hs
  refine v111_0 ?_
  rw [show 5 + 975 * s + 155 + 1 + 34 * x = aC s x from by unfold aC; omega]
  split
  · exact hF (by omega)
  split
  · refine ⟨by omega, fun _ => ?_⟩
    split
    · rename_i h0
      exact hF (fun h => h.2.2 h0)
    · rename_i h0
      exact ⟨by omega, hT (by omega) h0⟩
  · exact hF (by omega)
theorem c_parent {k : Int} (hs : s = 0 ∨ s = 1) (h : 0 ≤ D (aC s k) 4 ∧ D (aC s k) 4 < 9) (hK : K D (aF s (D (aC s k) 4))) : WP sc 118 0 D [(0, (1208, 5 + 975 * s)), (1, (1201, aC s k))] [] K E := by
  have hl := ln_fams hs
  refine v118_0 ⟨by omega, ?_⟩
  rw [show 5 + 975 * s + 1 + 1 + 17 * D (aC s k) 4 = aF s (D (aC s k) 4) from by unfold aF; omega]
  exact hK
theorem c_ofKind {kd x : Int} (hs : s = 0 ∨ s = 1) (hp : ∀ k, 0 ≤ k → k < 24 → D (aC s k) 3 ≠ 0 → 0 ≤ D (aC s k) 4 ∧ D (aC s k) 4 < 9) (hT : 0 ≤ x ∧ x < 24 → D (aC s x) 3 ≠ 0 → D (aF s (D (aC s x) 4)) 5 = kd → K D (aC s x)) (hF : ¬ (0 ≤ x ∧ x < 24 ∧ D (aC s x) 3 ≠ 0 ∧ D (aF s (D (aC s x) 4)) 5 = kd) → K D (-1)) : WP sc 117 0 D [(0, (1208, 5 + 975 * s)), (1, (0, kd)), (2, (0, x))] [] K E := by
  refine v117_0 (c_chAt hs (fun h1 h2 => ?_) (fun h => ?_))
  · rw [if_neg (by unfold aC; omega)]
    have h3 := hp x h1.1 h1.2 h2
    refine c_parent hs h3 ?_
    rw [if_neg (by unfold aF; omega)]
    split
    · rename_i h4
      exact hT h1 h2 h4
    · rename_i h4
      exact hF (fun h => h4 h.2.2.2)
  · rw [if_pos rfl]
    exact hF (fun h5 => h ⟨h5.1, h5.2.1, h5.2.2.1⟩)
/-- how many children a family has -/
def nch (D : tD) (s f : Int) : Int := sm (fun k => if D (aC s k) 3 ≠ 0 ∧ D (aC s k) 4 = f then 1 else 0) 24
theorem c_chOf1 {f : Int} (hs : s = 0 ∨ s = 1) (hK : K D (nch D s f)) : ∀ (q k : Nat), q + k = 24 → WP sc 114 4 D [(0, (1208, 5 + 975 * s)), (1, (0, f)), (2, (0, sm (fun k => if D (aC s k) 3 ≠ 0 ∧ D (aC s k) 4 = f then 1 else 0) k)), (3, (0, (k : Nat)))] [] K E := by
  have hl := ln_chs hs
  intro q
  induction q with
  | zero =>
    intro k hk
    have e : k = 24 := by omega
    subst e
    refine v114_4 ?_
    rw [if_neg (by omega)]
    exact hK
  | succ q ih =>
    intro k hk
    have hb := sm_bound (g := fun k => if D (aC s k) 3 ≠ 0 ∧ D (aC s k) 4 = f then 1 else 0) (a := 0) (b := 1) (n := k) (fun k _ _ => by split <;> omega)
    have h1 := ih (k + 1) (by omega)
    rw [sm_succ] at h1
    try dsimp only at h1
    refine v114_4 ?_
    rw [show 5 + 975 * s + 155 + 1 + 34 * ((k : Nat) : Int) = aC s (k : Nat) from by unfold aC; omega, if_pos (by omega), w32_id (x := ((k : Nat) : Int) + 1) (by omega) (by omega)]
    rw [show (((k + 1 : Nat)) : Int) = (k : Nat) + 1 from by omega] at h1
    refine ⟨by omega, fun _ => ?_⟩
    rw [w32_id (x := _ + 0) (by omega) (by omega), w32_id (x := _ + 1) (by omega) (by omega)]
    split
    · rename_i h0
      rw [if_neg (by omega)] at h1
      exact h1
    · rename_i h0
      refine ⟨by omega, ?_⟩
      split
      · rename_i h2
        rw [if_pos ⟨h0, h2⟩] at h1
        exact h1
      · rename_i h2
        rw [if_neg (fun h => h2 h.2)] at h1
        exact h1
theorem c_chOf {f : Int} (hs : s = 0 ∨ s = 1) (hK : K D (nch D s f)) : WP sc 114 0 D [(0, (1208, 5 + 975 * s)), (1, (0, f))] [] K E := v114_0 (c_chOf1 hs hK 24 0 (by omega))
theorem c_mchOf1 {f : Int} (hK : K D (sm (fun k => if D 1994 k ≠ 0 ∧ D 1995 k = f then 1 else 0) 48)) : ∀ (q k : Nat), q + k = 48 → WP sc 201 4 D [(0, (1211, 1977)), (1, (0, f)), (2, (0, sm (fun k => if D 1994 k ≠ 0 ∧ D 1995 k = f then 1 else 0) k)), (3, (0, (k : Nat)))] [] K E := by
  intro q
  induction q with
  | zero =>
    intro k hk
    have e : k = 48 := by omega
    subst e
    refine v201_4 ?_
    rw [if_neg (by omega)]
    exact hK
  | succ q ih =>
    intro k hk
    have hb := sm_bound (g := fun k => if D 1994 k ≠ 0 ∧ D 1995 k = f then 1 else 0) (a := 0) (b := 1) (n := k) (fun k _ _ => by split <;> omega)
    have h1 := ih (k + 1) (by omega)
    rw [sm_succ] at h1
    try dsimp only at h1
    rw [show (((k + 1 : Nat)) : Int) = (k : Nat) + 1 from by omega] at h1
    refine v201_4 ?_
    rw [if_pos (by omega), w32_id (x := ((k : Nat) : Int) + 1) (by omega) (by omega)]
    refine ⟨by omega, fun _ => ?_⟩
    rw [w32_id (x := _ + 0) (by omega) (by omega), w32_id (x := _ + 1) (by omega) (by omega)]
    split
    · rename_i h0
      rw [if_neg (by omega)] at h1
      rw [Int.add_zero] at h1 ⊢
      exact h1
    · rename_i h0
      refine ⟨by omega, ?_⟩
      split
      · rename_i h2
        rw [if_pos ⟨h0, h2⟩] at h1
        exact h1
      · rename_i h2
        rw [if_neg (fun h => h2 h.2)] at h1
        exact h1
theorem c_mchOf {f : Int} (hK : K D (sm (fun k => if D 1994 k ≠ 0 ∧ D 1995 k = f then 1 else 0) 48)) : WP sc 201 0 D [(0, (1211, 1977)), (1, (0, f))] [] K E := v201_0 (c_mchOf1 hK 48 0 (by omega))
theorem mch_eq {f : Int} (hs : s = 0 ∨ s = 1) (h0 : shR c D 0) (h1 : shR c D 1) (hf : 0 ≤ f ∧ f < 8) : sm (fun k => if D 1994 k ≠ 0 ∧ D 1995 k = 8 * s + f then 1 else 0) 48 = nch D s f := by
  rw [show (48 : Nat) = 24 + 24 from rfl, sm_add]
  have z : ∀ t, (t = 0 ∨ t = 1) → shR c D t → t = s → sm (fun k => if D 1994 (24 * t + k) ≠ 0 ∧ D 1995 (24 * t + k) = 8 * s + f then 1 else 0) 24 = nch D s f := fun t ht hsh e => by
    subst e
    refine sm_ext (fun k x y => ?_)
    obtain ⟨b1, b2, b3⟩ := hsh.2.2.1 k x (by omega)
    rw [← b1]
    rcases b2 with b2 | b2
    · rw [b2]; simp
    · have := (b3 b2).1.2.2
      rw [b2, this]
      simp only [show (1 : Int) ≠ 0 from by omega, true_and, ne_eq, not_false_eq_true]
      by_cases q : D (aC t k) 4 = f
      · rw [if_pos (by omega), if_pos q]
      · rw [if_neg (by omega), if_neg q]
  have o : ∀ t, (t = 0 ∨ t = 1) → shR c D t → t ≠ s → sm (fun k => if D 1994 (24 * t + k) ≠ 0 ∧ D 1995 (24 * t + k) = 8 * s + f then 1 else 0) 24 = 0 := fun t ht hsh e => by
    refine sm_z (fun k x y => ?_)
    obtain ⟨b1, b2, b3⟩ := hsh.2.2.1 k x (by omega)
    try dsimp only
    rw [← b1]
    rcases b2 with b2 | b2
    · rw [b2]; simp
    · have g1 := (b3 b2).1
      have g2 := hsh.1
      rw [if_neg (by omega)]
  have e0 : sm (fun k => if D 1994 k ≠ 0 ∧ D 1995 k = 8 * s + f then 1 else 0) 24 = sm (fun k => if D 1994 (24 * 0 + k) ≠ 0 ∧ D 1995 (24 * 0 + k) = 8 * s + f then 1 else 0) 24 := sm_ext (fun k _ _ => by rw [show 24 * (0 : Int) + k = k from by omega])
  have e1 : sm (fun k => if D 1994 ((24 : Nat) + k) ≠ 0 ∧ D 1995 ((24 : Nat) + k) = 8 * s + f then 1 else 0) 24 = sm (fun k => if D 1994 (24 * 1 + k) ≠ 0 ∧ D 1995 (24 * 1 + k) = 8 * s + f then 1 else 0) 24 := sm_ext (fun k _ _ => by rw [show ((24 : Nat) : Int) + k = 24 * 1 + k from by omega])
  rw [e0]
  refine Eq.trans (congrArg (fun z => _ + z) e1) ?_
  rcases hs with rfl | rfl
  · rw [z 0 (Or.inl rfl) h0 rfl, o 1 (Or.inr rfl) h1 (by omega)]; omega
  · rw [o 0 (Or.inl rfl) h0 (by omega), z 1 (Or.inr rfl) h1 rfl]; omega
end GET
