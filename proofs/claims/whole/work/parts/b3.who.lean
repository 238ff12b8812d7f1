/-! reading a sample: its child, the class's side -/
section WHO
variable {sc : Nat × (Nat → Int32)} {D D' A A' : tD} {K : tD → Int → Prop} {E : tD → Nat → Prop} {T : Int → Int} {n c : Int}
/-- the child that is being read has the labels that were read -/
def smQ (D : tD) : Prop := D 1956 6 ≠ -1 ∧ eqr D (D 1956 6 + 1 + 1) 1960
/-- whose sample it is: (0, 0) the same child's, (0, 1) a new child's -/
noncomputable def whO (D : tD) (a : Int) : Int × Int := cif (D 1956 9 = 2 ∨ D 1956 11 = 0) (cif (smQ D) (0, 0) (10, a)) (cif (D 1956 14 ≠ 0 ∧ smQ D) (0, 0) (cif (∃ k, (0 ≤ k ∧ k < 24) ∧ fcC D 1 (D 1956 7) 1959 k) (9, a) (cif (D 980 5 = 24) (14, a) (0, 1))))
theorem wh_pos {a : Int} : 0 ≤ (whO D a).1 := by
  unfold whO
  refine cif_P (P := fun x : Int × Int => 0 ≤ x.1) (cif_P (P := fun x : Int × Int => 0 ≤ x.1) (by simp) (by simp)) (cif_P (P := fun x : Int × Int => 0 ≤ x.1) (by simp) (cif_P (P := fun x : Int × Int => 0 ≤ x.1) (by simp) (cif_P (P := fun x : Int × Int => 0 ≤ x.1) (by simp) (by simp))))
theorem t_whose {a : Int} {S : List (List Int)} (h8 : D 1956 8 = a) (hS : lsIs D 1959 S) (hl : S.flatten.length ≤ 66) (h6 : D 1956 6 = -1 ∨ ∃ k, (0 ≤ k ∧ k < 24) ∧ D 1956 6 = aC 1 k ∧ D (aC 1 k + 2) 1 ≤ 66) (h66 : ∀ k, 0 ≤ k → k < 24 → D (aC 1 k) 3 = 1 → D (aC 1 k + 2) 1 ≤ 66) (h5 : 0 ≤ D 980 5 ∧ D 980 5 ≤ 24) (hc : ∀ k, 0 ≤ k → k < 24 → ((D (aC 1 k) 3 = 0 ∨ D (aC 1 k) 3 = 1) ∧ (D (aC 1 k) 3 = 1 ↔ k < D 980 5))) (hT : whO D a = (0, 0) → (smQ D) → K D 1) (hW : whO D a = (0, 1) → D 980 5 < 24 → ∀ D1, begP D D1 1 (D 980 5) (D 1956 7) (-1) S → K (wr (wr (wr (wr (newC D1 1 (D 980 5) (D 980 5)) 1956 13 (if D 1956 6 = -1 then 1 else 0)) 1956 6 (aC 1 (D 980 5))) 1956 15 0) 1956 16 0) 1) (hN : (whO D a).1 ≠ 0 → K (fc D (whO D a).1 (whO D a).2) 0) : WP sc 138 0 D [(0, (1209, 1956))] [] K E := by
  have l66 : ln (1959 + 2) = 66 := rfl
  have bad : ∀ cd, whO D a = (cd, a) → cd ≠ 0 → K (fc D cd a) 0 := fun cd e ne => by
    rw [e] at hN
    exact hN ne
  /- a new child -/
  have fresh : (whO D a = cif (∃ k, (0 ≤ k ∧ k < 24) ∧ fcC D 1 (D 1956 7) 1959 k) (9, a) (cif (D 980 5 = 24) (14, a) (0, 1))) → WP sc 113 0 D [(0, (1208, 980)), (1, (0, D 1956 7)), (2, (1205, 1959))] [] (fun D7 r8 => if r8 < 0 then (WP sc 115 0 D7 [(0, (1208, 980)), (1, (0, D7 1956 7)), (2, (1205, 1959)), (3, (1, (-1)))] [] (fun D10 r11 => WP sc 111 0 D10 [(0, (1208, 980)), (1, (0, r11))] [] (fun D13 r14 => if r14 = -1 then (WP sc 42 0 D13 [(0, (1202, 1957)), (1, (0, 14)), (2, (0, D13 1956 8))] [] (fun D16 r17 => tbl r17 (K D16 r17)) E) else (if D13 1956 6 = -1 then (K (wr (wr (wr (wr D13 1956 13 1) 1956 6 r14) 1956 15 0) 1956 16 0) 1) else (K (wr (wr (wr (wr D13 1956 13 0) 1956 6 r14) 1956 15 0) 1956 16 0) 1))) E) E) else (WP sc 42 0 D7 [(0, (1202, 1957)), (1, (0, 9)), (2, (0, D7 1956 8))] [] (fun D19 r20 => tbl r20 (K D19 r20)) E)) E := fun ew => by
    refine c_findCh (s := 1) (Or.inr rfl) h66 (by rw [hS.2.1, l66]; omega) (fun r hr => ?_)
    rcases hr with ⟨r1, r2⟩ | ⟨r1, r2, r3, _⟩
    · rw [if_pos (by omega)]
      have nx : ¬ ∃ k, (0 ≤ k ∧ k < 24) ∧ fcC D 1 (D 1956 7) 1959 k := fun ⟨k, u, v⟩ => r2 k u.1 u.2 v
      rw [cif_neg nx] at ew
      by_cases z : D 980 5 = 24
      · rw [cif_pos z] at ew
        have full : ∀ (m : Nat) (k : Int), 24 - k = (m : Int) → 0 ≤ k → WP sc 115 3 D [(0, (1208, 980)), (1, (0, D 1956 7)), (2, (1205, 1959)), (3, (1, (-1))), (5, (0, k))] [] (fun D10 r11 => WP sc 111 0 D10 [(0, (1208, 980)), (1, (0, r11))] [] (fun D13 r14 => if r14 = -1 then (WP sc 42 0 D13 [(0, (1202, 1957)), (1, (0, 14)), (2, (0, D13 1956 8))] [] (fun D16 r17 => tbl r17 (K D16 r17)) E) else (if D13 1956 6 = -1 then (K (wr (wr (wr (wr D13 1956 13 1) 1956 6 r14) 1956 15 0) 1956 16 0) 1) else (K (wr (wr (wr (wr D13 1956 13 0) 1956 6 r14) 1956 15 0) 1956 16 0) 1))) E) E := by
          intro m
          induction m with
          | zero =>
            intro k hm hk
            refine v115_3 ?_
            rw [if_neg (by omega)]
            refine c_chAt (s := 1) (Or.inr rfl) (fun u => by omega) (fun _ => ?_)
            rw [if_pos rfl, h8]
            exact t_fc (bad 14 ew (by omega))
          | succ m ih =>
            intro k hm hk
            refine v115_3 ?_
            have eC : (980 : Int) + 155 + 1 + 34 * k = aC 1 k := by unfold aC; omega
            have e3 : D (aC 1 k) 3 = 1 := (hc k hk (by omega)).2.mpr (by omega)
            rw [if_pos (by omega), eC, e3, w32_id (x := k + 1) (by omega) (by omega)]
            refine ⟨⟨hk, by show k < (24 : Int); omega⟩, fun _ => ?_⟩
            rw [if_neg (by omega)]
            exact ih (k + 1) (by omega) (by omega)
        exact v115_0 (full 24 0 (by omega) (by omega))
      · rw [cif_neg z] at ew
        refine c_beginCh (s := 1) (n := D 980 5) (Or.inr rfl) ⟨rfl, h5.1, by omega⟩ (Or.inr rfl) hS (by omega) (by rw [l66]; omega) (fun k D1 k0 k1 k2 k3 hb => ?_) (fun hno => ?_)
        · have ek : k = D 980 5 := by
            rcases Int.lt_trichotomy k (D 980 5) with y | y | y
            · have := (hc k k0 k1).2.mpr y; omega
            · exact y
            · have q := (hc (D 980 5) h5.1 (by omega)).1
              have q2 := k3 (D 980 5) h5.1 y
              have q3 := (hc (D 980 5) h5.1 (by omega)).2
              omega
          subst ek
          have g := hW ew (by omega) D1 hb
          have aCb := aC1 (D 980 5)
          have e3 : (newC D1 1 (D 980 5) (D 980 5)) (aC 1 (D 980 5)) 3 = 1 := by
            unfold newC
            rw [wr_ne (by omega), wr_ne (by omega)]; exact hb.1.1
          have e6 : (newC D1 1 (D 980 5) (D 980 5)) 1956 6 = D 1956 6 := by
            unfold newC
            rw [wr_ne (by omega), wr_ne (by omega)]; exact hb.2.2.2 _ _ (by omega)
          refine c_chAt (s := 1) (Or.inr rfl) (fun u v => ?_) (fun w => absurd ⟨h5.1, by omega, by rw [e3]; omega⟩ w)
          rw [if_neg (by omega), e6]
          by_cases y : D 1956 6 = -1
          · rw [if_pos y]
            rw [if_pos y] at g
            exact g
          · rw [if_neg y]
            rw [if_neg y] at g
            exact g
        · exfalso
          have q := (hc (D 980 5) h5.1 (by omega))
          have q2 := hno (D 980 5) h5.1 (by omega)
          have q3 := q.2
          have q4 := q.1
          omega
    · rw [if_neg (by omega), h8]
      rw [cif_pos ⟨r, ⟨r1, r2⟩, r3⟩] at ew
      exact t_fc (bad 9 ew (by omega))
  have fail10 : whO D a = (10, a) → WP sc 42 0 D [(0, (1202, 1957)), (1, (0, 10)), (2, (0, D 1956 8))] [] (fun D1 r2 => if r2 = 0 then (K D1 0) else (K D1 1)) E := fun ew => by
    rw [h8]
    refine v42_0 ?_
    rw [if_pos rfl]
    exact bad 10 ew (by omega)
  refine v138_0 ?_
  by_cases z6 : D 1956 6 = -1
  · rw [if_pos z6]
    have ns : ¬ smQ D := fun w => w.1 z6
    by_cases z2 : D 1956 9 = 2
    · rw [if_pos z2]
      exact fail10 (by unfold whO; rw [cif_pos (Or.inl z2), cif_neg ns])
    rw [if_neg z2]
    intro _
    by_cases z1 : D 1956 11 = 0
    · rw [if_pos z1]
      exact fail10 (by unfold whO; rw [cif_pos (Or.inr z1), cif_neg ns])
    rw [if_neg z1]
    intro _
    have ew : whO D a = cif (∃ k, (0 ≤ k ∧ k < 24) ∧ fcC D 1 (D 1956 7) 1959 k) (9, a) (cif (D 980 5 = 24) (14, a) (0, 1)) := by unfold whO; rw [cif_neg (fun w => by rcases w with w | w; exact z2 w; exact z1 w), cif_neg (fun w => ns w.2)]
    split
    · exact fresh ew
    · exact fresh ew
  · rw [if_neg z6, if_neg z6]
    obtain ⟨k, hk, ek, el⟩ : ∃ k, (0 ≤ k ∧ k < 24) ∧ D 1956 6 = aC 1 k ∧ D (aC 1 k + 2) 1 ≤ 66 := by
      rcases h6 with w | w
      · exact absurd w z6
      · exact w
    have eC2 : D 1956 6 + 1 + 1 = aC 1 k + 2 := by rw [ek]; omega
    refine c_like (by rw [eC2, show aC 1 k + 2 + 1 = aC 1 k + 3 from by omega, ln_lab (Or.inr rfl) hk]; exact el) (by show D (1959 + 1) 1 ≤ ln (1959 + 2); rw [hS.2.1, l66]; omega) (by rw [eC2]; omega) (fun q => ?_) (fun q => ?_)
    · rw [if_neg (by omega)]
      have ys : smQ D := ⟨z6, q⟩
      by_cases z2 : D 1956 9 = 2
      · rw [if_pos z2]
        exact hT (by unfold whO; rw [cif_pos (Or.inl z2), cif_pos ys]) ys
      rw [if_neg z2]
      intro _
      by_cases z1 : D 1956 11 = 0
      · rw [if_pos z1]
        exact hT (by unfold whO; rw [cif_pos (Or.inr z1), cif_pos ys]) ys
      rw [if_neg z1]
      intro _
      have nw : ¬ (D 1956 9 = 2 ∨ D 1956 11 = 0) := fun w => by rcases w with w | w; exact z2 w; exact z1 w
      by_cases z4 : D 1956 14 = 0
      · rw [if_pos z4]
        exact fresh (by unfold whO; rw [cif_neg nw, cif_neg (fun w => w.1 z4)])
      · rw [if_neg z4]
        exact hT (by unfold whO; rw [cif_neg nw, cif_pos ⟨z4, ys⟩]) ys
    · rw [if_pos rfl]
      have ns : ¬ smQ D := fun w => q w.2
      by_cases z2 : D 1956 9 = 2
      · rw [if_pos z2]
        exact fail10 (by unfold whO; rw [cif_pos (Or.inl z2), cif_neg ns])
      rw [if_neg z2]
      intro _
      by_cases z1 : D 1956 11 = 0
      · rw [if_pos z1]
        exact fail10 (by unfold whO; rw [cif_pos (Or.inr z1), cif_neg ns])
      rw [if_neg z1]
      intro _
      have ew : whO D a = cif (∃ k, (0 ≤ k ∧ k < 24) ∧ fcC D 1 (D 1956 7) 1959 k) (9, a) (cif (D 980 5 = 24) (14, a) (0, 1)) := by unfold whO; rw [cif_neg (fun w => by rcases w with w | w; exact z2 w; exact z1 w), cif_neg (fun w => ns w.2)]
      split
      · exact fresh ew
      · exact fresh ew
end WHO
