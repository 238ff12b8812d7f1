/-! reading a sample: its name, its labels, its child, both sides -/
section FRN
variable {sc : Nat × (Nat → Int32)} {D D' A A' A0 : tD} {K : tD → Int → Prop} {E : tD → Nat → Prop} {T : Int → Int} {n c : Int}
/-- the other side comes from a line's beginning to here -/
def Pre (sc : Nat × (Nat → Int32)) (c : Int) (T : Int → Int) (n a B : Int) (D0 : tD) (P : tD → Prop) (C : tD → (tD → Int → Prop) → (tD → Nat → Prop) → Prop) : Prop := ∀ A, RC c T n a B D0 A → ∀ (K' : tD → Int → Prop) (E' : tD → Nat → Prop), (∀ A1, frV A A1 → P A1 → C A1 K' E') → WP sc 271 0 A [(0, (1211, 1977))] [] K' E'
theorem lr_m : lr [(0, (1211, 1977))] [(0, .ref 1977)] := by
  intro i t ht
  rcases i with _ | i
  · cases ht; exact ⟨_, rfl, vnp' (by omega) ⟨by omega, by omega, rfl, by decide +kernel⟩⟩
  · exact absurd ht (by simp [tget, nbne (show (0 : Nat) ≠ i + 1 by omega)])
theorem Pre_ex {a B : Int} {P : tD → Prop} {C : tD → (tD → Int → Prop) → (tD → Nat → Prop) → Prop} (h : Pre sc c T n a B D P C) (hR : RC c T n a B D A) (hok : okD A) (hsc : sc.1 ≤ 2560) : ∃ A1, P A1 := by
  refine Classical.byContradiction (fun no => ?_)
  obtain ⟨_, _, _, f⟩ := WP_ex hsc hok lr_m (h A hR (fun _ _ => False) (fun _ _ => False) (fun A1 _ p => absurd ⟨A1, p⟩ no))
  exact f
/-- where the other side goes on behind the child -/
def CW (sc : Nat × (Nat → Int32)) (w kd : Int) (A : tD) (K' : tD → Int → Prop) (E' : tD → Nat → Prop) : Prop := if w = 3 then WP sc 274 0 A [(0, (1211, 1977))] [] (fun A2 r => if r = 0 then K' A2 0 else WP sc 271 182 A2 [(0, (1211, 1977)), (3, (0, w))] [] K' E') E' else if kd = 4 then WP sc 277 0 A [(0, (1211, 1977))] [] (fun A2 r => if r = 0 then K' A2 0 else WP sc 271 182 A2 [(0, (1211, 1977)), (3, (0, w))] [] K' E') E' else WP sc 271 182 A [(0, (1211, 1977)), (3, (0, w))] [] K' E'
/-- both sides behind the child -/
def PW (c : Int) (T : Int → Int) (n p B f k w q : Int) (l : List Int) (D A : tD) : Prop := MQp T n p D A ∧ (MS c B f k D A ∧ MN w 0 D A) ∧ KD f k w D A ∧ ((w = 3 ∨ D (aF 1 f) 5 = 4) → XD T n q l D A) ∧ (D (aF 1 f) 5 = 4 → (l.length : Int) ≤ 12)
theorem smW_ext {a b z due may : Int} {N M : Int → Int} (h : ∀ j, 0 ≤ j → j < z → N j = M j) : smW T a b N z due may = smW T a b M z due may := by
  unfold smW
  have e : ∀ w, owT T a b N z w = owT T a b M z w := fun w => propext (owT_ext h)
  rw [e, e]
theorem smW_or {a b z due may : Int} {N : Int → Int} (hd : 0 ≤ due) (h : 0 ≤ smW T a b N z due may) : smW T a b N z due may = due ∨ (smW T a b N z due may = 2 ∧ may = 1) := by
  unfold smW at h ⊢
  by_cases z1 : owT T a b N z due
  · rw [cif_pos z1]; exact Or.inl rfl
  rw [cif_neg z1] at h ⊢
  by_cases z2 : may = 1 ∧ owT T a b N z 2
  · rw [cif_pos z2]; exact Or.inr ⟨rfl, z2.1⟩
  · rw [cif_neg z2] at h; omega
theorem wnt_b {kd due : Int} : 0 ≤ wnt kd due ∧ wnt kd due ≤ 6 ∧ wnt kd due ≠ 2 ∧ (wnt kd due = 3 → kd = 2 ∧ (due = 0 ∨ due = 1)) ∧ (kd = 4 → wnt kd due = 0) ∧ (wnt kd due = 4 → kd = 2 ∧ due = 2) ∧ (wnt kd due = 5 → kd = 2 ∧ due ≠ 0 ∧ due ≠ 1) ∧ (wnt kd due = 0 → kd ≠ 2) ∧ (kd = 2 → due = 1 → wnt kd due = 3) ∧ (kd = 2 → due = 2 → wnt kd due = 4) ∧ (kd = 2 → due = 3 → wnt kd due = 5) := by
  unfold wnt
  repeat' split
  all_goals omega
theorem fpt_w {kd : Int} : fpt kd = wnt kd 0 := wnt_0.symm
/-- what the part asks -/
theorem w_facts {f w : Int} (hch : chP D A f) (hk : 0 ≤ D (aF 1 f) 5 ∧ D (aF 1 f) 5 ≤ 4) (h11 : (D 1956 11 = 0 ∨ D 1956 11 = 1) ∧ (A 1977 51 = 0 ↔ D 1956 11 ≠ 0)) (hw : w = D 1956 10 ∨ (w = 2 ∧ D 1956 12 = 1)) : ((w = 3 → D (aF 1 f) 5 = 2) ∧ (D (aF 1 f) 5 = 4 → w = 0) ∧ 0 ≤ w ∧ w ≤ 6) ∧ ((w = 2 ∨ w = 4 ∨ w = 5 ∨ (w = 3 ∧ A 1977 51 = 1) ∨ (w = 0 ∧ A 1977 51 = 4)) ↔ (w = 2 ∨ D 1956 11 = 0)) ∧ ((w = 2 ∨ D 1956 11 = 0) → D 1956 6 ≠ -1) ∧ (D 1956 11 ≠ 0 → w ≠ 2 → w = wnt (D (aF 1 f) 5) 0) := by
  obtain ⟨h11, h51⟩ := h11
  rcases hch with g | ⟨k, g⟩
  · obtain ⟨g1, g2, g3, g4, -⟩ := g
    rw [fpt_w] at g4
    have b := wnt_b (kd := D (aF 1 f) 5) (due := 0)
    have e : w = wnt (D (aF 1 f) 5) 0 := by
      rcases hw with w1 | w1
      · exact w1.trans g4
      · omega
    rw [← e] at b ⊢
    have d1 := g2.1
    have d2 := g2.2
    refine ⟨⟨fun y => (b.2.2.2.1 y).1, b.2.2.2.2.1, by omega, by omega⟩, ⟨fun y => ?_, fun y => ?_⟩, fun y => ?_, fun _ _ => rfl⟩
    · rcases y with y | y | y | y | y
      · exact Or.inl y
      · have := (b.2.2.2.2.2.1 y).2; omega
      · have := (b.2.2.2.2.2.2.1 y).2.1; omega
      · omega
      · omega
    · omega
    · omega
  · obtain ⟨k1, k2, ⟨c1, c2, c3⟩, c4, -, c6, -, -, c9⟩ := g
    have b := wnt_b (kd := D (aF 1 f) 5) (due := A 1977 51)
    have aCb := aC1 k
    have n6 : D 1956 6 ≠ -1 := by have := k2.1; have := k1.1; omega
    rw [c4] at hw
    refine ⟨?_, ?_, fun _ => n6, fun y1 y2 => ?_⟩
    · rcases hw with e | ⟨e, e2⟩
      · rw [← e] at b
        exact ⟨fun y => (b.2.2.2.1 y).1, b.2.2.2.2.1, by omega, by omega⟩
      · have := (c3 e2).1
        exact ⟨by omega, by omega, by omega, by omega⟩
    · rcases hw with e | ⟨e, e2⟩
      · rw [← e] at b
        refine ⟨fun y => ?_, fun y => ?_⟩
        · rcases y with y | y | y | y | y
          · exact Or.inl y
          · have := (b.2.2.2.2.2.1 y).2; omega
          · have := (b.2.2.2.2.2.2.1 y).2.1; omega
          · omega
          · omega
        · rcases y with y | y
          · omega
          · have d0 : A 1977 51 ≠ 0 := fun z => h51.mp z y
            rcases c9 with ⟨q2, d, _⟩ | ⟨q4, _, d, _⟩ | ⟨q0, d⟩
            · rcases d with d | d | d | d
              · exact absurd d d0
              · exact Or.inr (Or.inl (b.2.2.2.2.2.2.2.2.2.1 q2 d))
              · exact Or.inr (Or.inr (Or.inl (b.2.2.2.2.2.2.2.2.2.2 q2 d)))
              · exact Or.inr (Or.inr (Or.inr (Or.inl ⟨b.2.2.2.2.2.2.2.2.1 q2 d.1, d.1⟩)))
            · have w0 := b.2.2.2.2.1 q4
              rcases d with d | ⟨_, d | d⟩
              · exact absurd d.2.2 d0
              · exact absurd d.1 d0
              · exact Or.inr (Or.inr (Or.inr (Or.inr ⟨w0, d.1⟩)))
            · exact absurd d d0
      · exact ⟨fun _ => Or.inl e, fun _ => Or.inl e⟩
    · rcases hw with e | ⟨e, e2⟩
      · rw [e, h51.mpr y1]
      · exact absurd e y2
end FRN
