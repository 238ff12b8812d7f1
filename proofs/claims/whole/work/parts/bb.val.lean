/-! reading a sample: its value, the class's test -/
section VAL
variable {sc : Nat × (Nat → Int32)} {D A : tD} {K : tD → Int → Prop} {E : tD → Nat → Prop}
def valR (w kd v : Int) : Prop := (w = 1 ∨ w = 2 → 0 ≤ v) ∧ (w = 3 ∨ w = 4 → 0 ≤ v ∧ v % 1000 = 0) ∧ (w = 6 → v = 1000) ∧ (w = 0 ∧ kd = 4 → v = 1000 ∨ v = 0)
theorem tlc_n {x y : Int} : tlc x y < 0 ↔ x < y := by
  unfold tlc
  split
  · constructor <;> intro _ <;> omega
  · split <;> constructor <;> intro _ <;> omega
theorem tlc_z {x y : Int} : tlc x y = 0 ↔ x = y := by
  unfold tlc
  split
  · constructor <;> intro _ <;> omega
  · split <;> constructor <;> intro _ <;> omega
theorem t_right {w kd F v : Int} (h9 : D 1956 9 = w) (hw : 0 ≤ w ∧ w ≤ 6) (hF : D 1956 5 = F ∧ 0 ≤ F) (hk : D F 5 = kd) (hT : valR w kd v → K D 1) (hN : ¬ valR w kd v → K D 0) : WP sc 144 0 D [(0, (1209, 1956)), (1, (1, v))] [] K E := by
  have tm : 0 ≤ v → Int.tmod v 1000 = v % 1000 := fun h => Int.tmod_eq_emod_of_nonneg h
  unfold valR at hT hN
  refine v144_0 ?_
  rw [h9, hF.1, hk]
  have neg : ∀ {P Q : Prop}, (v < 0 → P) → (¬ v < 0 → Q) → (if tlc v 0 < 0 then P else Q) := fun {P Q} h1 h2 => by
    by_cases z : v < 0
    · rw [if_pos (tlc_n.mpr z)]; exact h1 z
    · rw [if_neg (fun y => z (tlc_n.mp y))]; exact h2 z
  have eq : ∀ {P Q : Prop} (x y : Int), (x = y → P) → (x ≠ y → Q) → (if tlc x y = 0 then P else Q) := fun {P Q} x y h1 h2 => by
    by_cases z : x = y
    · rw [if_pos (tlc_z.mpr z)]; exact h1 z
    · rw [if_neg (fun q => z (tlc_z.mp q))]; exact h2 z
  by_cases w1 : w = 1
  · rw [if_pos w1]; exact neg (fun z => hN (by omega)) (fun z => hT (by omega))
  rw [if_neg w1]
  by_cases w2 : w = 2
  · rw [if_pos w2]; exact neg (fun z => hN (by omega)) (fun z => hT (by omega))
  rw [if_neg w2]
  by_cases w3 : w = 3
  · rw [if_pos w3]; exact neg (fun z => hN (by omega)) (fun z => by rw [tm (by omega)]; exact eq _ _ (fun q => hT (by omega)) (fun q => hN (by omega)))
  rw [if_neg w3]
  by_cases w4 : w = 4
  · rw [if_pos w4]; exact neg (fun z => hN (by omega)) (fun z => by rw [tm (by omega)]; exact eq _ _ (fun q => hT (by omega)) (fun q => hN (by omega)))
  rw [if_neg w4]
  by_cases w5 : w = 5
  · rw [if_pos w5]; exact hT (by omega)
  rw [if_neg w5]
  by_cases w6 : w = 6
  · rw [if_pos w6]; exact eq _ _ (fun q => hT (by omega)) (fun q => hN (by omega))
  rw [if_neg w6, if_neg (by omega)]
  by_cases k4 : kd = 4
  · rw [if_pos k4]; exact eq _ _ (fun q => hT (by omega)) (fun q => eq _ _ (fun q2 => hT (by omega)) (fun q2 => hN (by omega)))
  · rw [if_neg k4]; exact hT (by omega)
end VAL
