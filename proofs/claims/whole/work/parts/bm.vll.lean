/-! reading a sample: its value, both sides -/
section VLL
variable {sc : Nat × (Nat → Int32)} {D D' A A' A0 D0 : tD} {K : tD → Int → Prop} {E : tD → Nat → Prop} {T : Int → Int} {n c : Int}
/-- which part goes with which kind -/
def wkT (w kd : Int) : Prop := (kd = 0 ∧ (w = 1 ∨ w = 2)) ∨ (kd = 1 ∧ w = 0) ∨ (kd = 3 ∧ w = 6) ∨ (kd = 2 ∧ (w = 2 ∨ w = 3 ∨ w = 4 ∨ w = 5)) ∨ (kd = 4 ∧ w = 0)
/-- what the class has behind a value -/
def kpV (k w kd v j u : Int) (D D' : tD) : Prop := (D' (aC 1 k) 5 = if w = 1 ∨ w = 5 ∨ (w = 0 ∧ kd = 1) then v else D (aC 1 k) 5) ∧ (D' (aC 1 k) 6 = if w = 2 then v else D (aC 1 k) 6) ∧ (D' (aC 1 k) 7 = if w = 0 ∧ kd = 4 then (if v = 1000 then tio (D (aC 1 k) 7) (tsl 1 j) else tia (D (aC 1 k) 7) (tix (tsl 1 j) (-1))) else D (aC 1 k) 7) ∧ (D' (aC 1 k + 4) j = if w = 3 then D (aC 1 k + 4) j + (v / 1000 - u) else D (aC 1 k + 4) j) ∧ (D' 1956 16 = if w = 3 then v / 1000 else D 1956 16) ∧ (∀ x i, x ≠ aC 1 k → x ≠ aC 1 k + 4 → ¬ (x = 1956 ∧ i = 16) → D' x i = D x i) ∧ (∀ i, i ≠ 5 → i ≠ 6 → i ≠ 7 → D' (aC 1 k) i = D (aC 1 k) i) ∧ ∀ i, i ≠ j → D' (aC 1 k + 4) i = D (aC 1 k + 4) i
theorem t_kp {f k w kd v j u : Int} (h9 : D 1956 9 = w) (h6 : D 1956 6 = aC 1 k) (hk : 0 ≤ k ∧ k < 24) (h5 : D 1956 5 = aF 1 f) (hf : 0 ≤ f ∧ f < 8) (hkd : D (aF 1 f) 5 = kd) (hw : wkT w kd) (h15 : D 1956 15 = j ∧ 0 ≤ j ∧ j ≤ 7) (hj : w = 3 ∨ kd = 4 → j < 7) (h16 : D 1956 16 = u ∧ 0 ≤ u ∧ u ≤ 1000000000000) (hv : -mostN ≤ v ∧ v ≤ mostN) (hv3 : w = 3 → 0 ≤ v ∧ 0 ≤ D (aC 1 k + 4) j ∧ D (aC 1 k + 4) j ≤ 2000000000000) (hK : ∀ D', kpV k w kd v j u D D' → K D' 0) : WP sc 145 0 D [(0, (1209, 1956)), (1, (1, v))] [] K E := by
  have mN : mostN = 999999999999999 := rfl
  have aCb := aC1 k
  have aFb := aF1 f
  unfold wkT at hw
  refine v145_0 ?_
  rw [h9, h6, h5, hkd]
  have n6 : ¬ aC 1 k = -1 := by omega
  have n5 : ¬ aF 1 f = -1 := by omega
  by_cases w2 : w = 2
  · rw [if_pos w2, if_neg n6]
    refine hK _ ⟨?_, ?_, ?_, ?_, ?_, fun x i z1 z2 z3 => wr_ne z1, fun i z1 z2 z3 => wr_ni z2, fun i z => wr_ne (by omega)⟩
    · rw [wr_ni (by omega), if_neg (by omega)]
    · rw [wr_self, if_pos w2]
    · rw [wr_ni (by omega), if_neg (by omega)]
    · rw [wr_ne (by omega), if_neg (by omega)]
    · rw [wr_ne (by omega), if_neg (by omega)]
  rw [if_neg w2]
  by_cases w3 : w = 3
  · rw [if_pos w3, if_neg n6]
    obtain ⟨v0, c0, c1⟩ := hv3 w3
    have j7 := hj (Or.inl w3)
    rw [h15.1, h16.1, tdiv_1000 v0, w64_id (x := v / 1000) (by omega) (by omega), w64_id (x := v / 1000 - u) (by omega) (by omega)]
    refine v35_0 ?_
    rw [if_neg (by omega), ln_cnt (s := 1) (Or.inr rfl) hk, if_pos (by omega), w64_id (x := D (aC 1 k + 4) j + (v / 1000 - u)) (by omega) (by omega)]
    refine ⟨⟨by omega, by omega⟩, ⟨by omega, by omega⟩, hK _ ⟨?_, ?_, ?_, ?_, ?_, fun x i z1 z2 z3 => ?_, fun i z1 z2 z3 => ?_, fun i z => ?_⟩⟩
    · rw [wr_ne (by omega), wr_ne (by omega), if_neg (by omega)]
    · rw [wr_ne (by omega), wr_ne (by omega), if_neg (by omega)]
    · rw [wr_ne (by omega), wr_ne (by omega), if_neg (by omega)]
    · rw [wr_ne (by omega), wr_self, if_pos w3]
    · rw [wr_self, if_pos w3]
    · by_cases y : x = 1956
      · subst y; rw [wr_ni (by omega), wr_ne z2]
      · rw [wr_ne y, wr_ne z2]
    · rw [wr_ne (by omega), wr_ne (by omega)]
    · rw [wr_ne (by omega), wr_ni z]
  rw [if_neg w3, if_neg n5]
  by_cases k4 : kd = 4
  · rw [if_pos k4, if_neg n6, h15.1]
    have w0 : w = 0 := by omega
    by_cases z : v = 1000
    · rw [if_pos (tlc_z.mpr z)]
      refine v36_0 ?_
      rw [if_neg (by omega)]
      refine hK _ ⟨?_, ?_, ?_, ?_, ?_, fun x i z1 z2 z3 => wr_ne z1, fun i z1 z2 z3 => wr_ni z3, fun i z => wr_ne (by omega)⟩
      · rw [wr_ni (by omega), if_neg (by omega)]
      · rw [wr_ni (by omega), if_neg (by omega)]
      · rw [wr_self, if_pos ⟨w0, k4⟩, if_pos z]
      · rw [wr_ne (by omega), if_neg (by omega)]
      · rw [wr_ne (by omega), if_neg (by omega)]
    · rw [if_neg (fun y => z (tlc_z.mp y))]
      refine v36_0 ?_
      rw [if_pos rfl]
      refine hK _ ⟨?_, ?_, ?_, ?_, ?_, fun x i z1 z2 z3 => wr_ne z1, fun i z1 z2 z3 => wr_ni z3, fun i z => wr_ne (by omega)⟩
      · rw [wr_ni (by omega), if_neg (by omega)]
      · rw [wr_ni (by omega), if_neg (by omega)]
      · rw [wr_self, if_pos ⟨w0, k4⟩, if_neg z]
      · rw [wr_ne (by omega), if_neg (by omega)]
      · rw [wr_ne (by omega), if_neg (by omega)]
  rw [if_neg k4]
  have num : (w = 1 ∨ w = 5 ∨ (w = 0 ∧ kd = 1)) → K (wr D (aC 1 k) 5 v) 0 := fun hc => by
    refine hK _ ⟨?_, ?_, ?_, ?_, ?_, fun x i z1 z2 z3 => wr_ne z1, fun i z1 z2 z3 => wr_ni z1, fun i z => wr_ne (by omega)⟩
    · rw [wr_self, if_pos hc]
    · rw [wr_ni (by omega), if_neg w2]
    · rw [wr_ni (by omega), if_neg (by omega)]
    · rw [wr_ne (by omega), if_neg w3]
    · rw [wr_ne (by omega), if_neg w3]
  by_cases w1 : w = 1
  · rw [if_pos w1, if_neg n6]; exact num (by omega)
  rw [if_neg w1]
  by_cases w5 : w = 5
  · rw [if_pos w5, if_neg n6]; exact num (by omega)
  rw [if_neg w5]
  by_cases w0 : w = 0
  · rw [if_pos w0, if_neg n6]; exact num (by omega)
  rw [if_neg w0]
  refine hK _ ⟨?_, ?_, ?_, ?_, ?_, fun x i z1 z2 z3 => rfl, fun i z1 z2 z3 => rfl, fun i z => rfl⟩
  · rw [if_neg (by omega)]
  · rw [if_neg w2]
  · rw [if_neg (by omega)]
  · rw [if_neg w3]
  · rw [if_neg w3]
/-- how many steps the other side is before -/
def dlt (w kd : Int) : Int := if w = 3 ∨ kd = 4 then 1 else 0
/-- what the kinds ask behind the value -/
def KV (f k w : Int) (D A : tD) : Prop := (A 1977 52 = if w = 1 ∨ w = 5 then 1 else 0) ∧
  ((((D (aF 1 f) 5 = 0 ∧ (w = 1 ∨ w = 2)) ∨ (D (aF 1 f) 5 = 1 ∧ w = 0) ∨ (D (aF 1 f) 5 = 3 ∧ w = 6)) ∧ A 1977 51 = 0) ∨
  (D (aF 1 f) 5 = 2 ∧ cz D k (D 1956 15) ∧ ((w = 2 ∧ A 1977 51 = 0) ∨ (w = 4 ∧ A 1977 51 = 3) ∨ (w = 5 ∧ A 1977 51 = 0))) ∨
  (D (aF 1 f) 5 = 2 ∧ w = 3 ∧ cz D k (D 1956 15 + 1) ∧ D 1956 15 ≤ 6 ∧ ((A 1977 67 = 1 ∧ D 1956 15 = D (aF 1 f) 6 ∧ A 1977 51 = 2) ∨ (A 1977 67 = 0 ∧ D 1956 15 < D (aF 1 f) 6 ∧ A 1977 68 = D (aF 1 f + 7) (D 1956 15) ∧ (D 1956 13 = 1 → D 1956 15 + 1 = D (aF 1 f) 6) ∧ A 1977 51 = 1 ∧ A 1977 54 = D (aF 1 f + 7) (D 1956 15))) ∧ (1 ≤ D 1956 15 → A 1977 69 = D (aF 1 f + 7) (D 1956 15 - 1)) ∧ (A 1977 71 = if 0 < D (aC 1 k + 4) (D 1956 15) then 1 else 0)) ∨
  (D (aF 1 f) 5 = 4 ∧ w = 0 ∧ bz D k (D 1956 15 + 1) ∧ D 1956 15 < D (aF 1 f) 7 ∧ (D 1956 13 = 1 → D 1956 15 + 1 = D (aF 1 f) 7) ∧ ((D 1956 13 = 1 ∨ D 1956 15 + 1 = D (aF 1 f) 7) → A 1977 51 = 0) ∧ (¬ (D 1956 13 = 1 ∨ D 1956 15 + 1 = D (aF 1 f) 7) → A 1977 51 = 4)))
def PV (c : Int) (T : Int → Int) (n p B f k w : Int) (D A : tD) : Prop := MQp T n p D A ∧ (MS c B f k D A ∧ MN w (dlt w (D (aF 1 f) 5)) D A) ∧ KV f k w D A
/-- where the other side goes on behind the value -/
def CV (sc : Nat × (Nat → Int32)) (w : Int) (A : tD) (K' : tD → Int → Prop) (E' : tD → Nat → Prop) : Prop := if w = 1 then (WP sc 252 0 A [(0, (1211, 1977))] [] (fun D10 r11 => if r11 = 32 then (WP sc 282 0 D10 [(0, (1211, 1977)), (1, (0, w))] [] (fun D13 r14 => if r14 = 0 then (K' D13 0) else (WP sc 253 0 (wr D13 1977 49 4) [(0, (1211, 1977)), (1, (0, 10))] [] (fun D16 r17 => tbl r17 (K' D16 r17)) E')) E') else (WP sc 253 0 (wr D10 1977 49 4) [(0, (1211, 1977)), (1, (0, 10))] [] (fun D19 r20 => tbl r20 (K' D19 r20)) E')) E') else (if w = 3 then (WP sc 252 0 A [(0, (1211, 1977))] [] (fun D22 r23 => if r23 = 32 then (WP sc 282 0 D22 [(0, (1211, 1977)), (1, (0, w))] [] (fun D25 r26 => if r26 = 0 then (K' D25 0) else (WP sc 253 0 (wr D25 1977 49 4) [(0, (1211, 1977)), (1, (0, 10))] [] (fun D28 r29 => tbl r29 (K' D28 r29)) E')) E') else (WP sc 253 0 (wr D22 1977 49 4) [(0, (1211, 1977)), (1, (0, 10))] [] (fun D31 r32 => tbl r32 (K' D31 r32)) E')) E') else (WP sc 253 0 (wr A 1977 49 4) [(0, (1211, 1977)), (1, (0, 10))] [] (fun D34 r35 => tbl r35 (K' D34 r35)) E'))
theorem KS_wk {f k w : Int} (h : KS f k w D A) : wkT w (D (aF 1 f) 5) := by
  unfold wkT
  rcases h with h | ⟨h0, ⟨h1, h | h | h⟩ | h⟩
  · exact Or.inr (Or.inr (Or.inr (Or.inr ⟨h.1, h.2.1⟩)))
  · rcases h.1 with g | g | g
    · exact Or.inl g
    · exact Or.inr (Or.inl g)
    · exact Or.inr (Or.inr (Or.inl g))
  · refine Or.inr (Or.inr (Or.inr (Or.inl ⟨h.1, ?_⟩)))
    rcases h.2.2 with g | g | g | g
    · exact Or.inl g.1
    · exact Or.inr (Or.inr (Or.inl g))
    · exact Or.inr (Or.inr (Or.inr g))
    · exact absurd g.1 h1
  · exact absurd h.1 h0
  · exact Or.inr (Or.inr (Or.inr (Or.inl ⟨h.2.1, Or.inr (Or.inl h.1)⟩)))
theorem bit_off : ∀ (a : Fin 16) (k : Fin 4), a.val.testBit k.val = false → tia (a.val : Nat) (tix (tsl 1 (k.val : Nat)) (-1)) = (a.val : Nat) := by decide +kernel
theorem bit_on : ∀ (a : Fin 16) (k q : Fin 4), q ≠ k → (tio (a.val : Nat) (tsl 1 (k.val : Nat))).toNat.testBit q.val = a.val.testBit q.val := by decide +kernel
theorem tia_off {x j : Int} (hx : 0 ≤ x ∧ x ≤ 15) (hj : 0 ≤ j ∧ j < 4) (hb : x.toNat.testBit j.toNat = false) : tia x (tix (tsl 1 j) (-1)) = x := by
  have h := bit_off ⟨x.toNat, by omega⟩ ⟨j.toNat, by omega⟩ hb
  have e1 : ((x.toNat : Nat) : Int) = x := by omega
  have e2 : ((j.toNat : Nat) : Int) = j := by omega
  simp only [e1, e2] at h
  exact h
theorem tio_on {x j : Int} (hx : 0 ≤ x ∧ x ≤ 15) (hj : 0 ≤ j ∧ j < 4) : (0 ≤ tio x (tsl 1 j) ∧ tio x (tsl 1 j) ≤ 15) ∧ ∀ q : Nat, q < 4 → (q : Int) ≠ j → (tio x (tsl 1 j)).toNat.testBit q = x.toNat.testBit q := by
  have e1 : ((x.toNat : Nat) : Int) = x := by omega
  have e2 : ((j.toNat : Nat) : Int) = j := by omega
  refine ⟨?_, fun q hq hne => ?_⟩
  · have h := (stv_b ⟨x.toNat, by omega⟩ ⟨j.toNat, by omega⟩).2
    simp only [e1, e2] at h
    exact h
  · have h := bit_on ⟨x.toNat, by omega⟩ ⟨j.toNat, by omega⟩ ⟨q, hq⟩ (fun w => by
      have := congrArg Fin.val w
      have : q = j.toNat := this
      omega)
    simp only [e1, e2] at h
    exact h
end VLL
