/-! the law's loop: poke, copy, text -/
section LAWB
variable {sc : Nat × (Nat → Int32)} {D : tD} {K : tD → Int → Prop} {E : tD → Nat → Prop} {RS : Int → tD → Prop} {c i : Int}
theorem tia255g {v : Int} (h : -2147483648 ≤ v ∧ v ≤ 2147483647) : tia v 255 = v % 256 := by
  have e1 : tia v 255 = (BitVec.ofInt 32 v &&& 255#32).toInt := rfl
  have e2 : (BitVec.ofInt 32 v &&& 255#32).toNat = (v % 4294967296).toNat % 256 := by
    rw [BitVec.toNat_and, BitVec.toNat_ofInt]
    show (v % (2 ^ 32 : Nat)).toNat &&& (2 ^ 8 - 1) = _
    rw [Nat.and_two_pow_sub_one_eq_mod]
    rfl
  rw [e1, BitVec.toInt_eq_toNat_of_lt (by rw [e2]; omega), e2]
  omega
theorem l_poke (hRS : depR RS) (hR : RL RS D c) (hc : c < 600) (hi : 0 ≤ i ∧ i + 5 ≤ (sc.1 : Int) ∧ (sc.1 : Int) ≤ 2560) (hgo : ∀ D', RL RS D' (c + 1) → WP sc 317 1610 D' (LV i) [] K E) : WP sc 317 265 D (LV i) [] K E := by
  obtain ⟨r1, r2, r3, r4, r5, r6, r7, r8⟩ := hR
  obtain ⟨q1, q2, q3, q4⟩ := r1
  have l2 : ln (1 + 1) = 4000 := rfl
  refine v317_265 ?_
  rw [w32_id (x := i + 1) (by omega) (by omega), w32_id (x := i + 2) (by omega) (by omega)]
  refine ⟨by omega, fun hx => ⟨by omega, fun hy => ?_⟩⟩
  generalize tsv sc (i + 1) = x at hx ⊢
  generalize tsv sc (i + 2) = v at hy ⊢
  have no : ¬ (0 ≤ x ∧ x ≤ D 1977 2 ∧ x ≠ 4000) → (0 ≤ i + 1 ∧ i + 1 < (sc.1 : Int)) ∧ (-2147483648 ≤ x ∧ x ≤ 2147483647 → (0 ≤ i + 2 ∧ i + 2 < (sc.1 : Int)) ∧ (-2147483648 ≤ v ∧ v ≤ 2147483647 → WP sc 205 0 D [(0, (1211, 1977)), (1, (0, x)), (2, (0, v))] [] (fun D4 r5 => if 0 = r5 then WP sc 317 1610 D4 (LV i) [] K E else K D4 0) (fun D4 e6 => E D4 e6))) := fun hn => by
    refine ⟨by omega, fun _ => ⟨by omega, fun _ => v205_0 ?_⟩⟩
    have fin : if 0 = (0 : Int) then WP sc 317 1610 (wr D 1977 0 0) (LV i) [] K E else K (wr D 1977 0 0) 0 := by
      rw [if_pos rfl]
      refine hgo _ ⟨rowm_T ?_ ⟨q1, q2, q3, q4⟩, rowm_W ?_ r2, ?_, ?_, ?_, ?_, by omega, hRS _ _ ?_ r8⟩
      · unfold sameT; simp [wr]
      · unfold sameW; simp [wr]
      · simp [wr]; omega
      · simp [wr]; exact r4
      · simp [wr]; exact r5
      · simp [wr]; omega
      · intro a j h
        unfold depS at h
        simp only [wr]
        rw [if_neg (by omega)]
    rw [show (wr D 1977 0 0) 1977 2 = D 1977 2 from wr_ni (by omega)]
    split
    · exact fin
    split
    · exact fin
    split
    · exact fin
    · exfalso; omega
  have yes : ∀ D1 : tD, (0 ≤ x ∧ x ≤ D 1977 2 ∧ x ≠ 4000) → D1 1 1 = (if x = D 1977 2 then x + 1 else D 1977 2) → (∀ j, 0 ≤ j → j < D1 1 1 → D1 2 j % 256 = if j = x then v % 256 else D 1978 j) → (∀ a j, a ≠ 1 → a ≠ 2 → D1 a j = D a j) → (0 ≤ i + 1 ∧ i + 1 < (sc.1 : Int)) ∧ (-2147483648 ≤ x ∧ x ≤ 2147483647 → (0 ≤ i + 2 ∧ i + 2 < (sc.1 : Int)) ∧ (-2147483648 ≤ v ∧ v ≤ 2147483647 → WP sc 205 0 D1 [(0, (1211, 1977)), (1, (0, x)), (2, (0, v))] [] (fun D4 r5 => if 1 = r5 then WP sc 317 1610 D4 (LV i) [] K E else K D4 0) (fun D4 e6 => E D4 e6))) := fun D1 hx2 hs hb hf => by
    refine ⟨by omega, fun _ => ⟨by omega, fun _ => v205_0 ?_⟩⟩
    have f2 : D1 1977 2 = D 1977 2 := hf _ _ (by omega) (by omega)
    rw [show (wr D1 1977 0 0) 1977 2 = D1 1977 2 from wr_ni (by omega), show (wr (wr D1 1977 0 0) 1978 x (tia v 255)) 1977 2 = D1 1977 2 from by simp [wr], f2, tia255g hy]
    rw [if_neg (by omega), if_neg (by omega), if_neg (by omega)]
    refine ⟨by omega, ?_⟩
    have rest : ∀ D4 : tD, (∀ j, D4 1 j = D1 1 j) → (∀ j, D4 2 j = D1 2 j) → (∀ j, D4 1978 j = if j = x then v % 256 else D1 1978 j) → D4 1977 2 = D1 1 1 → (∀ a j, a ≠ 1978 → ¬ (a = 1977 ∧ (j = 0 ∨ j = 2)) → D4 a j = D1 a j) → RL RS D4 (c + 1) := fun D4 g1 g2 g3 g4 g5 => by
      have gg : ∀ a j, a ≠ 1 → a ≠ 2 → a ≠ 1978 → ¬ (a = 1977 ∧ (j = 0 ∨ j = 2)) → D4 a j = D a j := fun a j h1 h2 h3 h4 => by rw [g5 a j h3 h4, hf a j h1 h2]
      refine ⟨⟨?_, ?_, ?_, fun j h1 h2 => ?_⟩, rowm_W ⟨fun j => gg _ _ (by omega) (by omega) (by omega) (by omega), fun j => gg _ _ (by omega) (by omega) (by omega) (by omega), fun j => gg _ _ (by omega) (by omega) (by omega) (by omega), gg _ _ (by omega) (by omega) (by omega) (by omega)⟩ r2, ?_, ?_, ?_, ?_, by omega, hRS _ _ ?_ r8⟩
      · rw [g1, g4]
      · rw [g4, hs]; split <;> omega
      · rw [g4, hs]; split <;> omega
      · rw [g4] at h2
        have := hb j h1 h2
        rw [show (1 : Int) + 1 = 2 from rfl, g2, this, show (0 : Int) + j = j from by omega, g3]
        split
        · rfl
        · rw [hf _ _ (by omega) (by omega)]
      · rw [gg 0 8 (by omega) (by omega) (by omega) (by omega), gg 1977 3 (by omega) (by omega) (by omega) (by omega)]; omega
      · rw [gg 1957 3 (by omega) (by omega) (by omega) (by omega), gg 1977 46 (by omega) (by omega) (by omega) (by omega)]; exact r4
      · rw [gg 1957 0 (by omega) (by omega) (by omega) (by omega), gg 1968 0 (by omega) (by omega) (by omega) (by omega)]; exact r5
      · rw [gg (-1) 0 (by omega) (by omega) (by omega) (by omega)]; omega
      · intro a j h
        unfold depS at h
        exact gg _ _ (by omega) (by omega) (by omega) (by omega)
    split
    · rename_i he
      rw [if_pos rfl]
      refine hgo _ (rest _ (fun j => by simp [wr]) (fun j => by simp [wr]) (fun j => by simp [wr]) ?_ (fun a j h1 h2 => ?_))
      · rw [wr_self, hs, if_pos he, w32_id (by omega) (by omega)]; omega
      · simp only [wr]
        rw [if_neg (by omega), if_neg (by omega), if_neg (by omega)]
    · rename_i he
      rw [if_pos rfl]
      refine hgo _ (rest _ (fun j => by simp [wr]) (fun j => by simp [wr]) (fun j => by simp [wr]) ?_ (fun a j h1 h2 => ?_))
      · rw [hs, if_neg he]
        simp [wr]
        exact f2
      · simp only [wr]
        rw [if_neg (by omega), if_neg (by omega)]
  refine v3_0 ?_
  split
  · exact no (by omega)
  split
  · exact no (by omega)
  split
  · rename_i h1 h2 h3
    split
    · rename_i he
      refine c_push (by omega) (by omega) ?_
      rw [tia255g hy]
      unfold rpush
      rw [if_pos (by rw [l2]; omega)]
      refine yes _ (by omega) ?_ (fun j h4 h5 => ?_) (fun a j h4 h5 => ?_)
      · rw [wr_self, if_pos (by omega)]; omega
      · rw [wr_self] at h5
        rw [wr_ne (by omega), show (1 : Int) + 1 = 2 from rfl]
        by_cases hj : j = D 1 1
        · rw [hj, wr_self, if_pos (by omega), w8_mod]; omega
        · rw [wr_ni hj, if_neg (by omega)]
          have := q4 j h4 (by omega)
          simpa using this
      · rw [wr_ne (by omega), wr_ne (by omega)]
    · rename_i he
      refine ⟨by omega, ?_⟩
      refine yes _ (by omega) ?_ (fun j h4 h5 => ?_) (fun a j h4 h5 => ?_)
      · rw [wr_ne (by omega), if_neg (by omega)]; exact q1
      · rw [wr_ne (by omega)] at h5
        by_cases hj : j = x
        · rw [hj, wr_self, if_pos rfl, w8_w8, w8_mod]
        · rw [wr_ni hj, if_neg hj]
          have := q4 j h4 (by omega)
          simpa using this
      · rw [wr_ne (by omega)]
  · exact no (by omega)
end LAWB
