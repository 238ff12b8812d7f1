/-! reading a sample: a bound in the tape and as a list -/
section SPM
variable {sc : Nat × (Nat → Int32)} {D D' A A' : tD} {K : tD → Int → Prop} {E : tD → Nat → Prop} {T U : Int → Int} {n c : Int}
theorem lf_cons {x : Int} {r : List Int} {j : Int} (h : 0 ≤ j) : lf (x :: r) (j + 1) = lf r j := by
  unfold lf
  rw [show (j + 1).toNat = j.toNat + 1 from by omega]
  rfl
/-- text without escapes stands in the tape as it is -/
theorem es_plain : ∀ (m : Nat) (a : Int), n - a = (m : Int) → 0 ≤ a → (∀ b ∈ (es T n a).2.1, 45 ≤ b ∧ b ≤ 57) → (es T n a).2.2 = true → (es T n a).1 = a + ((es T n a).2.1.length : Int) ∧ ∀ j, 0 ≤ j → j < ((es T n a).2.1.length : Int) → T (a + j) = lf (es T n a).2.1 j := by
  intro m
  induction m with
  | zero =>
    intro a hm h0 _ _
    have e : es T n a = (a, [], true) := by rw [es_eq (by omega), pb_out (by omega), if_pos (Or.inl (by omega))]
    rw [e]
    exact ⟨by simp, fun j u v => by simp at v; omega⟩
  | succ m ih =>
    intro a hm h0 hb ht
    have e := es_eq (T := T) (n := n) (a := a) (by omega)
    by_cases q1 : pb T n a < 32 ∨ 126 < pb T n a ∨ pb T n a = 34
    · rw [if_pos q1] at e
      rw [e]
      exact ⟨by simp, fun j u v => by simp at v; omega⟩
    rw [if_neg q1] at e
    by_cases q2 : pb T n a = 92
    · rw [if_pos q2] at e
      by_cases q3 : un (pb T n (a + 1)) < 0
      · rw [if_pos q3] at e
        rw [e] at ht
        exact absurd (show false = true from ht) (by decide)
      · rw [if_neg q3] at e
        have w := hb (un (pb T n (a + 1))) (by rw [e]; exact List.mem_cons_self)
        exfalso
        unfold un at w q3
        split at w
        · omega
        · split at w
          · omega
          · split at w <;> omega
    · rw [if_neg q2] at e
      have hb1 : ∀ b ∈ (es T n (a + 1)).2.1, 45 ≤ b ∧ b ≤ 57 := fun b hb' => hb b (by rw [e]; exact List.mem_cons_of_mem _ hb')
      have ht1 : (es T n (a + 1)).2.2 = true := by rw [e] at ht; exact ht
      obtain ⟨i1, i2⟩ := ih (a + 1) (by omega) (by omega) hb1 ht1
      rw [e]
      refine ⟨?_, fun j u v => ?_⟩
      · show (es T n (a + 1)).1 = a + (((es T n (a + 1)).2.1.length + 1 : Nat) : Int)
        omega
      · have v' : j < (((es T n (a + 1)).2.1.length + 1 : Nat) : Int) := v
        by_cases z : j = 0
        · subst z
          show T (a + 0) = pb T n a
          rw [show a + 0 = a from by omega, pb_in (by omega)]
        · have q := i2 (j - 1) (by omega) (by omega)
          rw [show a + 1 + (j - 1) = a + j from by omega] at q
          rw [q]
          have w := lf_cons (x := pb T n a) (r := (es T n (a + 1)).2.1) (j := j - 1) (by omega)
          rw [show j - 1 + 1 = j from by omega] at w
          exact w.symm
/-! a number at another place -/
theorem pb_sh {p L i b : Int} (hT : ∀ j, 0 ≤ j → j < L → T (p + j) = U j) (hn : p + L ≤ n) (hE : pb T n (p + L) = 34) (hi : 0 ≤ i ∧ i ≤ L) (hb : b ≠ 34 ∧ b ≠ -1) : pb T n (p + i) = b ↔ pb U L i = b := by
  by_cases e : i < L
  · rw [pb_in (by omega), pb_in e, hT i hi.1 e]
  · have e2 : i = L := by omega
    rw [e2, hE, pb_out (by omega)]
    omega
theorem ru_sh {p L : Int} (hT : ∀ j, 0 ≤ j → j < L → T (p + j) = U j) (hn : p + L ≤ n) (hE : pb T n (p + L) = 34) : ∀ (m : Nat) (i : Int), L - i = (m : Int) → 0 ≤ i → ru 2 T n (p + i) = p + ru 2 U L i := by
  intro m
  induction m with
  | zero =>
    intro i hm hi
    have e2 : i = L := by omega
    have st : ru 2 T n (p + L) = p + L := ru_stop (fun w => by
      have q := hE
      rw [pb_in w.1] at q
      have := w.2
      rw [q, srt_iff] at this
      omega)
    rw [e2, st, ru_stop (fun w => by omega)]
  | succ m ih =>
    intro i hm hi
    by_cases e : i < L ∧ srt 2 (U i) = true
    · rw [ru_go (T := T) (n := n) (a := p + i) ⟨by omega, by rw [hT i hi e.1]; exact e.2⟩, ru_go (T := U) e, show p + i + 1 = p + (i + 1) from by omega]
      exact ih (i + 1) (by omega) (by omega)
    · rw [ru_stop (T := U) e, ru_stop (T := T) (n := n) (a := p + i) (fun w => e ⟨by omega, by rw [← hT i hi (by omega)]; exact w.2⟩)]
theorem dvl_sh {p L : Int} (hT : ∀ j, 0 ≤ j → j < L → T (p + j) = U j) : ∀ (k : Nat) (i : Int), 0 ≤ i → i + (k : Int) ≤ L → dvl T (p + i) k = dvl U i k := by
  intro k
  induction k with
  | zero => intro i _ _; rfl
  | succ k ih =>
    intro i hi hk
    show 10 * dvl T (p + i) k + (T (p + i + (k : Int)) - 48) = 10 * dvl U i k + (U (i + (k : Int)) - 48)
    rw [ih i hi (by omega), show p + i + (k : Int) = p + (i + (k : Int)) from by omega, hT _ (by omega) (by omega)]
theorem nmb_sh {p L : Int} (hT : ∀ j, 0 ≤ j → j < L → T (p + j) = U j) (hL : 0 ≤ L) (hn : p + L ≤ n) (hE : pb T n (p + L) = 34) : nmb T n p = ((nmb U L 0).1, (nmb U L 0).2.1, p + (nmb U L 0).2.2) := by
  have b45 := pb_sh (i := 0) (b := 45) hT hn hE ⟨by omega, hL⟩ ⟨by omega, by omega⟩
  rw [show p + 0 = p from by omega] at b45
  have sS : nmS T n p = p + nmS U L 0 ∧ 0 ≤ nmS U L 0 ∧ nmS U L 0 ≤ L := by
    unfold nmS
    by_cases e : pb U L 0 = 45
    · rw [if_pos e, if_pos (b45.mpr e)]
      have := pb_lt e (by omega)
      omega
    · rw [if_neg e, if_neg (fun w => e (b45.mp w))]
      omega
  obtain ⟨s1, s2, s3⟩ := sS
  have wb := ru_b (s := 2) (T := U) (n := L) (a := nmS U L 0) s3
  have sW : nmW T n p = p + nmW U L 0 := by
    unfold nmW
    rw [s1]
    exact ru_sh hT hn hE (L - nmS U L 0).toNat (nmS U L 0) (by omega) s2
  have eW : ru 2 U L (nmS U L 0) = nmW U L 0 := rfl
  rw [eW] at wb
  have b46 := pb_sh (i := nmW U L 0) (b := 46) hT hn hE ⟨by omega, wb.2⟩ ⟨by omega, by omega⟩
  have rb : pb U L (nmW U L 0) = 46 → nmW U L 0 + 1 ≤ nmR U L 0 ∧ nmR U L 0 ≤ L := fun e => by
    have := pb_lt e (by omega)
    have q := ru_b (s := 2) (T := U) (n := L) (a := nmW U L 0 + 1) (by omega)
    unfold nmR
    rw [if_pos e]
    exact q
  have sR : nmR T n p = p + nmR U L 0 := by
    unfold nmR
    rw [sW]
    by_cases e : pb U L (nmW U L 0) = 46
    · rw [if_pos e, if_pos (b46.mpr e), show p + nmW U L 0 + 1 = p + (nmW U L 0 + 1) from by omega]
      have := pb_lt e (by omega)
      exact ru_sh hT hn hE (L - (nmW U L 0 + 1)).toNat (nmW U L 0 + 1) (by omega) (by omega)
    · rw [if_neg e, if_neg (fun w => e (b46.mp w))]
  have sV : nmV T n p = nmV U L 0 := by
    unfold nmV
    rw [s1, sW, sR, show p + nmW U L 0 - (p + nmS U L 0) = nmW U L 0 - nmS U L 0 from by omega, show p + nmR U L 0 - (p + nmW U L 0) - 1 = nmR U L 0 - nmW U L 0 - 1 from by omega, dvl_sh hT _ (nmS U L 0) s2 (by omega)]
    by_cases e : pb U L (nmW U L 0) = 46
    · rw [if_pos e, if_pos (b46.mpr e), show p + nmW U L 0 + 1 = p + (nmW U L 0 + 1) from by omega, dvl_sh hT _ (nmW U L 0 + 1) (by omega) (by have := rb e; omega)]
    · rw [if_neg e, if_neg (fun w => e (b46.mp w))]
  unfold nmb
  rw [sW, s1, sR, sV]
  by_cases z1 : nmW U L 0 = nmS U L 0
  · rw [if_pos z1, if_pos (by omega)]
  rw [if_neg z1, if_neg (by omega)]
  by_cases z2 : pb U L (nmW U L 0) = 46 ∧ nmR U L 0 = nmW U L 0 + 1
  · rw [if_pos z2, if_pos ⟨b46.mpr z2.1, by omega⟩]
  rw [if_neg z2, if_neg (fun w => z2 ⟨b46.mp w.1, by omega⟩)]
  by_cases z3 : 12 < nmW U L 0 - nmS U L 0 ∨ (pb U L (nmW U L 0) = 46 ∧ 3 < nmR U L 0 - nmW U L 0 - 1)
  · rw [if_pos z3, if_pos (Or.elim z3 (fun w => Or.inl (by omega)) (fun w => Or.inr ⟨b46.mpr w.1, by omega⟩))]
    rw [show p + 0 = p from by omega]
  · rw [if_neg z3, if_neg (fun w => z3 (Or.elim w (fun w => Or.inl (by omega)) (fun w => Or.inr ⟨b46.mp w.1, by omega⟩)))]
    by_cases e : pb U L 0 = 45
    · rw [if_pos e, if_pos (b45.mpr e)]
    · rw [if_neg e, if_neg (fun w => e (b45.mp w))]
end SPM
