/-! reading a sample: a bound in the tape and as a list -/
section SPM
variable {sc : Nat × (Nat → Int32)} {D D' A A' : tD} {K : tD → Int → Prop} {E : tD → Nat → Prop} {T U : Int → Int} {n c : Int}
theorem lf_cons {x : Int} {r : List Int} {j : Int} (h : 0 ≤ j) : lf (x :: r) (j + 1) = lf r j := by
  unfold lf
  rw [show (j + 1).toNat = j.toNat + 1 from by omega]
  rfl
/-- text without escapes stands in the tape as it is -/
theorem es_plain : ∀ (m : Nat) (a : Int), n - a = (m : Int) → 0 ≤ a → (∀ b ∈ (es T n a).2.1, 45 ≤ b ∧ b ≤ 57) → (es T n a).2.2 = true → (es T n a).1 = a + ((es T n a).2.1.length : Int) ∧ ∀ j, 0 ≤ j → j < ((es T n a).2.1.length : Int) → T (a + j) = lf (es T n a).2.1 j := by
  intro m
  induction m with
  | zero =>
    intro a hm h0 _ _
    have e : es T n a = (a, [], true) := by rw [es_eq (by omega), pb_out (by omega), if_pos (Or.inl (by omega))]
    rw [e]
    exact ⟨by simp, fun j u v => by simp at v; omega⟩
  | succ m ih =>
    intro a hm h0 hb ht
    have e := es_eq (T := T) (n := n) (a := a) (by omega)
    by_cases q1 : pb T n a < 32 ∨ 126 < pb T n a ∨ pb T n a = 34
    · rw [if_pos q1] at e
      rw [e]
      exact ⟨by simp, fun j u v => by simp at v; omega⟩
    rw [if_neg q1] at e
    by_cases q2 : pb T n a = 92
    · rw [if_pos q2] at e
      by_cases q3 : un (pb T n (a + 1)) < 0
      · rw [if_pos q3] at e
        rw [e] at ht
        exact absurd (show false = true from ht) (by decide)
      · rw [if_neg q3] at e
        have w := hb (un (pb T n (a + 1))) (by rw [e]; exact List.mem_cons_self)
        exfalso
        unfold un at w q3
        split at w
        · omega
        · split at w
          · omega
          · split at w <;> omega
    · rw [if_neg q2] at e
      have hb1 : ∀ b ∈ (es T n (a + 1)).2.1, 45 ≤ b ∧ b ≤ 57 := fun b hb' => hb b (by rw [e]; exact List.mem_cons_of_mem _ hb')
      have ht1 : (es T n (a + 1)).2.2 = true := by rw [e] at ht; exact ht
      obtain ⟨i1, i2⟩ := ih (a + 1) (by omega) (by omega) hb1 ht1
      rw [e]
      refine ⟨?_, fun j u v => ?_⟩
      · show (es T n (a + 1)).1 = a + (((es T n (a + 1)).2.1.length + 1 : Nat) : Int)
        omega
      · have v' : j < (((es T n (a + 1)).2.1.length + 1 : Nat) : Int) := v
        by_cases z : j = 0
        · subst z
          show T (a + 0) = pb T n a
          rw [show a + 0 = a from by omega, pb_in (by omega)]
        · have q := i2 (j - 1) (by omega) (by omega)
          rw [show a + 1 + (j - 1) = a + j from by omega] at q
          rw [q]
          have w := lf_cons (x := pb T n a) (r := (es T n (a + 1)).2.1) (j := j - 1) (by omega)
          rw [show j - 1 + 1 = j from by omega] at w
          exact w.symm
end SPM
