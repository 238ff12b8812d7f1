/-! the law's loop: copy, text, feed -/
section LAWC
variable {sc : Nat × (Nat → Int32)} {D : tD} {K : tD → Int → Prop} {E : tD → Nat → Prop} {RS : Int → tD → Prop} {c i : Int}
/-- on what RL depends -/
def depA (a j : Int) : Prop := depS a j ∨ (a = 0 ∧ j = 8) ∨ (1 ≤ a ∧ a ≤ 4) ∨ (a = 1957 ∧ (j = 0 ∨ j = 3)) ∨ (a = 1968 ∧ j = 0) ∨ (a = 1977 ∧ (j = 2 ∨ j = 3 ∨ j = 43 ∨ j = 46)) ∨ a = 1978 ∨ a = 2013
theorem RL_frame {D' : tD} (hRS : depR RS) (hR : RL RS D c) (hc : c < 600) (h1 : D' (-1) 0 = D (-1) 0 ∨ D' (-1) 0 = D (-1) 0 + 1) (hf : ∀ a j, depA a j → D' a j = D a j) : RL RS D' (c + 1) := by
  obtain ⟨r1, r2, r3, r4, r5, r6, r7, r8⟩ := hR
  refine ⟨rowm_T ⟨fun j => hf _ _ ?_, fun j => hf _ _ ?_, fun j => hf _ _ ?_, hf _ _ ?_⟩ r1, rowm_W ⟨fun j => hf _ _ ?_, fun j => hf _ _ ?_, fun j => hf _ _ ?_, hf _ _ ?_⟩ r2, ?_, ?_, ?_, by omega, by omega, hRS _ _ (fun a j h => hf _ _ (Or.inl h)) r8⟩
  all_goals try (unfold depA; omega)
  · rw [hf 0 8 (by unfold depA; omega), hf 1977 3 (by unfold depA; omega)]; omega
  · rw [hf 1957 3 (by unfold depA; omega), hf 1977 46 (by unfold depA; omega)]; exact r4
  · rw [hf 1957 0 (by unfold depA; omega), hf 1968 0 (by unfold depA; omega)]; exact r5
theorem c_mcopy (D : tD) (hw : 0 ≤ D 1977 43 ∧ D 1977 43 ≤ 4000) (k : Int) (hk : 0 ≤ k) (hK : ∀ D', (∀ j, k ≤ j → j < D 1977 43 → D' 1978 j = D 2013 j) → (∀ j, j < k → D' 1978 j = D 1978 j) → D' 1977 2 = D 1977 43 → (∀ a j, a ≠ 1978 → ¬ (a = 1977 ∧ j = 2) → D' a j = D a j) → K D' (D 1977 43)) : WP sc 204 19 D [(0, (1211, 1977)), (1, (0, k))] [] K E := by
  refine v204_19 ?_
  split
  · rename_i hlt
    refine ⟨by omega, by omega, ?_⟩
    rw [w32_id (by omega) (by omega)]
    refine c_mcopy (wr D 1978 k (D 2013 k)) (by rw [wr_ne (by omega)]; omega) (k + 1) (by omega) (fun D' g1 g2 g3 g4 => ?_)
    rw [wr_ne (show (1977 : Int) ≠ 1978 by omega)] at g1 g3 ⊢
    refine hK D' (fun j h1 h2 => ?_) (fun j h1 => ?_) g3 (fun a j h1 h2 => ?_)
    · by_cases e : j = k
      · rw [e, g2 k (by omega), wr_self]
      · rw [g1 j (by omega) h2, wr_ne (by omega)]
    · rw [g2 j (by omega), wr_ni (by omega)]
    · rw [g4 a j h1 h2, wr_ne h1]
  · rename_i hge
    rw [wr_self]
    exact hK _ (fun j h1 h2 => by omega) (fun j h1 => wr_ne (by omega)) wr_self (fun a j h1 h2 => by simp only [wr]; rw [if_neg (by omega)])
termination_by (D 1977 43 - k).toNat
decreasing_by
  rw [wr_ne (by omega)]
  omega
theorem l_copy (hRS : depR RS) (hR : RL RS D c) (hc : c < 600) (hi : 0 ≤ i ∧ i + 5 ≤ (sc.1 : Int) ∧ (sc.1 : Int) ≤ 2560) (hgo : ∀ D', RL RS D' (c + 1) → WP sc 317 1610 D' (LV i) [] K E) : WP sc 317 252 D (LV i) [] K E := by
  have hR0 := hR
  obtain ⟨r1, r2, r3, r4, r5, r6, r7, r8⟩ := hR
  obtain ⟨q1, q2, q3, q4⟩ := r2
  have l2 : ln (1 + 1) = 4000 := rfl
  have l4 : ln (3 + 1) = 12000 := rfl
  refine v317_252 (v2_0 ?_)
  split
  · refine v204_0 ?_
    rw [show (wr D 1977 0 0) 1977 43 = D 1977 43 from wr_ni (by omega), if_pos (by omega), if_pos rfl]
    refine hgo _ (RL_frame hRS hR0 hc (Or.inl (wr_ne (by omega))) (fun a j h => ?_))
    unfold depA depS at h
    simp only [wr]
    rw [if_neg (by omega)]
  · refine c_bec (by omega) (by omega) (by omega) (by omega) (by omega) (fun D1 hb => ?_)
    obtain ⟨b1, b2, b3, b4, b5⟩ := hb
    rw [b1]
    refine v204_0 ?_
    have f1 : ∀ a j, a ≠ 1 → a ≠ 2 → D1 a j = D a j := fun a j h1 h2 => b5 a j h1 h2
    rw [show (wr D1 1977 0 0) 1977 43 = D 1977 43 from by rw [wr_ni (by omega), f1 _ _ (by omega) (by omega)], if_neg (by omega)]
    refine c_mcopy _ (by rw [wr_ni (by omega), f1 _ _ (by omega) (by omega)]; omega) 0 (by omega) (fun D2 g1 g2 g3 g4 => ?_)
    rw [show (wr D1 1977 0 0) 1977 43 = D 1977 43 from by rw [wr_ni (by omega), f1 _ _ (by omega) (by omega)]] at g1 g3 ⊢
    rw [if_pos (by omega)]
    have gg : ∀ a j, a ≠ 1 → a ≠ 2 → a ≠ 1978 → ¬ (a = 1977 ∧ (j = 0 ∨ j = 2)) → D2 a j = D a j := fun a j h1 h2 h3 h4 => by
      rw [g4 a j h3 (by omega), show (wr D1 1977 0 0) a j = D1 a j from by simp only [wr]; rw [if_neg (by omega)], f1 a j h1 h2]
    have g1' : D2 1 1 = D 3 1 := by
      rw [g4 _ _ (by omega) (by omega), wr_ne (by omega), b1]; omega
    refine hgo _ ⟨⟨?_, ?_, ?_, fun j h1 h2 => ?_⟩, rowm_W ⟨fun j => gg _ _ (by omega) (by omega) (by omega) (by omega), fun j => gg _ _ (by omega) (by omega) (by omega) (by omega), fun j => gg _ _ (by omega) (by omega) (by omega) (by omega), gg _ _ (by omega) (by omega) (by omega) (by omega)⟩ ⟨q1, q2, q3, q4⟩, ?_, ?_, ?_, ?_, by omega, hRS _ _ ?_ r8⟩
    · rw [g1', g3]; exact q1
    · rw [g3]; omega
    · rw [g3]; omega
    · rw [g3] at h2
      have e1 := g1 j (by omega) h2
      have e2 := b4 j h1 (by omega)
      have e3 := q4 j h1 (by omega)
      rw [show (0 : Int) + j = j from by omega] at e2 e3 ⊢
      rw [e1, show (wr D1 1977 0 0) 2013 j = D1 2013 j from wr_ne (by omega), f1 _ _ (by omega) (by omega), ← e3, g4 _ _ (by omega) (by omega), show (wr D1 1977 0 0) (1 + 1) j = D1 (1 + 1) j from wr_ne (by omega), e2]
    · rw [gg 0 8 (by omega) (by omega) (by omega) (by omega), gg 1977 3 (by omega) (by omega) (by omega) (by omega)]; omega
    · rw [gg 1957 3 (by omega) (by omega) (by omega) (by omega), gg 1977 46 (by omega) (by omega) (by omega) (by omega)]; exact r4
    · rw [gg 1957 0 (by omega) (by omega) (by omega) (by omega), gg 1968 0 (by omega) (by omega) (by omega) (by omega)]; exact r5
    · rw [gg (-1) 0 (by omega) (by omega) (by omega) (by omega)]; omega
    · intro a j h
      unfold depS at h
      exact gg _ _ (by omega) (by omega) (by omega) (by omega)
/-- eight bytes, from a place on -/
def tx8 (g : Int → Int) (k m : Int) : Nat → Int → Int → Int := Nat.rec (motive := fun _ => Int → Int → Int) (fun _ acc => acc) (fun _ ih n acc => if n < 8 ∧ k + n < m then ih (n + 1) (tlo acc (tlsl (g (k + n)) (8 * n))) else acc)
theorem tx8_eq {g h : Int → Int} {k m : Int} (hgh : ∀ j, k ≤ j → j < m → g j = h j) : ∀ (q : Nat) (n acc : Int), 0 ≤ n → tx8 g k m q n acc = tx8 h k m q n acc := by
  intro q
  induction q with
  | zero => intro n acc _; rfl
  | succ q ih =>
    intro n acc hn
    show (if n < 8 ∧ k + n < m then tx8 g k m q (n + 1) (tlo acc (tlsl (g (k + n)) (8 * n))) else acc) = (if n < 8 ∧ k + n < m then tx8 h k m q (n + 1) (tlo acc (tlsl (h (k + n)) (8 * n))) else acc)
    split
    · rw [hgh (k + n) (by omega) (by omega), ih _ _ (by omega)]
    · rfl
theorem c_text8 {k : Int} (hk : 0 ≤ k ∧ k ≤ 12000) (h3 : D 3 1 ≤ 12000) : ∀ (q : Nat) (n acc : Int), 0 ≤ n ∧ n ≤ 8 → 8 - n < q → K D (tx8 (fun j => D 4 j % 256) k (D 3 1) q n acc) → WP sc 18 31 D [(0, (1200, 0)), (1, (0, k)), (2, (1, acc)), (4, (0, n))] [] K E := by
  intro q
  induction q with
  | zero => intro n acc h1 h2; omega
  | succ q ih =>
    intro n acc h1 h2 hK
    have hK2 : K D (if n < 8 ∧ k + n < D 3 1 then tx8 (fun j => D 4 j % 256) k (D 3 1) q (n + 1) (tlo acc (tlsl (D 4 (k + n) % 256) (8 * n))) else acc) := hK
    have l4 : ln (3 + 1) = 12000 := rfl
    refine v18_31 ?_
    rw [w32_id (x := k + n) (by omega) (by omega), w32_id (x := 8 * n) (by omega) (by omega), w32_id (x := n + 1) (by omega) (by omega)]
    split
    · rename_i hn
      split
      · rename_i hlt
        rw [if_pos ⟨hn, hlt⟩] at hK2
        refine c_at (by omega) (ih _ _ (by omega) (by omega) ?_)
        unfold rat
        rw [if_pos ⟨by omega, hlt⟩]
        exact hK2
      · rename_i hge
        rw [if_neg (by omega)] at hK2
        exact hK2
    · rename_i hn
      rw [if_neg (by omega)] at hK2
      exact hK2
theorem c_mtext8 {k : Int} (hk : 0 ≤ k ∧ k ≤ 12000) (h3 : D 1977 43 ≤ 12000) : ∀ (q : Nat) (n acc : Int), 0 ≤ n ∧ n ≤ 8 → 8 - n < q → K D (tx8 (fun j => D 2013 j) k (D 1977 43) q n acc) → WP sc 250 36 D [(0, (1211, 1977)), (1, (0, k)), (2, (1, acc)), (4, (0, n))] [] K E := by
  intro q
  induction q with
  | zero => intro n acc h1 h2; omega
  | succ q ih =>
    intro n acc h1 h2 hK
    have hK2 : K D (if n < 8 ∧ k + n < D 1977 43 then tx8 (fun j => D 2013 j) k (D 1977 43) q (n + 1) (tlo acc (tlsl (D 2013 (k + n)) (8 * n))) else acc) := hK
    refine v250_36 ?_
    rw [w32_id (x := k + n) (by omega) (by omega), w32_id (x := 8 * n) (by omega) (by omega), w32_id (x := n + 1) (by omega) (by omega)]
    split
    · rename_i hn
      split
      · rename_i hlt
        rw [if_pos ⟨hn, hlt⟩] at hK2
        exact ⟨by omega, ih _ _ (by omega) (by omega) hK2⟩
      · rename_i hge
        rw [if_neg (by omega)] at hK2
        exact hK2
    · rename_i hn
      rw [if_neg (by omega)] at hK2
      exact hK2
theorem l_text (hRS : depR RS) (hR : RL RS D c) (hc : c < 600) (hi : 0 ≤ i ∧ i + 5 ≤ (sc.1 : Int) ∧ (sc.1 : Int) ≤ 2560) (hgo : ∀ D', RL RS D' (c + 1) → WP sc 317 1610 D' (LV i) [] K E) : WP sc 317 1198 D (LV i) [] K E := by
  have hR0 := hR
  obtain ⟨r1, r2, r3, r4, r5, r6, r7, r8⟩ := hR
  obtain ⟨q1, q2, q3, q4⟩ := r2
  refine v317_1198 ?_
  rw [w32_id (x := i + 1) (by omega) (by omega)]
  refine ⟨by omega, fun hx => v312_0 (v18_0 ?_)⟩
  generalize tsv sc (i + 1) = x at hx ⊢
  have no : ¬ (0 ≤ x ∧ x < D 1977 43) → D (-1) 0 < 599000 ∧ (if (93 : Nat) = 93 then (0 ≤ i + 1 ∧ i + 1 < (sc.1 : Int)) ∧ (-2147483648 ≤ x ∧ x ≤ 2147483647 → WP sc 250 0 (wr D (-1) 0 (D (-1) 0 + 1)) [(0, (1211, 1977)), (1, (0, x))] [] (fun D4 r5 => WP sc 166 0 D4 [(0, (1211, 1977))] [] (fun D7 r8 => if r8 = 1 then (if (1 : Int) = 0 then ((0 : Int) ≤ 0 ∧ (0 : Int) < ln 2017) ∧ (if tlc (D7 2017 0) r5 = 0 then WP sc 317 1610 D7 (LV i) [] K E else K D7 0) else WP sc 317 1610 D7 (LV i) [] K E) else K D7 0) (fun D7 e9 => E D7 e9)) (fun D4 e6 => E D4 e6)) else False) := fun hn => by
    refine ⟨by omega, ?_⟩
    rw [if_pos rfl]
    refine ⟨by omega, fun _ => v250_0 ?_⟩
    rw [show (wr D (-1) 0 (D (-1) 0 + 1)) 1977 43 = D 1977 43 from wr_ne (by omega), w32_id (x := D 1977 43 - 1) (by omega) (by omega)]
    refine c_within (fun h => absurd h (by omega)) (fun _ => ?_)
    rw [if_pos rfl]
    refine c_fails1 ?_
    rw [if_neg (by omega)]
    refine c_thrown ?_
    rw [wr_self, if_pos rfl, if_neg (by omega)]
    refine hgo _ (RL_frame hRS hR0 hc (Or.inr ?_) (fun a j h => ?_))
    · rw [wr_ne (by omega), wr_self]
    · unfold depA depS at h
      simp only [wr]
      rw [if_neg (by omega), if_neg (by omega)]
  split
  · exact no (by omega)
  split
  · refine c_text8 (by omega) (by omega) 9 0 0 (by omega) (by omega) ?_
    refine ⟨by decide +kernel, by omega, fun _ => v250_0 ?_⟩
    generalize htx : tx8 (fun j => D 4 j % 256) x (D 3 1) 9 0 0 = t
    rw [show (wr D 2017 0 t) 1977 43 = D 1977 43 from wr_ne (by omega), w32_id (x := D 1977 43 - 1) (by omega) (by omega)]
    refine c_within (fun _ => ?_) (fun h => absurd (by omega) h)
    rw [if_neg (by omega)]
    refine c_fails0 ?_
    rw [if_pos rfl]
    have e43 : (wr (wr D 2017 0 t) 1977 0 0) 1977 43 = D 1977 43 := by simp [wr]
    have e2013 : ∀ j, (wr (wr D 2017 0 t) 1977 0 0) 2013 j = D 2013 j := fun j => by simp [wr]
    refine c_mtext8 (by omega) (by omega) 9 0 0 (by omega) (by omega) ?_
    refine c_thrown ?_
    rw [wr_self, if_pos rfl, if_pos rfl]
    refine ⟨by decide +kernel, ?_⟩
    rw [wr_ne (by omega), wr_self, if_pos (tlc_eq.mpr ?_)]
    · refine hgo _ (RL_frame hRS hR0 hc (Or.inl (by simp [wr])) (fun a j h => ?_))
      unfold depA depS at h
      simp only [wr]
      rw [if_neg (by omega), if_neg (by omega)]
    · refine htx.symm.trans ?_
      rw [e43, ← q1]
      refine tx8_eq (fun j h1 h2 => ?_) 9 0 0 (by omega)
      rw [e2013]
      have := q4 j (by omega) (by omega)
      simpa using this
  · exact no (by omega)
end LAWC
