/-! the law's loop: what holds between two calls; the calls that touch tape, written text and time alone -/
section LAWA
variable {sc : Nat × (Nat → Int32)} {D : tD} {K : tD → Int → Prop} {E : tD → Nat → Prop}
theorem tlc_lt {x y : Int} : tlc x y < 0 ↔ x < y := by unfold tlc; repeat' split; all_goals omega
theorem tlc_gt {x y : Int} : 0 < tlc x y ↔ y < x := by unfold tlc; repeat' split; all_goals omega
theorem tlc_eq {x y : Int} : tlc x y = 0 ↔ x = y := by unfold tlc; repeat' split; all_goals omega
theorem c_thrown (hK : K D (D 1977 0)) : WP sc 166 0 D [(0, (1211, 1977))] [] K E := v166_0 hK
theorem c_fails1 {c : Int} (hK : K (wr D 1977 0 c) 1) : WP sc 167 0 D [(0, (1211, 1977)), (1, (0, 1)), (2, (0, c))] [] K E := by
  refine v167_0 ?_
  rw [if_neg (by omega)]
  exact tbl_of (Or.inr rfl) hK
theorem c_fails0 {c : Int} (hK : K (wr D 1977 0 0) 0) : WP sc 167 0 D [(0, (1211, 1977)), (1, (0, 0)), (2, (0, c))] [] K E := by
  refine v167_0 ?_
  rw [if_pos rfl]
  exact tbl_of (Or.inl rfl) hK
theorem c_within {v a b : Int} (hT : a ≤ v ∧ v ≤ b → K D 1) (hF : ¬ (a ≤ v ∧ v ≤ b) → K D 0) : WP sc 168 0 D [(0, (1, v)), (2, (1, a)), (4, (1, b))] [] K E := by
  refine v168_0 ?_
  simp only [tlc_lt, tlc_gt]
  split
  · exact hF (by omega)
  split
  · exact hF (by omega)
  · exact hT (by omega)
/-- a row of the one is a piece of an array of the other -/
def rowm (D : tD) (r cap arr off n : Int) : Prop := D r 1 = n ∧ 0 ≤ n ∧ n ≤ cap ∧ ∀ j, 0 ≤ j → j < n → D (r + 1) j % 256 = D arr (off + j)
/-- on what the sheets and the common label depend -/
def depS (a i : Int) : Prop := (5 ≤ a ∧ a ≤ 1954) ∨ (1971 ≤ a ∧ a ≤ 1973) ∨ (1979 ≤ a ∧ a ≤ 2008) ∨ (a = 1977 ∧ (i = 22 ∨ i = 35))
/-- what depends on no more -/
def depR (RS : Int → tD → Prop) : Prop := ∀ D D' : tD, (∀ a i, depS a i → D' a i = D a i) → ∀ {c : Int}, RS c D → RS (c + 1) D'
/-- what holds between two calls; c: how many there were -/
def RL (RS : Int → tD → Prop) (D : tD) (c : Int) : Prop := rowm D 1 4000 1978 0 (D 1977 2) ∧ rowm D 3 12000 2013 0 (D 1977 43) ∧ (D 0 8 = D 1977 3 ∧ 0 ≤ D 0 8 ∧ D 0 8 ≤ 2147483647 * c) ∧ D 1957 3 = D 1977 46 ∧ (D 1957 0 = 1 ∧ D 1968 0 = 1966) ∧ (0 ≤ D (-1) 0 ∧ D (-1) 0 ≤ c) ∧ (0 ≤ c ∧ c ≤ 600) ∧ RS c D
abbrev LV (i : Int) : List (Nat × tV) := [(0, (3, 0)), (1, (1200, 0)), (2, (1211, 1977)), (3, (1001, 2017)), (4, (0, i))]
/-- nothing of the tape, the written text, the time, the place is other than before -/
def sameT (D D' : tD) : Prop := (∀ j, D' 1 j = D 1 j) ∧ (∀ j, D' 2 j = D 2 j) ∧ (∀ j, D' 1978 j = D 1978 j) ∧ D' 1977 2 = D 1977 2
def sameW (D D' : tD) : Prop := (∀ j, D' 3 j = D 3 j) ∧ (∀ j, D' 4 j = D 4 j) ∧ (∀ j, D' 2013 j = D 2013 j) ∧ D' 1977 43 = D 1977 43
def sameN (D D' : tD) : Prop := D' 0 8 = D 0 8 ∧ D' 1977 3 = D 1977 3
def sameP (D D' : tD) : Prop := D' 1957 3 = D 1957 3 ∧ D' 1977 46 = D 1977 46 ∧ D' 1957 0 = D 1957 0 ∧ D' 1968 0 = D 1968 0
theorem rowm_T {D D' : tD} (h : sameT D D') (hr : rowm D 1 4000 1978 0 (D 1977 2)) : rowm D' 1 4000 1978 0 (D' 1977 2) := by
  obtain ⟨h1, h2, h3, h4⟩ := h
  obtain ⟨r1, r2, r3, r4⟩ := hr
  rw [h4]
  refine ⟨by rw [h1]; exact r1, r2, r3, fun j a b => ?_⟩
  have := r4 j a b
  rw [show (1 : Int) + 1 = 2 from rfl] at this ⊢
  rw [h2, h3]
  exact this
theorem rowm_W {D D' : tD} (h : sameW D D') (hr : rowm D 3 12000 2013 0 (D 1977 43)) : rowm D' 3 12000 2013 0 (D' 1977 43) := by
  obtain ⟨h1, h2, h3, h4⟩ := h
  obtain ⟨r1, r2, r3, r4⟩ := hr
  rw [h4]
  refine ⟨by rw [h1]; exact r1, r2, r3, fun j a b => ?_⟩
  have := r4 j a b
  rw [show (3 : Int) + 1 = 4 from rfl] at this ⊢
  rw [h2, h3]
  exact this
section CALLS
variable {RS : Int → tD → Prop} {c i : Int}
theorem l_tick (hRS : depR RS) (hR : RL RS D c) (hc : c < 600) (hi : 0 ≤ i ∧ i + 5 ≤ (sc.1 : Int) ∧ (sc.1 : Int) ≤ 2560) (hgo : ∀ D', RL RS D' (c + 1) → WP sc 317 1610 D' (LV i) [] K E) : WP sc 317 1075 D (LV i) [] K E := by
  obtain ⟨r1, r2, r3, r4, r5, r6, r7, r8⟩ := hR
  refine v317_1075 ?_
  rw [w32_id (x := i + 1) (by omega) (by omega)]
  refine ⟨by omega, fun hx => v310_0 (v16_0 ?_)⟩
  split
  · rename_i hneg
    refine ⟨by omega, ?_⟩
    rw [if_pos rfl]
    refine ⟨by omega, fun _ => v230_0 ?_⟩
    rw [if_pos hneg]
    refine c_fails1 ?_
    rw [if_neg (by omega)]
    refine c_thrown ?_
    rw [wr_self, if_pos rfl, if_neg (by omega)]
    refine hgo _ ⟨rowm_T ?_ r1, rowm_W ?_ r2, ?_, ?_, ?_, ?_, by omega, hRS _ _ ?_ r8⟩
    · unfold sameT; simp [wr]
    · unfold sameW; simp [wr]
    · simp [wr]; omega
    · simp [wr]; exact r4
    · simp [wr]; exact r5
    · simp [wr]; omega
    · intro a j h
      unfold depS at h
      simp only [wr]
      rw [if_neg (by omega), if_neg (by omega)]
  · rename_i hneg
    have e1 : w64 (D 0 8 + tsv sc (i + 1)) = D 0 8 + tsv sc (i + 1) := w64_id (by omega) (by omega)
    rw [e1, wr_self]
    refine ⟨by decide +kernel, ?_⟩
    refine ⟨by omega, fun _ => v230_0 ?_⟩
    rw [if_neg hneg]
    refine c_fails0 ?_
    rw [if_pos rfl]
    refine c_thrown ?_
    have e2 : (wr (wr (wr D 0 8 (D 0 8 + tsv sc (i + 1))) 2017 0 (D 0 8 + tsv sc (i + 1))) 1977 0 0) 1977 3 = D 1977 3 := by simp [wr]
    rw [e2, w64_id (x := D 1977 3 + tsv sc (i + 1)) (by omega) (by omega), wr_ni (by omega), wr_self, if_pos rfl, if_pos rfl]
    refine ⟨by decide +kernel, ?_⟩
    rw [wr_ne (by omega), wr_ne (by omega), wr_self, wr_self, if_pos (tlc_eq.mpr (by omega))]
    refine hgo _ ⟨rowm_T ?_ r1, rowm_W ?_ r2, ?_, ?_, ?_, ?_, by omega, hRS _ _ ?_ r8⟩
    · unfold sameT; simp [wr]
    · unfold sameW; simp [wr]
    · simp [wr]; omega
    · simp [wr]; exact r4
    · simp [wr]; exact r5
    · simp [wr]; omega
    · intro a j h
      unfold depS at h
      simp only [wr]
      rw [if_neg (by omega), if_neg (by omega), if_neg (by omega), if_neg (by omega)]
theorem l_place (hRS : depR RS) (hR : RL RS D c) (hc : c < 600) (hi : 0 ≤ i ∧ i + 5 ≤ (sc.1 : Int) ∧ (sc.1 : Int) ≤ 2560) (hgo : ∀ D', RL RS D' (c + 1) → WP sc 317 1610 D' (LV i) [] K E) : WP sc 317 1266 D (LV i) [] K E := by
  obtain ⟨r1, r2, r3, r4, r5, r6, r7, r8⟩ := hR
  refine v317_1266 (v20_0 (v285_0 ?_))
  rw [wr_ni (by omega), if_pos r4]
  refine hgo _ ⟨rowm_T ?_ r1, rowm_W ?_ r2, ?_, ?_, ?_, ?_, by omega, hRS _ _ ?_ r8⟩
  · unfold sameT; simp [wr]
  · unfold sameW; simp [wr]
  · simp [wr]; omega
  · simp [wr]; exact r4
  · simp [wr]; exact r5
  · simp [wr]; omega
  · intro a j h
    unfold depS at h
    simp only [wr]
    rw [if_neg (by omega)]
theorem l_cut (hRS : depR RS) (hR : RL RS D c) (hc : c < 600) (hi : 0 ≤ i ∧ i + 5 ≤ (sc.1 : Int) ∧ (sc.1 : Int) ≤ 2560) (hgo : ∀ D', RL RS D' (c + 1) → WP sc 317 1610 D' (LV i) [] K E) : WP sc 317 302 D (LV i) [] K E := by
  obtain ⟨r1, r2, r3, r4, r5, r6, r7, r8⟩ := hR
  have q1 := r1.1
  have q2 := r1.2.1
  have q3 := r1.2.2.1
  refine v317_302 ?_
  rw [w32_id (x := i + 1) (by omega) (by omega)]
  have no : ¬ (0 ≤ tsv sc (i + 1) ∧ tsv sc (i + 1) ≤ D 1977 2) → (0 ≤ i + 1 ∧ i + 1 < (sc.1 : Int)) ∧ (-2147483648 ≤ tsv sc (i + 1) ∧ tsv sc (i + 1) ≤ 2147483647 → WP sc 206 0 D [(0, (1211, 1977)), (1, (0, tsv sc (i + 1)))] [] (fun D4 r5 => if 0 = r5 then WP sc 317 1610 D4 (LV i) [] K E else K D4 0) (fun D4 e6 => E D4 e6)) := fun hn => by
    refine ⟨by omega, fun _ => v206_0 (c_within (fun h => ?_) (fun _ => ?_))⟩
    · rw [wr_ni (by omega)] at h; exact absurd h hn
    · rw [if_pos rfl, if_pos rfl]
      refine hgo _ ⟨rowm_T ?_ r1, rowm_W ?_ r2, ?_, ?_, ?_, ?_, by omega, hRS _ _ ?_ r8⟩
      · unfold sameT; simp [wr]
      · unfold sameW; simp [wr]
      · simp [wr]; omega
      · simp [wr]; exact r4
      · simp [wr]; exact r5
      · simp [wr]; omega
      · intro a j h
        unfold depS at h
        simp only [wr]
        rw [if_neg (by omega)]
  refine ⟨by omega, fun hx => v4_0 ?_⟩
  split
  · exact no (by omega)
  split
  · exact no (by omega)
  · rename_i h1 h2
    refine ⟨by omega, fun _ => v206_0 (c_within (fun h => ?_) (fun h => ?_))⟩
    · rw [if_neg (by omega), if_pos rfl]
      refine hgo _ ⟨?_, rowm_W ?_ r2, ?_, ?_, ?_, ?_, by omega, hRS _ _ ?_ r8⟩
      · unfold rowm
        simp [wr]
        refine ⟨by omega, by omega, fun j h3 h4 => ?_⟩
        have := r1.2.2.2 j h3 (by omega)
        simpa using this
      · unfold sameW; simp [wr]
      · simp [wr]; omega
      · simp [wr]; exact r4
      · simp [wr]; exact r5
      · simp [wr]; omega
      · intro a j h
        unfold depS at h
        simp only [wr]
        rw [if_neg (by omega), if_neg (by omega), if_neg (by omega)]
    · exfalso
      refine h ?_
      simp [wr]
      omega
end CALLS
end LAWA
