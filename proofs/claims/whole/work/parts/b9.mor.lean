/-! reading a sample: the other side asks how a bound is written -/
section MOR
variable {sc : Nat × (Nat → Int32)} {D A : tD} {K : tD → Int → Prop} {E : tD → Nat → Prop} {T : Int → Int} {n : Int}
def wdM (l : List Int) (w : Int) : Prop := (l.length : Int) = ltn w ∧ ∀ j, 0 ≤ j → j < (l.length : Int) → lf l j = ltr w j
theorem u_more1 {l : List Int} {w : Int} (h66 : A 1977 66 = (l.length : Int)) (hl : atL A 2016 0 l) (h20 : l.length ≤ 20) (hT : wdM l w → K A 1) (hF : ¬ wdM l w → K A 0) : ∀ (m : Nat) (k x : Int), (l.length : Int) - k = (m : Int) → 0 ≤ k → ((x = 1 ∧ (l.length : Int) = ltn w ∧ ∀ j, 0 ≤ j → j < k → lf l j = ltr w j) ∨ (x = 0 ∧ ¬ wdM l w)) → WP sc 273 19 A [(0, (1211, 1977)), (1, (0, w)), (2, (0, x)), (3, (0, k))] [] K E := by
  intro m
  induction m with
  | zero =>
    intro k x hm hk hx
    refine v273_19 ?_
    rw [h66, if_neg (by omega)]
    rcases hx with ⟨e, h1, h2⟩ | ⟨e, h1⟩
    · rw [e]; exact tbl_of (Or.inr rfl) (hT ⟨h1, fun j u v => h2 j u (by omega)⟩)
    · rw [e]; exact tbl_of (Or.inl rfl) (hF h1)
  | succ m ih =>
    intro k x hm hk hx
    refine v273_19 ?_
    rw [h66, if_pos (by omega)]
    rcases hx with ⟨e, h1, h2⟩ | ⟨e, h1⟩
    · rw [e, if_neg (by omega)]
      refine ⟨by omega, m_letter ?_⟩
      have q := atL_lf hl k hk (by omega)
      rw [show (0 : Int) + k = k from by omega] at q
      rw [q, w32_id (x := k + 1) (by omega) (by omega)]
      by_cases y : lf l k = ltr w k
      · rw [if_pos y]
        refine ih (k + 1) 1 (by omega) (by omega) (Or.inl ⟨rfl, h1, fun j u v => ?_⟩)
        by_cases z : j = k
        · rw [z]; exact y
        · exact h2 j u (by omega)
      · rw [if_neg y]
        exact ih (k + 1) 0 (by omega) (by omega) (Or.inr ⟨rfl, fun z => y (z.2 k hk (by omega))⟩)
    · rw [e, if_pos rfl]; exact tbl_of (Or.inl rfl) (hF h1)
theorem u_more {l : List Int} {w : Int} (hw : 0 ≤ w ∧ w < 18) (h66 : A 1977 66 = (l.length : Int)) (hl : atL A 2016 0 l) (h20 : l.length ≤ 20) (hT : wdM l w → K A 1) (hF : ¬ wdM l w → K A 0) : WP sc 273 0 A [(0, (1211, 1977)), (1, (0, w))] [] K E := by
  refine v273_0 (m_letters hw ?_)
  rw [h66]
  by_cases e : (l.length : Int) = ltn w
  · rw [if_pos e]
    exact u_more1 h66 hl h20 hT hF l.length 0 1 (by omega) (by omega) (Or.inl ⟨rfl, e, fun j u v => by omega⟩)
  · rw [if_neg e]
    exact u_more1 h66 hl h20 hT hF l.length 0 0 (by omega) (by omega) (Or.inr ⟨rfl, fun y => e y.1⟩)
/-- the class asks the same of its row -/
theorem t_more {l : List Int} {w t : Int} (hw : twd w t) (h1 : D 1966 1 = (l.length : Int)) (hl : atL D 1967 0 l) (h20 : l.length ≤ 20) (hT : wdM l w → K D 1) (hF : ¬ wdM l w → K D 0) : WP sc 100 0 D [(0, (1207, 1966)), (1, (0, 0)), (2, (0, D 1966 1)), (3, (4, t))] [] K E := by
  have key : spis D 1966 0 (D 1966 1) t ↔ wdM l w := by
    unfold spis wdM
    rw [h1, hw.1]
    have b : ∀ j, 0 ≤ j → j < (l.length : Int) → D (1966 + 1) j = lf l j := fun j u v => by
      have q := atL_lf hl j u v
      rw [show (0 : Int) + j = j from by omega] at q
      exact q
    refine ⟨fun ⟨_, _, q3, q4⟩ => ⟨by omega, fun j u v => ?_⟩, fun ⟨q3, q4⟩ => ⟨by omega, by omega, by omega, fun j u v => ?_⟩⟩
    · rw [← b j u v, q4 j u v, show j - 0 = j from by omega]
      exact (hw.2 j u (by rw [hw.1]; omega)).1.symm
    · rw [b j u v, q4 j u v, show j - 0 = j from by omega]
      exact (hw.2 j u (by rw [hw.1]; omega)).1
  have l20 : ln (1966 + 1) = 20 := rfl
  exact c_span (by rw [h1, l20]; omega) (by rw [h1]; omega) ⟨by omega, by omega, by rw [h1]; omega, by rw [h1]; omega⟩ (fun y => hT (key.mp y)) (fun y => hF (fun z => y (key.mpr z)))
theorem twd_inf : twd 16 46 := twd_mk (by decide +kernel)
end MOR
