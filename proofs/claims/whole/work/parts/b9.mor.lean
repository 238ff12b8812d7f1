/-! reading a sample: the other side asks how a bound is written -/
section MOR
variable {sc : Nat × (Nat → Int32)} {D A : tD} {K : tD → Int → Prop} {E : tD → Nat → Prop} {T : Int → Int} {n : Int}
def wdM (l : List Int) (w : Int) : Prop := (l.length : Int) = ltn w ∧ ∀ j, 0 ≤ j → j < (l.length : Int) → lf l j = ltr w j
theorem u_more1 {l : List Int} {w : Int} (h66 : A 1977 66 = (l.length : Int)) (hl : atL A 2016 0 l) (h20 : l.length ≤ 20) (hT : wdM l w → K A 1) (hF : ¬ wdM l w → K A 0) : ∀ (m : Nat) (k x : Int), (l.length : Int) - k = (m : Int) → 0 ≤ k → ((x = 1 ∧ (l.length : Int) = ltn w ∧ ∀ j, 0 ≤ j → j < k → lf l j = ltr w j) ∨ (x = 0 ∧ ¬ wdM l w)) → WP sc 273 19 A [(0, (1211, 1977)), (1, (0, w)), (2, (0, x)), (3, (0, k))] [] K E := by
  intro m
  induction m with
  | zero =>
    intro k x hm hk hx
    refine v273_19 ?_
    rw [h66, if_neg (by omega)]
    rcases hx with ⟨e, h1, h2⟩ | ⟨e, h1⟩
    · rw [e]; exact tbl_of (Or.inr rfl) (hT ⟨h1, fun j u v => h2 j u (by omega)⟩)
    · rw [e]; exact tbl_of (Or.inl rfl) (hF h1)
  | succ m ih =>
    intro k x hm hk hx
    refine v273_19 ?_
    rw [h66, if_pos (by omega)]
    rcases hx with ⟨e, h1, h2⟩ | ⟨e, h1⟩
    · rw [e, if_neg (by omega)]
      refine ⟨by omega, m_letter ?_⟩
      have q := atL_lf hl k hk (by omega)
      rw [show (0 : Int) + k = k from by omega] at q
      rw [q, w32_id (x := k + 1) (by omega) (by omega)]
      by_cases y : lf l k = ltr w k
      · rw [if_pos y]
        refine ih (k + 1) 1 (by omega) (by omega) (Or.inl ⟨rfl, h1, fun j u v => ?_⟩)
        by_cases z : j = k
        · rw [z]; exact y
        · exact h2 j u (by omega)
      · rw [if_neg y]
        exact ih (k + 1) 0 (by omega) (by omega) (Or.inr ⟨rfl, fun z => y (z.2 k hk (by omega))⟩)
    · rw [e, if_pos rfl]; exact tbl_of (Or.inl rfl) (hF h1)
theorem u_more {l : List Int} {w : Int} (hw : 0 ≤ w ∧ w < 18) (h66 : A 1977 66 = (l.length : Int)) (hl : atL A 2016 0 l) (h20 : l.length ≤ 20) (hT : wdM l w → K A 1) (hF : ¬ wdM l w → K A 0) : WP sc 273 0 A [(0, (1211, 1977)), (1, (0, w))] [] K E := by
  refine v273_0 (m_letters hw ?_)
  rw [h66]
  by_cases e : (l.length : Int) = ltn w
  · rw [if_pos e]
    exact u_more1 h66 hl h20 hT hF l.length 0 1 (by omega) (by omega) (Or.inl ⟨rfl, e, fun j u v => by omega⟩)
  · rw [if_neg e]
    exact u_more1 h66 hl h20 hT hF l.length 0 0 (by omega) (by omega) (Or.inr ⟨rfl, fun y => e y.1⟩)
/-- the class asks the same of its row -/
theorem t_more {l : List Int} {w t : Int} (hw : twd w t) (h1 : D 1966 1 = (l.length : Int)) (hl : atL D 1967 0 l) (h20 : l.length ≤ 20) (hT : wdM l w → K D 1) (hF : ¬ wdM l w → K D 0) : WP sc 100 0 D [(0, (1207, 1966)), (1, (0, 0)), (2, (0, D 1966 1)), (3, (4, t))] [] K E := by
  have key : spis D 1966 0 (D 1966 1) t ↔ wdM l w := by
    unfold spis wdM
    rw [h1, hw.1]
    have b : ∀ j, 0 ≤ j → j < (l.length : Int) → D (1966 + 1) j = lf l j := fun j u v => by
      have q := atL_lf hl j u v
      rw [show (0 : Int) + j = j from by omega] at q
      exact q
    refine ⟨fun ⟨_, _, q3, q4⟩ => ⟨by omega, fun j u v => ?_⟩, fun ⟨q3, q4⟩ => ⟨by omega, by omega, by omega, fun j u v => ?_⟩⟩
    · rw [← b j u v, q4 j u v, show j - 0 = j from by omega]
      exact (hw.2 j u (by rw [hw.1]; omega)).1.symm
    · rw [b j u v, q4 j u v, show j - 0 = j from by omega]
      exact (hw.2 j u (by rw [hw.1]; omega)).1
  have l20 : ln (1966 + 1) = 20 := rfl
  exact c_span (by rw [h1, l20]; omega) (by rw [h1]; omega) ⟨by omega, by omega, by rw [h1]; omega, by rw [h1]; omega⟩ (fun y => hT (key.mp y)) (fun y => hF (fun z => y (key.mpr z)))
theorem u_wri1 {l N : List Int} {x1 : Int} (h66 : A 1977 66 = (l.length : Int)) (hl : atL A 2016 0 l) (h20 : l.length ≤ 20) (hN : atL A 2014 0 N) (hT : N = l → K (wr A 1977 44 x1) 1) (hF : N ≠ l → K (wr A 1977 44 x1) 0) : ∀ (m : Nat) (k x : Int), (l.length : Int) - k = (m : Int) → 0 ≤ k → ((x = 1 ∧ N.length = l.length ∧ ∀ j, 0 ≤ j → j < k → lf N j = lf l j) ∨ (x = 0 ∧ N ≠ l)) → WP sc 275 37 A [(0, (1211, 1977)), (1, (0, x1)), (2, (0, x)), (3, (0, k))] [] K E := by
  have eqN : N.length = l.length → (∀ j, 0 ≤ j → j < (l.length : Int) → lf N j = lf l j) → N = l := fun h1 h2 => by
    refine List.ext_getElem h1 (fun i p1 p2 => ?_)
    have q := h2 (i : Int) (by omega) (by omega)
    unfold lf at q
    rw [Int.toNat_natCast, List.getD_eq_getElem?_getD, List.getD_eq_getElem?_getD, List.getElem?_eq_getElem p1, List.getElem?_eq_getElem p2] at q
    exact q
  intro m
  induction m with
  | zero =>
    intro k x hm hk hx
    refine v275_37 ?_
    rw [h66, if_neg (by omega)]
    rcases hx with ⟨e, h1, h2⟩ | ⟨e, h1⟩
    · rw [e]; exact tbl_of (Or.inr rfl) (hT (eqN h1 (fun j u v => h2 j u (by omega))))
    · rw [e]; exact tbl_of (Or.inl rfl) (hF h1)
  | succ m ih =>
    intro k x hm hk hx
    refine v275_37 ?_
    rw [h66, if_pos (by omega)]
    rcases hx with ⟨e, h1, h2⟩ | ⟨e, h1⟩
    · rw [e, if_neg (by omega)]
      refine ⟨by omega, by omega, ?_⟩
      have q1 := atL_lf hl k hk (by omega)
      have q2 := atL_lf hN k hk (by omega)
      rw [show (0 : Int) + k = k from by omega] at q1 q2
      rw [q1, q2, w32_id (x := k + 1) (by omega) (by omega)]
      by_cases y : lf N k = lf l k
      · rw [if_pos y]
        refine ih (k + 1) 1 (by omega) (by omega) (Or.inl ⟨rfl, h1, fun j u v => ?_⟩)
        by_cases z : j = k
        · rw [z]; exact y
        · exact h2 j u (by omega)
      · rw [if_neg y]
        exact ih (k + 1) 0 (by omega) (by omega) (Or.inr ⟨rfl, fun z => y (by rw [z])⟩)
    · rw [e, if_pos rfl]; exact tbl_of (Or.inl rfl) (hF h1)
theorem u_written {l : List Int} (h66 : A 1977 66 = (l.length : Int)) (hl : atL A 2016 0 l) (h20 : l.length ≤ 20) (hv : -mostN ≤ A 1977 58 ∧ A 1977 58 ≤ mostN) (hT : numT (A 1977 58) = l → ∀ A', (∀ x j, x ≠ 2014 → A' x j = A x j) → K A' 1) (hF : numT (A 1977 58) ≠ l → ∀ A', (∀ x j, x ≠ 2014 → A' x j = A x j) → K A' 0) : WP sc 275 0 A [(0, (1211, 1977))] [] K E := by
  have mn : mostN = 999999999999999 := rfl
  have n17 := numT_17 hv
  have e58 : (wr A 1977 44 0) 1977 58 = A 1977 58 := wr_ni (by omega)
  refine v275_0 ?_
  rw [e58]
  refine m_pnum (L := []) (by rw [mn] at hv; omega) (by simp) ⟨by rw [wr_self]; rfl, fun _ => trivial⟩ (fun A1 m1 f1 => ?_)
  rw [List.nil_append] at m1
  have o1 : ∀ x j, x ≠ 2014 → ¬ (x = 1977 ∧ j = 44) → A1 x j = A x j := fun x j u v => by
    rw [f1 x j u v]
    by_cases y : x = 1977
    · subst y; exact wr_ni (by omega)
    · exact wr_ne y
  have d66 : A1 1977 66 = (l.length : Int) := by rw [o1 _ _ (by omega) (by omega)]; exact h66
  have fin : ∀ x j, x ≠ 2014 → (wr A1 1977 44 (A 1977 44)) x j = A x j := fun x j u => by
    by_cases y : x = 1977 ∧ j = 44
    · rw [y.1, y.2, wr_self]
    · by_cases y2 : x = 1977
      · subst y2; rw [wr_ni (fun w => y ⟨rfl, w⟩)]; exact o1 _ _ u y
      · rw [wr_ne y2]; exact o1 _ _ u y
  have hl1 : atL A1 2016 0 l := atL_fr (fun j _ _ => o1 _ _ (by omega) (by omega)) hl
  rw [d66, m1.1]
  have go := u_wri1 (sc := sc) (K := K) (E := E) (x1 := A 1977 44) d66 hl1 h20 (m1.2 (by omega)) (fun q => hT q _ fin) (fun q => hF q _ fin)
  by_cases e : ((numT (A 1977 58)).length : Int) = (l.length : Int)
  · rw [if_pos e]
    exact go l.length 0 1 (by omega) (by omega) (Or.inl ⟨rfl, by omega, fun j u v => by omega⟩)
  · rw [if_neg e]
    exact go l.length 0 0 (by omega) (by omega) (Or.inr ⟨rfl, fun w => e (by rw [w])⟩)
theorem twd_inf : twd 16 46 := twd_mk (by decide +kernel)
end MOR
