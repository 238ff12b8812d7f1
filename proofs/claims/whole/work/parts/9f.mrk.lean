/-! the other side: bytes, names of labels, the order of names -/
section MRK
variable {sc : Nat × (Nat → Int32)} {D : tD} {K : tD → Int → Prop} {E : tD → Nat → Prop}
theorem m_dig {b : Int} (hT : srt 2 b = true → K D 1) (hF : ¬ srt 2 b = true → K D 0) : WP sc 179 0 D [(0, (0, b))] [] K E := by
  refine v179_0 ?_
  rw [srt_iff] at hT hF
  split
  · exact hF (by omega)
  split
  · exact hF (by omega)
  · exact hT (by omega)
theorem m_small {b : Int} (hT : srt 1 b = true → K D 1) (hF : ¬ srt 1 b = true → K D 0) : WP sc 180 0 D [(0, (0, b))] [] K E := by
  refine v180_0 ?_
  rw [srt_iff] at hT hF
  split
  · exact hF (by omega)
  split
  · exact hF (by omega)
  · exact hT (by omega)
theorem m_nb {b : Int} (hT : srt 5 b = true → K D 1) (hF : ¬ srt 5 b = true → K D 0) : WP sc 182 0 D [(0, (0, b))] [] K E := by
  rw [srt_iff] at hT hF
  refine v182_0 (v181_0 (m_small (fun h => ?_) (fun h => ?_)))
  · rw [srt_iff] at h
    rw [if_neg (by omega), if_neg (by omega)]
    exact hT (by omega)
  · rw [srt_iff] at h
    rw [if_pos rfl]
    have dg : b ≠ 95 → ¬ (65 ≤ b ∧ b ≤ 90) → (if (0 : Int) = 0 then (WP sc 179 0 D [(0, (0, b))] [] (fun D4 r5 => if r5 = 0 then (if b = 58 then (K D4 1) else (K D4 0)) else (K D4 1)) (fun D4 e6 => E D4 e6)) else (K D 1)) := fun h1 h2 => by
      rw [if_pos rfl]
      refine m_dig (fun g => ?_) (fun g => ?_)
      · rw [srt_iff] at g
        rw [if_neg (by omega)]
        exact hT (by omega)
      · rw [srt_iff] at g
        rw [if_pos rfl]
        split
        · exact hT (by omega)
        · exact hF (by omega)
    split
    · split
      · rw [if_neg (by omega)]; exact hT (by omega)
      · exact dg (by omega) (by omega)
    split
    · split
      · rw [if_neg (by omega)]; exact hT (by omega)
      · exact dg (by omega) (by omega)
    · rw [if_neg (by omega)]; exact hT (by omega)
theorem m_ub {b : Int} (hT : srt 3 b = true → K D 1) (hF : ¬ srt 3 b = true → K D 0) : WP sc 183 0 D [(0, (0, b))] [] K E := by
  rw [srt_iff] at hT hF
  refine v183_0 (m_small (fun h => ?_) (fun h => ?_))
  · rw [srt_iff] at h
    rw [if_neg (by omega)]
    exact hT (by omega)
  · rw [srt_iff] at h
    rw [if_pos rfl]
    refine m_dig (fun g => ?_) (fun g => ?_)
    · rw [srt_iff] at g
      rw [if_neg (by omega)]
      exact hT (by omega)
    · rw [srt_iff] at g
      rw [if_pos rfl]
      split
      · exact hT (by omega)
      · exact hF (by omega)
theorem srt45 {b : Int} : srt 4 b = true ↔ srt 5 b = true ∧ b ≠ 58 := by
  rw [srt_iff, srt_iff]
  omega
/-- a label's name on the tape -/
def mlnP (D : tD) (a b : Int) : Prop := a < b ∧ b - a ≤ 8 ∧ ¬ srt 2 (D 1978 a) = true ∧ (∀ j, a ≤ j → j < b → srt 4 (D 1978 j) = true) ∧ (b - a < 2 ∨ D 1978 a ≠ 95 ∨ D 1978 (a + 1) ≠ 95)
theorem m_lname1 {a b : Int} (ha : 0 ≤ a) (hb : b ≤ 4000) (hT : mlnP D a b → K D 1) (hF : ¬ mlnP D a b → K D 0) (h3 : a < b ∧ b - a ≤ 8 ∧ ¬ srt 2 (D 1978 a) = true) (k g : Int) (hk : a ≤ k) (hg : g = 0 ∨ g = 1) (h0 : g = 0 → ¬ mlnP D a b) (h1 : g = 1 → (b - a < 2 ∨ D 1978 a ≠ 95 ∨ D 1978 (a + 1) ≠ 95) ∧ ∀ j, a ≤ j → j < k → srt 4 (D 1978 j) = true) : WP sc 185 69 D [(0, (1211, 1977)), (2, (0, b)), (3, (0, g)), (4, (0, k))] [] K E := by
  refine v185_69 ?_
  split
  · rename_i hlt
    rw [w32_id (by omega) (by omega)]
    split
    · rename_i q
      exact m_lname1 ha hb hT hF h3 (k + 1) 0 (by omega) (Or.inl rfl) (fun _ => h0 q) (fun e => by omega)
    · rename_i q
      have h2 := h1 (by omega)
      refine ⟨by omega, ?_⟩
      split
      · rename_i h58
        exact m_lname1 ha hb hT hF h3 (k + 1) 0 (by omega) (Or.inl rfl) (fun _ w => (srt45.mp (w.2.2.2.1 k hk hlt)).2 h58) (fun e => by omega)
      · rename_i h58
        refine ⟨by omega, m_nb (fun ht => ?_) (fun ht => ?_)⟩
        · rw [if_neg (by omega)]
          refine m_lname1 ha hb hT hF h3 (k + 1) 1 (by omega) (Or.inr rfl) (fun e => by omega) (fun _ => ⟨h2.1, fun j x y => ?_⟩)
          by_cases e : j = k
          · rw [e]; exact srt45.mpr ⟨ht, h58⟩
          · exact h2.2 j x (by omega)
        · rw [if_pos rfl]
          exact m_lname1 ha hb hT hF h3 (k + 1) 0 (by omega) (Or.inl rfl) (fun _ w => ht (srt45.mp (w.2.2.2.1 k hk hlt)).1) (fun e => by omega)
  · rename_i hge
    refine tbl_of hg ?_
    rcases hg with rfl | rfl
    · exact hF (h0 rfl)
    · have h2 := h1 rfl
      exact hT ⟨h3.1, h3.2.1, h3.2.2, fun j x y => h2.2 j x (by omega), h2.1⟩
termination_by (b - k).toNat
decreasing_by all_goals omega
theorem m_lname {a b : Int} (ha : 0 ≤ a ∧ a ≤ 4000) (hb : 0 ≤ b ∧ b ≤ 4000) (hT : mlnP D a b → K D 1) (hF : ¬ mlnP D a b → K D 0) : WP sc 185 0 D [(0, (1211, 1977)), (1, (0, a)), (2, (0, b))] [] K E := by
  refine v185_0 ?_
  rw [w32_id (x := b - a) (by omega) (by omega), w32_id (x := a + 1) (by omega) (by omega)]
  split
  · exact hF (fun w => by have := w.1; omega)
  split
  · exact hF (fun w => by have := w.2.1; omega)
  · refine ⟨by omega, m_dig (fun h => ?_) (fun h => ?_)⟩
    · rw [if_neg (by omega)]
      exact hF (fun w => w.2.2.1 h)
    · rw [if_pos rfl]
      have h3 : a < b ∧ b - a ≤ 8 ∧ ¬ srt 2 (D 1978 a) = true := ⟨by omega, by omega, h⟩
      have good : (b - a < 2 ∨ D 1978 a ≠ 95 ∨ D 1978 (a + 1) ≠ 95) → WP sc 185 69 D [(0, (1211, 1977)), (2, (0, b)), (3, (0, 1)), (4, (0, a))] [] K E := fun hh => m_lname1 ha.1 hb.2 hT hF h3 a 1 (by omega) (Or.inr rfl) (fun e => by omega) (fun _ => ⟨hh, fun j x y => by omega⟩)
      split
      · exact good (Or.inl (by omega))
      · refine ⟨by omega, ?_⟩
        split
        · rename_i e1
          refine ⟨by omega, ?_⟩
          split
          · rename_i e2
            exact m_lname1 ha.1 hb.2 hT hF h3 a 0 (by omega) (Or.inl rfl) (fun _ w => by
              rcases w.2.2.2.2 with h | h | h
              · omega
              · exact h e1
              · exact h e2) (fun e => by omega)
          · rename_i e2
            exact good (Or.inr (Or.inr e2))
        · rename_i e1
          exact good (Or.inr (Or.inl e1))
/-- a label in the arrays -/
def sgI (D : tD) (N i : Int) : Prop := segT (D 1978) N (D 2010 i) (D 2011 i) (D 2012 i)
def xI (D : tD) (i : Int) : List Int := spn (D 1978) (D 2010 i) (D 2012 i + 1 - D 2010 i).toNat
theorem m_cmp1 {N i k : Int} (hb : ∀ j, 0 ≤ j → j < N → 0 ≤ D 1978 j ∧ D 1978 j ≤ 255) (hN : N ≤ 4000) (hi : 0 ≤ i ∧ i < 8) (hk : 0 ≤ k ∧ k < 8) (h1 : sgI D N i) (h2 : sgI D N k) (hK : ∀ d, (d < 0 ↔ ncmp (xI D i) (xI D k) < 0) → (d = 0 ↔ ncmp (xI D i) (xI D k) = 0) → K D d) (j : Int) (hj : 0 ≤ j) (hj1 : j ≤ D 2011 i - D 2010 i) (hj2 : j ≤ D 2011 k - D 2010 k)
    (he : ncmp (xI D i) (xI D k) = ncmp (spn (D 1978) (D 2010 i + j) (D 2012 i + 1 - (D 2010 i + j)).toNat) (spn (D 1978) (D 2010 k + j) (D 2012 k + 1 - (D 2010 k + j)).toNat)) : WP sc 189 32 D [(0, (1211, 1977)), (1, (0, i)), (2, (0, k)), (3, (0, D 2011 i - D 2010 i)), (4, (0, D 2011 k - D 2010 k)), (5, (0, j))] [] K E := by
  have a1 := h1.1
  have b1 := h2.1
  have a2 := h1.2.1
  have b2 := h2.2.1
  have a4 := h1.2.2.2.1
  have b4 := h2.2.2.2.1
  obtain ⟨u, hu⟩ : ∃ u, (D 2012 i + 1 - (D 2010 i + j)).toNat = u + 1 := ⟨(D 2012 i + 1 - (D 2010 i + j)).toNat - 1, by omega⟩
  obtain ⟨w, hw⟩ : ∃ w, (D 2012 k + 1 - (D 2010 k + j)).toNat = w + 1 := ⟨(D 2012 k + 1 - (D 2010 k + j)).toNat - 1, by omega⟩
  rw [hu, hw] at he
  simp only [spn, ncmp] at he
  have c1 := hb (D 2010 i + j) (by omega) (by omega)
  have c2 := hb (D 2010 k + j) (by omega) (by omega)
  refine v189_32 ?_
  rw [w32_id (x := D 2010 i + j) (by omega) (by omega), w32_id (x := D 2010 k + j) (by omega) (by omega), w32_id (x := D 1978 (D 2010 i + j) - D 1978 (D 2010 k + j)) (by omega) (by omega), w32_id (x := j + 1) (by omega) (by omega), w32_id (x := D 2011 i - D 2010 i - (D 2011 k - D 2010 k)) (by omega) (by omega)]
  split
  · rename_i g1
    have n1 := srt4_ge (a4.2.2.2.1 (D 2010 i + j) (by omega) (by omega))
    split
    · rename_i g2
      refine ⟨hi, by omega, hk, by omega, ?_⟩
      split
      · rename_i e0
        refine m_cmp1 hb hN hi hk h1 h2 hK (j + 1) (by omega) (by omega) (by omega) ?_
        rw [he, if_neg (by omega), if_neg (by omega), if_neg (by omega)]
        rw [show D 2010 i + (j + 1) = D 2010 i + j + 1 from by omega, show D 2010 k + (j + 1) = D 2010 k + j + 1 from by omega]
        rw [show (D 2012 i + 1 - (D 2010 i + j + 1)).toNat = u from by omega, show (D 2012 k + 1 - (D 2010 k + j + 1)).toNat = w from by omega]
      · rename_i e0
        by_cases c : D 1978 (D 2010 i + j) < D 1978 (D 2010 k + j)
        · rw [if_pos c] at he
          exact hK _ (by omega) (by omega)
        · rw [if_neg c, if_pos (by omega)] at he
          exact hK _ (by omega) (by omega)
    · rename_i g2
      have z : D 2010 k + j = D 2011 k := by omega
      rw [z, b2] at he
      rw [if_neg (by omega), if_pos (by omega)] at he
      exact hK _ (by omega) (by omega)
  · rename_i g1
    have y : D 2010 i + j = D 2011 i := by omega
    rw [y, a2] at he
    by_cases g2 : j < D 2011 k - D 2010 k
    · have n2 := srt4_ge (b4.2.2.2.1 (D 2010 k + j) (by omega) (by omega))
      rw [if_pos (by omega)] at he
      exact hK _ (by omega) (by omega)
    · have z : D 2010 k + j = D 2011 k := by omega
      rw [z, b2] at he
      rw [if_neg (by omega), if_neg (by omega), if_pos rfl] at he
      exact hK _ (by omega) (by omega)
termination_by (D 2011 i - D 2010 i - j).toNat
decreasing_by omega
theorem m_cmp {N i k : Int} (hb : ∀ j, 0 ≤ j → j < N → 0 ≤ D 1978 j ∧ D 1978 j ≤ 255) (hN : N ≤ 4000) (hi : 0 ≤ i ∧ i < 8) (hk : 0 ≤ k ∧ k < 8) (h1 : sgI D N i) (h2 : sgI D N k) (hK : ∀ d, (d < 0 ↔ ncmp (xI D i) (xI D k) < 0) → (d = 0 ↔ ncmp (xI D i) (xI D k) = 0) → K D d) : WP sc 189 0 D [(0, (1211, 1977)), (1, (0, i)), (2, (0, k))] [] K E := by
  have a1 := h1.1
  have b1 := h2.1
  refine v189_0 ⟨hi, hi, hk, hk, ?_⟩
  rw [w32_id (by omega) (by omega), w32_id (by omega) (by omega)]
  refine m_cmp1 hb hN hi hk h1 h2 hK 0 (by omega) (by omega) (by omega) ?_
  rw [show D 2010 i + 0 = D 2010 i from by omega, show D 2010 k + 0 = D 2010 k from by omega]
  rfl
end MRK
