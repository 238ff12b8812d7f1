/-! rows: texts, names; a row becomes a span -/
section ROWC
variable {sc : Nat × (Nat → Int32)} {D : tD} {K : tD → Int → Prop} {E : tD → Nat → Prop}
/-- a byte of a text -/
def txt (b : Int) : Prop := b = 10 ∨ (32 ≤ b ∧ b ≤ 126)
def txtP (D : tD) (r s e m : Int) : Prop := s ≤ e ∧ e - s ≤ m ∧ ∀ j, s ≤ j → j < e → txt (rat D r j)
theorem c_text1 {r s e m : Int} (h1 : D r 1 ≤ ln (r + 1)) (he : e ≤ 20001) (hs : -2 ≤ s ∧ s ≤ e) (hm : e - s ≤ m) (hT : txtP D r s e m → K D 1) (hF : ¬ txtP D r s e m → K D 0) (k : Int) (hk : s ≤ k) (hj : ∀ j, s ≤ j → j < k → txt (rat D r j)) : WP sc 297 17 D [(0, (1207, r)), (2, (0, e)), (4, (0, k))] [] K E := by
  refine v297_17 ?_
  split
  · rename_i hlt
    have go : txt (rat D r k) → WP sc 297 17 D [(0, (1207, r)), (2, (0, e)), (4, (0, w32 (k + 1)))] [] K E := fun ht => by
      rw [w32_id (by omega) (by omega)]
      refine c_text1 h1 he hs hm hT hF (k + 1) (by omega) (fun j h4 h5 => ?_)
      by_cases e : j = k
      · rw [e]; exact ht
      · exact hj j h4 (by omega)
    refine c_at h1 ?_
    split
    · rename_i h10
      exact go (Or.inl h10)
    split
    · rename_i h10 h32
      exact hF (fun h => by have := h.2.2 k hk hlt; unfold txt at this; omega)
    split
    · rename_i h10 h32 h126
      exact hF (fun h => by have := h.2.2 k hk hlt; unfold txt at this; omega)
    · rename_i h10 h32 h126
      exact go (Or.inr (by omega))
  · exact hT ⟨hs.2, hm, fun j h4 h5 => hj j h4 (by omega)⟩
termination_by (e - k).toNat
decreasing_by omega
theorem c_text {r s e m : Int} (h1 : D r 1 ≤ ln (r + 1)) (he : -2 ≤ e ∧ e ≤ 20001) (hs : -2 ≤ s ∧ s ≤ 20001) (hT : txtP D r s e m → K D 1) (hF : ¬ txtP D r s e m → K D 0) : WP sc 297 0 D [(0, (1207, r)), (1, (0, s)), (2, (0, e)), (3, (0, m))] [] K E := by
  refine v297_0 ?_
  split
  · exact hF (fun h => by have := h.1; omega)
  rw [w32_id (by omega) (by omega)]
  split
  · exact hF (fun h => by have := h.2.1; omega)
  · exact c_text1 h1 he.2 (by omega) (by omega) hT hF s (by omega) (fun j _ _ => by omega)
/-- a name: of a label (1) or of a family (0) -/
def namP (lab : Int) (D : tD) (r s e : Int) : Prop := s < e ∧ e - s ≤ (if lab = 0 then 24 else 8) ∧ ¬ srt 2 (rat D r s) = true ∧ (∀ j, s ≤ j → j < e → srt (if lab = 0 then 5 else 4) (rat D r j) = true) ∧ (lab = 0 ∨ rat D r s ≠ 95 ∨ rat D r (s + 1) ≠ 95)
theorem c_name1 {lab r s e : Int} (hl : lab = 0 ∨ lab = 1) (h1 : D r 1 ≤ ln (r + 1)) (he : e ≤ 20001) (hs : -2 ≤ s ∧ s < e) (hm : e - s ≤ (if lab = 0 then 24 else 8)) (hd : ¬ srt 2 (rat D r s) = true) (hT : namP lab D r s e → K D 1) (hF : ¬ namP lab D r s e → K D 0) (k : Int) (hk : s ≤ k) (hj : ∀ j, s ≤ j → j < k → srt (if lab = 0 then 5 else 4) (rat D r j) = true) : WP sc 296 43 D [(0, (0, lab)), (1, (1207, r)), (2, (0, s)), (3, (0, e)), (5, (0, k))] [] K E := by
  refine v296_43 ?_
  split
  · rename_i hlt
    have go : srt (if lab = 0 then 5 else 4) (rat D r k) = true → WP sc 296 43 D [(0, (0, lab)), (1, (1207, r)), (2, (0, s)), (3, (0, e)), (5, (0, w32 (k + 1)))] [] K E := fun ht => by
      rw [w32_id (by omega) (by omega)]
      refine c_name1 hl h1 he hs hm hd hT hF (k + 1) (by omega) (fun j h4 h5 => ?_)
      by_cases e : j = k
      · rw [e]; exact ht
      · exact hj j h4 (by omega)
    have no : ¬ srt (if lab = 0 then 5 else 4) (rat D r k) = true → K D 0 := fun hn => hF (fun h => hn (h.2.2.2.1 k hk hlt))
    split
    · rename_i h0
      rw [if_pos h0] at go no
      refine c_at h1 (c_sort (by omega) (fun ht => ?_) (fun hn => ?_))
      · rw [if_neg (by omega)]; exact go ht
      · rw [if_pos rfl]; exact no hn
    · rename_i h0
      rw [if_neg h0] at go no
      refine c_at h1 (c_sort (by omega) (fun ht => ?_) (fun hn => ?_))
      · rw [if_neg (by omega)]; exact go ht
      · rw [if_pos rfl]; exact no hn
  · have fin : (lab = 0 ∨ rat D r s ≠ 95 ∨ rat D r (s + 1) ≠ 95) → K D 1 := fun h => hT ⟨hs.2, hm, hd, fun j h4 h5 => hj j h4 (by omega), h⟩
    split
    · rename_i h0
      exact fin (Or.inl h0)
    · rename_i h0
      refine c_at h1 ?_
      split
      · rename_i h95
        rw [w32_id (by omega) (by omega)]
        refine c_at h1 ?_
        split
        · rename_i h95b
          exact hF (fun h => by rcases h.2.2.2.2 with q | q | q <;> omega)
        · rename_i h95b
          exact fin (Or.inr (Or.inr h95b))
      · rename_i h95
        exact fin (Or.inr (Or.inl h95))
termination_by (e - k).toNat
decreasing_by omega
theorem c_name {lab r s e : Int} (hl : lab = 0 ∨ lab = 1) (h1 : D r 1 ≤ ln (r + 1)) (he : -2 ≤ e ∧ e ≤ 20001) (hs : -2 ≤ s ∧ s ≤ 20001) (hT : namP lab D r s e → K D 1) (hF : ¬ namP lab D r s e → K D 0) : WP sc 296 0 D [(0, (0, lab)), (1, (1207, r)), (2, (0, s)), (3, (0, e))] [] K E := by
  refine v296_0 ?_
  rw [w32_id (x := e - s) (by omega) (by omega)]
  split
  · rename_i h0
    split
    · rename_i hlt
      split
      · exact hF (fun h => by have := h.2.1; rw [if_pos h0] at this; omega)
      · refine c_at h1 (c_sort (by omega) (fun ht => ?_) (fun hn => ?_))
        · rw [if_neg (by omega)]
          exact hF (fun h => h.2.2.1 ht)
        · rw [if_pos rfl]
          exact c_name1 hl h1 he.2 (by omega) (by rw [if_pos h0]; omega) hn hT hF s (by omega) (fun j _ _ => by omega)
    · exact hF (fun h => by have := h.1; omega)
  · rename_i h0
    split
    · rename_i hlt
      split
      · exact hF (fun h => by have := h.2.1; rw [if_neg h0] at this; omega)
      · refine c_at h1 (c_sort (by omega) (fun ht => ?_) (fun hn => ?_))
        · rw [if_neg (by omega)]
          exact hF (fun h => h.2.2.1 ht)
        · rw [if_pos rfl]
          exact c_name1 hl h1 he.2 (by omega) (by rw [if_neg h0]; omega) hn hT hF s (by omega) (fun j _ _ => by omega)
    · exact hF (fun h => by have := h.1; omega)
/-- nothing but a row is other than before -/
def frw (D D' : tD) (r : Int) : Prop := ∀ a i, a ≠ r → a ≠ r + 1 → D' a i = D a i
/-- a row has become a span of another -/
def becP (D D' : tD) (r q s e : Int) : Prop := D' r 1 = e - s ∧ D' r 2 = 0 ∧ D' r 0 = D r 0 ∧ (∀ j, 0 ≤ j → j < e - s → D' (r + 1) j = D (q + 1) (s + j)) ∧ frw D D' r
theorem c_bec {r q s e : Int} (hq : q ≠ r ∧ q ≠ r + 1 ∧ q + 1 ≠ r) (h2 : D q 1 ≤ ln (q + 1)) (h3 : 0 ≤ ln (r + 1) ∧ ln (r + 1) ≤ 20000) (h4 : D q 1 ≤ 20000) (hok : 0 ≤ s ∧ s ≤ e ∧ e ≤ D q 1 ∧ e - s ≤ ln (r + 1)) (hK : ∀ D', becP D D' r q s e → K D' 0) : WP sc 93 0 D [(0, (1207, r)), (1, (1207, q)), (2, (0, s)), (3, (0, e))] [] K E := by
  refine v93_0 (c_clear ?_)
  have e1 : rclear D r r 1 = 0 := by
    unfold rclear
    rw [wr_ni (by omega)]; exact wr_self
  have e2 : ∀ a i, a ≠ r → rclear D r a i = D a i := fun a i h => by
    unfold rclear
    rw [wr_ne h, wr_ne h]
  refine c_ins (by rw [e1]; omega) (by rw [e1]; omega) (by rw [e2 _ _ hq.1]; exact h2) h3.2 (by rw [e2 _ _ hq.1]; exact h4) (by omega) (fun _ => ?_) (fun hn => ?_)
  · refine hK _ ⟨?_, ?_, ?_, ?_, ?_⟩
    · unfold rins
      rw [wr_self, e1]; omega
    · unfold rins
      rw [wr_ni (by omega), tcy_ne (by omega), tcy_ne (by omega)]
      exact wr_self
    · unfold rins
      rw [wr_ni (by omega), tcy_ne (by omega), tcy_ne (by omega)]
      unfold rclear
      rw [wr_ni (by omega), wr_ni (by omega)]
    · intro j h5 h6
      unfold rins
      rw [wr_ne (by omega)]
      show (if r + 1 = r + 1 ∧ 0 ≤ j ∧ j < 0 + (e - s) then tcy _ _ _ _ _ _ (q + 1) (s + (j - 0)) else _) = _
      rw [if_pos ⟨rfl, by omega, by omega⟩, tcy_ne (by omega), e2 _ _ (by omega), show s + (j - 0) = s + j from by omega]
    · intro a i h5 h6
      unfold rins
      rw [wr_ne h5, tcy_ne h6, tcy_ne h6, e2 _ _ h5]
  · exfalso
    refine hn ?_
    unfold rinsOk
    rw [e1, e2 _ _ hq.1]
    omega
/-- a span of another row is put behind -/
def appP (D D' : tD) (r q s e : Int) : Prop := D' r 1 = D r 1 + (e - s) ∧ D' r 2 = D r 2 ∧ (∀ j, 0 ≤ j → j < D r 1 → D' (r + 1) j = D (r + 1) j) ∧ (∀ j, 0 ≤ j → j < e - s → D' (r + 1) (D r 1 + j) = D (q + 1) (s + j)) ∧ frw D D' r
theorem rins_app {r q s e : Int} (hq : q + 1 ≠ r + 1) (hok : 0 ≤ s ∧ s ≤ e) : appP D (rins D r (D r 1) q s e) r q s e := by
  refine ⟨?_, ?_, ?_, ?_, ?_⟩
  · unfold rins
    rw [wr_self]
  · unfold rins
    rw [wr_ni (by omega), tcy_ne (by omega), tcy_ne (by omega)]
  · intro j h5 h6
    unfold rins
    rw [wr_ne (by omega)]
    unfold tcy
    rw [if_neg (by omega), if_neg (by omega)]
  · intro j h5 h6
    unfold rins
    rw [wr_ne (by omega)]
    show (if r + 1 = r + 1 ∧ D r 1 ≤ D r 1 + j ∧ D r 1 + j < D r 1 + (e - s) then tcy _ _ _ _ _ _ (q + 1) (s + (D r 1 + j - D r 1)) else _) = _
    rw [if_pos ⟨rfl, by omega, by omega⟩, tcy_ne hq, show s + (D r 1 + j - D r 1) = s + j from by omega]
  · intro a i h5 h6
    unfold rins
    rw [wr_ne h5, tcy_ne h6, tcy_ne h6]
end ROWC
