/-! the law's loop: state -/
section STA
variable {sc : Nat × (Nat → Int32)} {D D' : tD} {K : tD → Int → Prop} {E : tD → Nat → Prop} {s c i : Int}
def stC (D : tD) (f : Int) : Prop := (0 ≤ f ∧ f < D 5 4) ∧ D (aF 0 f) 5 = 4 ∧ txtP D 1 0 (D 1 1) 12 ∧ ¬ ∃ k, 0 ≤ k ∧ k < D (aF 0 f) 7 ∧ eqr D (aF 0 f + 9 + 2 * k) 1
def stM (D : tD) (f n : Int) : Prop := (0 ≤ f ∧ f < D 1979 0) ∧ D 1980 f = 4 ∧ mtxP D 0 n 12 ∧ ¬ ∃ k, 0 ≤ k ∧ k < D 1991 f ∧ msmP D 1989 (12 * (4 * f + k)) (D 1990 (4 * f + k)) 0 n
/-- a state has been pushed, and the tape is empty -/
def pstP (D D' : tD) (f : Int) : Prop := D' (aF 0 f) 7 = D (aF 0 f) 7 + 1 ∧ D' (aF 0 f + 9 + 2 * D (aF 0 f) 7) 1 = D 1 1 ∧ (∀ j, 0 ≤ j → j < D 1 1 → D' (aF 0 f + 10 + 2 * D (aF 0 f) 7) j = D 2 j) ∧ D' 1 1 = 0 ∧ ∀ a j, a ≠ 1 → a ≠ aF 0 f + 9 + 2 * D (aF 0 f) 7 → a ≠ aF 0 f + 10 + 2 * D (aF 0 f) 7 → ¬ (a = aF 0 f ∧ j = 7) → D' a j = D a j
theorem c_state {f : Int} (h0 : shR c D 0) (ht : 0 ≤ D 1 1 ∧ D 1 1 ≤ 4000) (hg : 0 ≤ D (-1) 0 ∧ D (-1) 0 < 599000) (hT : stC D f → D (aF 0 f) 7 < 4 → D (aF 0 f) 9 = 0 → ∀ D', pstP D D' f → K D' (D (aF 0 f) 7 + 1)) (hF : ¬ stC D f → E (bump (rclear D 1)) 90) (hN : stC D f → ¬ (D (aF 0 f) 7 < 4 ∧ D (aF 0 f) 9 = 0) → E (bump (rclear D 1)) 91) : WP sc 7 0 D [(0, (1200, 0)), (1, (0, f))] [] K E := by
  have hn := h0.1
  rw [show (5 : Int) + 975 * 0 = 5 from rfl] at hn
  have l2 : ln (1 + 1) = 4000 := rfl
  have eF : aF 0 f = 7 + 17 * f := by unfold aF; omega
  have e1 : (rclear D 1) (-1) 0 = D (-1) 0 := by unfold rclear; rw [wr_ne (by omega), wr_ne (by omega)]
  have no : ¬ stC D f → WP sc 89 0 D [(0, (1207, 1))] [] (fun D4 _ => D4 (-1) 0 < 599000 ∧ E (wr D4 (-1) 0 (D4 (-1) 0 + 1)) 90) (fun D4 e6 => E D4 e6) := fun h => c_clear ⟨by rw [e1]; exact hg.2, hF h⟩
  refine v7_0 (c_famAt (s := 0) (Or.inl rfl) (by rw [show (5 : Int) + 975 * 0 = 5 from rfl]; omega) (fun h => ?_) (fun h => ?_))
  · rw [show (5 : Int) + 975 * 0 = 5 from rfl] at h
    have hfa := h0.2.1 f h.1 (by rw [show (5 : Int) + 975 * 0 = 5 from rfl]; omega)
    have h7 := hfa.2.2.2.2.2.1
    rw [if_neg (by omega)]
    split
    · rename_i hk
      refine c_text (by rw [l2]; omega) (by omega) (by omega) (fun hx => ?_) (fun hx => ?_)
      · rw [if_neg (by omega)]
        refine c_hasSt (s := 0) (Or.inl rfl) (by omega) (by omega) (fun k x y => by have := (h7.2.2.2.2 k x y).1; unfold rowm at this; omega) (by rw [l2]; omega) (fun he => ?_) (fun he => ?_)
        · rw [if_neg (by omega)]
          exact no (fun w => w.2.2.2 he)
        · have hst : stC D f := ⟨h, hk, hx, he⟩
          rw [if_pos rfl]
          have full : ¬ (D (aF 0 f) 7 < 4 ∧ D (aF 0 f) 9 = 0) → WP sc 89 0 D [(0, (1207, 1))] [] (fun D4 _ => D4 (-1) 0 < 599000 ∧ E (wr D4 (-1) 0 (D4 (-1) 0 + 1)) 91) (fun D4 e6 => E D4 e6) := fun q => c_clear ⟨by rw [e1]; exact hg.2, hN hst q⟩
          split
          · rename_i h4
            intro _
            split
            · rename_i hu
              have l10 := ln_st (s := 0) (f := f) (k := D (aF 0 f) 7) (Or.inl rfl) (by omega) (by omega)
              refine v71_0 ?_
              rw [if_pos h4, ln_sts (s := 0) (Or.inl rfl) (by omega), show aF 0 f + 8 + 1 + 2 * D (aF 0 f) 7 = aF 0 f + 9 + 2 * D (aF 0 f) 7 from by omega]
              have hx2 := hx.2.1
              refine ⟨by omega, c_bec (by omega) (by rw [l2]; omega) (by rw [show aF 0 f + 9 + 2 * D (aF 0 f) 7 + 1 = aF 0 f + 10 + 2 * D (aF 0 f) 7 from by omega, l10]; omega) (by omega) (by rw [show aF 0 f + 9 + 2 * D (aF 0 f) 7 + 1 = aF 0 f + 10 + 2 * D (aF 0 f) 7 from by omega, l10]; omega) (fun D1 hb => ?_)⟩
              obtain ⟨b1, b2, b3, b4, b5⟩ := hb
              rw [show aF 0 f + 9 + 2 * D (aF 0 f) 7 + 1 = aF 0 f + 10 + 2 * D (aF 0 f) 7 from by omega] at b4
              have f7 : D1 (aF 0 f) 7 = D (aF 0 f) 7 := b5 _ _ (by omega) (by omega)
              rw [f7, w32_id (by omega) (by omega)]
              refine c_clear ?_
              have hp : pstP D (rclear (wr D1 (aF 0 f) 7 (D (aF 0 f) 7 + 1)) 1) f := by
                unfold rclear
                refine ⟨?_, ?_, fun j x y => ?_, ?_, fun a j u1 u2 u3 u4 => ?_⟩
                · rw [wr_ne (by omega), wr_ne (by omega), wr_self]
                · rw [wr_ne (by omega), wr_ne (by omega), wr_ne (by omega), b1]; omega
                · rw [wr_ne (by omega), wr_ne (by omega), wr_ne (by omega), b4 j x (by omega)]
                  rw [show (0 : Int) + j = j from by omega]
                  rfl
                · rw [wr_ni (by omega), wr_self]
                · rw [wr_ne u1, wr_ne u1]
                  simp only [wr]
                  rw [if_neg u4]
                  exact b5 a j u2 (by omega)
              have := hT hst h4 hu _ hp
              rw [show (rclear (wr D1 (aF 0 f) 7 (D (aF 0 f) 7 + 1)) 1) (aF 0 f) 7 = D (aF 0 f) 7 + 1 from hp.1]
              exact this
            · rename_i hu
              exact full (fun w => hu w.2)
          · rename_i h4
            exact full (fun w => h4 w.1)
      · rw [if_pos rfl]
        exact no (fun w => hx w.2.2.1)
    · rename_i hk
      exact no (fun w => hk w.2.1)
  · rw [if_pos rfl]
    rw [show (5 : Int) + 975 * 0 = 5 from rfl] at h
    exact no (fun w => h w.1)
end STA
