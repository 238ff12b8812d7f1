/-! reading: a sample's line, both sides -/
section SLN
variable {sc : Nat × (Nat → Int32)} {D D' D1 A A' A1 A0 D0 : tD} {K : tD → Int → Prop} {E : tD → Nat → Prop} {T : Int → Int} {n c : Int}
theorem l_sline {a B : Int} (hR0 : RC c T n a B D A0) (hokA : okD A0) (hB : B ≤ 90000) (h68 : D 1968 0 = 1966) (h5 : lbE T n a ≠ a) (hK : ∀ D' r, (r = 0 ∨ r = 1) → frZ D D' → Sim sc 271 c T n a B r D D' → K D' r) : WP sc 133 0 D [(0, (1209, 1956))] [] (fun D10 r11 => if r11 = 0 then (K D10 0) else (WP sc 146 0 D10 [(0, (1209, 1956))] [] (fun D13 r14 => if r14 = 0 then (K D13 0) else (WP sc 149 0 D13 [(0, (1209, 1956))] [] (fun D16 r17 => if r17 = 0 then (K D16 0) else (K D16 1)) E)) E)) E := by
  refine wp_sc (fun hsc => wp_ok (fun hok => v133_0 ?_))
  refine l_front hok hR0 hB h5 (fun D' z' s' => ?_) (fun D1 p f k w q l pa pn z1 h10 P1 => ?_)
  · first
      | exact hK D' 0 (Or.inl rfl) z' s'
      | (rw [if_pos rfl]; exact hK D' 0 (Or.inl rfl) z' s')
      | (rw [if_pos rfl, if_pos rfl]; exact hK D' 0 (Or.inl rfl) z' s')
  obtain ⟨kd, hkd⟩ : ∃ kd, D1 (aF 1 f) 5 = kd := ⟨_, rfl⟩
  rw [hkd] at P1 h10
  refine s_bound (kd := kd) P1 (Pre_ex P1 hR0 hokA hsc) hkd (by rw [z1 _ _ (by omega)]; exact h68) (fun D' z' s' => ?_) (fun D2 z2 k2 t2 P2 => ?_)
  · first
      | exact hK D' 0 (Or.inl rfl) (frZ_tr z1 z') s'
      | (rw [if_pos rfl]; exact hK D' 0 (Or.inl rfl) (frZ_tr z1 z') s')
      | (rw [if_pos rfl, if_pos rfl]; exact hK D' 0 (Or.inl rfl) (frZ_tr z1 z') s')
  rw [if_neg (show ¬ (1 : Int) = 0 by decide)]
  refine wp_ok (fun hok2 => ?_)
  refine s_state (kd := kd) hok2 P2 (Pre_ex P2 hR0 hokA hsc) k2 (fun D' z' s' => ?_) (fun D3 z3 k3 t3 P3 => ?_)
  · first
      | exact hK D' 0 (Or.inl rfl) (frZ_tr z1 (frZ_tr z2 z')) s'
      | (rw [if_pos rfl]; exact hK D' 0 (Or.inl rfl) (frZ_tr z1 (frZ_tr z2 z')) s')
      | (rw [if_pos rfl, if_pos rfl]; exact hK D' 0 (Or.inl rfl) (frZ_tr z1 (frZ_tr z2 z')) s')
  rw [if_neg (show ¬ (1 : Int) = 0 by decide)]
  refine s_value (kd := kd) P3 (Pre_ex P3 hR0 hokA hsc) k3 (fun D' z' s' => ?_) (fun D4 p4 pp4 pn4 z4 k4 t4 P4 => ?_)
  · first
      | exact hK D' 0 (Or.inl rfl) (frZ_tr z1 (frZ_tr z2 (frZ_tr z3 z'))) s'
      | (rw [if_pos rfl]; exact hK D' 0 (Or.inl rfl) (frZ_tr z1 (frZ_tr z2 (frZ_tr z3 z'))) s')
      | (rw [if_pos rfl, if_pos rfl]; exact hK D' 0 (Or.inl rfl) (frZ_tr z1 (frZ_tr z2 (frZ_tr z3 z'))) s')
  rw [if_neg (show ¬ (1 : Int) = 0 by decide), if_neg (show ¬ (1 : Int) = 0 by decide)]
  refine s_exem (kd := kd) P4 (Pre_ex P4 hR0 hokA hsc) k4 (fun D' z' s' => ?_) (fun D5 p5 pp5 pn5 z5 k5 t5 P5 => ?_)
  · first
      | exact hK D' 0 (Or.inl rfl) (frZ_tr z1 (frZ_tr z2 (frZ_tr z3 (frZ_tr z4 z')))) s'
      | (rw [if_pos rfl]; exact hK D' 0 (Or.inl rfl) (frZ_tr z1 (frZ_tr z2 (frZ_tr z3 (frZ_tr z4 z')))) s')
      | (rw [if_pos rfl, if_pos rfl]; exact hK D' 0 (Or.inl rfl) (frZ_tr z1 (frZ_tr z2 (frZ_tr z3 (frZ_tr z4 z')))) s')
  rw [if_neg (show ¬ (1 : Int) = 0 by decide)]
  have zz : frZ D D5 := frZ_tr z1 (frZ_tr z2 (frZ_tr z3 (frZ_tr z4 z5)))
  refine s_end (kd := kd) (by omega) P5 (Pre_ex P5 hR0 hokA hsc) k5 (by rw [t5, t4, t3, t2]; exact h10) (fun D' z' s' => ?_) (fun D' z' s' => ?_)
  · first
      | exact hK D' 0 (Or.inl rfl) (frZ_tr zz z') s'
      | (rw [if_pos rfl]; exact hK D' 0 (Or.inl rfl) (frZ_tr zz z') s')
      | (rw [if_pos rfl, if_pos rfl]; exact hK D' 0 (Or.inl rfl) (frZ_tr zz z') s')
  · rw [if_neg (show ¬ (1 : Int) = 0 by decide)]; exact hK D' 1 (Or.inr rfl) (frZ_tr zz z') s'
/-- no name at all: the class -/
theorem l_nline {a B : Int} (hR0 : RC c T n a B D A0) (h5 : lbE T n a = a) (hK : ∀ D', frZ D D' → D' 1957 2 = 1 → D' 1957 3 = a → K D' 0) {K2 : tD → Prop} : WP sc 133 0 D [(0, (1209, 1956))] [] (fun D10 r11 => if r11 = 0 then (K D10 0) else K2 D10) E := by
  have hc := hR0.1.1
  have cc := hc.2
  have z17 : frZ D (wr D 1956 17 0) := frZ_wr (by omega)
  have hcW : cu (wr D 1956 17 0) 1957 1 T n a := cu_frZ hc cc.2.1 (by rw [wr_ne (by omega)]; exact hc.1.2) z17
  have eo : ∀ fam w, snO n a (lbE T n a) fam w = (1, a) := fun fam w => by
    unfold snO
    rw [if_pos h5]
  have s8 : 0 ≤ D 980 4 ∧ D 980 4 ≤ 8 := by
    have g := hR0.2.1.1.1.2
    rw [mx_lo (by omega)] at g
    exact g
  have w17 : ∀ x j, ¬ (x = 1956 ∧ j = 17) → (wr D 1956 17 0) x j = D x j := fun x j u => by
    by_cases y : x = 1956
    · subst y; exact wr_ni (by omega)
    · exact wr_ne y
  refine wp_ok (fun hok => v133_0 ?_)
  have fin : ∀ F, ((wr D 1956 17 0) 1956 5 = -1 ∨ ((wr D 1956 17 0) 1956 5 = F ∧ 0 ≤ F ∧ F + 2 < 1956 ∧ 0 ≤ (wr D 1956 17 0) (F + 1) 1 ∧ (wr D 1956 17 0) (F + 1) 1 ≤ 24 ∧ ln (F + 2) = 24)) → ((wr D 1956 17 0) 1956 5 = -1 ∨ (0 ≤ (wr D 1956 17 0) 1956 10 ∧ (wr D 1956 17 0) 1956 10 ≤ 6)) → WP sc 134 0 (wr D 1956 17 0) [(0, (1209, 1956))] [] (fun D1 r2 => if r2 = 0 then (if (0 : Int) = 0 then (K D1 0) else K2 D1) else (WP sc 137 0 D1 [(0, (1209, 1956))] [] (fun D4 r5 => if r5 = 0 then (if (0 : Int) = 0 then (K D4 0) else K2 D4) else (WP sc 138 0 D4 [(0, (1209, 1956))] [] (fun D7 r8 => if r8 = 0 then (if (0 : Int) = 0 then (K D7 0) else K2 D7) else (WP sc 139 0 D7 [(0, (1209, 1956))] [] (fun D10 r11 => if r11 = 0 then (if (0 : Int) = 0 then (K D10 0) else K2 D10) else (WP sc 142 0 D10 [(0, (1209, 1956))] [] (fun D13 r14 => if r14 = 0 then (if (0 : Int) = 0 then (K D13 0) else K2 D13) else (WP sc 143 0 D13 [(0, (1209, 1956))] [] (fun D16 r17 => if r17 = 0 then (if (0 : Int) = 0 then (K D16 0) else K2 D16) else (if (1 : Int) = 0 then (K D16 0) else K2 D16)) E)) E)) E)) E)) E)) E := fun F hF hd => by
    refine t_sname (F := F) hcW hF hd (fun e0 => ?_) (fun e0 D' d1 d2 d3 => ?_)
    · rw [eo] at e0
      exact absurd (show (1 : Int) = 0 from e0) (by decide)
    · rw [eo] at d1 d2
      rw [if_pos rfl, if_pos rfl]
      exact hK D' (frZ_tr z17 d3) d1 d2
  rcases hR0.2.2.2.2.2.2.2 with g | ⟨g1, g2, g3, g4, g5⟩
  · have e5 : (wr D 1956 17 0) 1956 5 = -1 := by rw [w17 _ _ (by omega)]; exact g.2.2.1
    exact fin 982 (Or.inl e5) (Or.inl e5)
  · have fa := hR0.2.1.1.2.1 (D 980 4 - 1) (by omega) (by rw [mx_lo (by omega)]; show D 980 4 - 1 < D 980 4; omega)
    obtain ⟨nF, n1, n2, n3, n4⟩ := RC_name hok ⟨by omega, by omega⟩ fa
    have aFb := aF1 (D 980 4 - 1)
    have l1 := n1.1
    have l24 := n1.2.2.1
    refine fin (aF 1 (D 980 4 - 1)) (Or.inr ⟨by rw [w17 _ _ (by omega)]; exact g2, by omega, by omega, by rw [w17 _ _ (by omega)]; omega, by rw [w17 _ _ (by omega)]; omega, n1.2.2.2.1⟩) (Or.inr ?_)
    rw [w17 _ _ (by omega)]
    rcases g5 with g | ⟨k, g⟩
    · rw [g.2.2.2.1, fpt_w]; exact ⟨wnt_b.1, wnt_b.2.1⟩
    · rw [g.2.2.2.1]; exact ⟨wnt_b.1, wnt_b.2.1⟩
end SLN
