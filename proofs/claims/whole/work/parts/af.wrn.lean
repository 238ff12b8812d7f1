/-! the writer of the other side: children -/
section WRN
variable {sc : Nat × (Nat → Int32)} {D D0 B D' : tD} {K : tD → Int → Prop} {E : tD → Nat → Prop} {c s fl : Int} {L : List Int}
theorem q_more2 {f i : Int} (hf : 0 ≤ f ∧ f < 16) (hi : 0 ≤ i ∧ i < 4) (hz : 0 ≤ D0 1990 (4 * f + i) ∧ D0 1990 (4 * f + i) ≤ 12) (hn : (L ++ (slX D0 f i).flatMap (escT true) ++ [34]).length ≤ 1000000000) (hK : ∀ D', ms D0 B D' (L ++ (slX D0 f i).flatMap (escT true) ++ [34]) → K D' 0) : ∀ (t p : List Int) (D : tD), slX D0 f i = p ++ t → ms D0 B D (L ++ p.flatMap (escT true)) → WP sc 240 94 D [(0, (1211, 1977)), (1, (0, f)), (3, (0, i)), (4, (0, (p.length : Int)))] [] K E := by
  have hlen : ((slX D0 f i).length : Int) = D0 1990 (4 * f + i) := by unfold slX; rw [spn_len]; omega
  have hat0 : atL D0 1989 (12 * (4 * f + i)) (slX D0 f i) := spn_at (fun j _ _ => rfl)
  intro t
  induction t with
  | nil =>
    intro p D hp h
    rw [List.append_nil] at hp
    refine v240_94 ?_
    rw [w32_id (x := 4 * f) (by omega) (by omega), w32_id (x := 4 * f + i) (by omega) (by omega), h.2.2 1990 _ (by omega), if_neg (by rw [← hlen, hp]; omega)]
    rw [← hp] at h
    exact ⟨by omega, q_push h (by simp only [List.length_append] at hn ⊢; omega) hK⟩
  | cons b t ih =>
    intro p D hp h
    have ll : ((slX D0 f i).length : Int) = (p.length : Int) + (t.length : Int) + 1 := by rw [hp, List.length_append, List.length_cons]; omega
    have hat : D0 1989 (12 * (4 * f + i) + (p.length : Int)) = b := by
      rw [hp, atL_app] at hat0
      exact hat0.2.1
    refine v240_94 ?_
    rw [w32_id (x := 4 * f) (by omega) (by omega), w32_id (x := 4 * f + i) (by omega) (by omega), h.2.2 1990 _ (by omega), if_pos (by omega), w32_id (x := 12 * (4 * f + i)) (by omega) (by omega), w32_id (x := 12 * (4 * f + i) + (p.length : Int)) (by omega) (by omega), h.2.2 1989 _ (by omega), hat, w32_id (x := (p.length : Int) + 1) (by omega) (by omega)]
    have hl : (L ++ p.flatMap (escT true)).length ≤ 1000000000 := by
      rw [hp] at hn
      simp only [List.flatMap_append, List.length_append] at hn ⊢
      omega
    refine ⟨by omega, by omega, q_esc (q := true) h hl (fun D1 h1 => ?_)⟩
    have q := ih (p ++ [b]) D1 (by rw [hp]; simp) (by simpa [List.flatMap_append, List.append_assoc] using h1)
    rw [List.length_append, List.length_singleton] at q
    exact q
/-- what the other side's writer needs of a family -/
def mfa (D0 : tD) (f : Int) : Prop := (0 ≤ f ∧ f < 16) ∧ (0 ≤ D0 1982 f ∧ D0 1982 f ≤ 24) ∧ (0 ≤ D0 1984 f ∧ D0 1984 f ≤ 8) ∧ (0 ≤ D0 1986 f ∧ D0 1986 f ≤ 40) ∧ (0 ≤ D0 1980 f ∧ D0 1980 f ≤ 4) ∧ (0 ≤ D0 1988 f ∧ D0 1988 f ≤ 6) ∧ (∀ k, 0 ≤ k → k < D0 1988 f → -999999999999999 ≤ D0 1987 (6 * f + k) ∧ D0 1987 (6 * f + k) ≤ 999999999999999) ∧ (0 ≤ D0 1991 f ∧ D0 1991 f ≤ 4) ∧ ∀ k, 0 ≤ k → k < D0 1991 f → 0 ≤ D0 1990 (4 * f + k) ∧ D0 1990 (4 * f + k) ≤ 12
/-- what is one more: 1 a bound, 2 a state -/
def moX (D : tD) (f more i : Int) : List Int := if more = 0 then [] else if more = 1 then leX D f i else stX D f i
theorem q_more {f more i : Int} (hF : mfa D0 f) (hm : more = 1 ∨ more = 2) (h1 : more = 1 → 0 ≤ i ∧ i ≤ D0 1988 f) (h2 : more = 2 → 0 ≤ i ∧ i < D0 1991 f) (h : ms D0 B D L) (hn : (L ++ moX D0 f more i).length ≤ 1000000000) (hK : ∀ D', ms D0 B D' (L ++ moX D0 f more i) → K D' 0) : WP sc 240 0 D [(0, (1211, 1977)), (1, (0, f)), (2, (0, more)), (3, (0, i))] [] K E := by
  obtain ⟨f1, f2, f3, f4, f5, f6, f7, f8, f9⟩ := hF
  have l81 : ln 1981 = 384 := rfl
  unfold moX at hn hK
  rw [if_neg (by omega)] at hn hK
  refine v240_0 ?_
  by_cases e : more = 1
  · rw [if_pos e] at hn hK ⊢
    have hi := h1 e
    unfold leX at hn hK
    refine q_word (by omega) h (by simp only [List.length_append] at hn ⊢; omega) (fun D1 g1 => q_push g1 (by simp only [List.length_append] at hn ⊢; omega) (fun D2 g2 => q_push g2 (by simp only [List.length_append, List.length_cons, List.length_nil] at hn ⊢; omega) (fun D3 g3 => ?_)))
    rw [if_pos e, g3.2.2 1988 f (by omega)]
    refine ⟨f1, ?_⟩
    by_cases e2 : i = D0 1988 f
    · rw [if_pos e2] at hn hK ⊢
      exact q_word (by omega) g3 (by simp only [List.length_append, List.length_cons, List.length_nil] at hn ⊢; omega) (fun D4 g4 => q_push g4 (by simp only [List.length_append, List.length_cons, List.length_nil] at hn ⊢; omega) (fun D5 g5 => hK D5 (by simpa [List.append_assoc] using g5)))
    · rw [if_neg e2] at hn hK ⊢
      have := f7 i hi.1 (by omega)
      rw [if_pos e, w32_id (x := 6 * f) (by omega) (by omega), w32_id (x := 6 * f + i) (by omega) (by omega), g3.2.2 1987 _ (by omega)]
      exact ⟨by omega, q_num (by omega) g3 (by simp only [List.length_append, List.length_cons, List.length_nil] at hn ⊢; omega) (fun D4 g4 => q_push g4 (by simp only [List.length_append, List.length_cons, List.length_nil] at hn ⊢; omega) (fun D5 g5 => hK D5 (by simpa [List.append_assoc] using g5)))⟩
  · rw [if_neg e] at hn hK ⊢
    have hi := h2 (by omega)
    unfold stX at hn hK
    rw [w32_id (x := 24 * f) (by omega) (by omega), h.2.2 1982 f (by omega)]
    refine ⟨f1, q_bytes (by omega) (by rw [l81]; omega) h (by simp only [List.length_append] at hn ⊢; omega) (fun D1 g1 => q_push g1 (by unfold nmX at hn; simp only [List.length_append] at hn ⊢; omega) (fun D2 g2 => q_push g2 (by unfold nmX at hn; simp only [List.length_append, List.length_cons, List.length_nil] at hn ⊢; omega) (fun D3 g3 => ?_)))⟩
    rw [if_neg e, if_neg e]
    exact q_more2 (L := L ++ (nmX D0 f ++ [61, 34])) f1 (by omega) (f9 i hi.1 hi.2) (by simp only [List.length_append] at hn ⊢; omega) (fun D4 g4 => hK D4 (by simpa [List.append_assoc] using g4)) _ [] D3 rfl (by unfold nmX; simpa [List.append_assoc] using g3)
/-- what the other side's writer needs of a child -/
def mch (D0 : tD) (f x : Int) : Prop := (0 ≤ x ∧ x < 48 ∧ D0 1995 x = f) ∧ (0 ≤ D0 1998 x ∧ D0 1998 x ≤ 66) ∧ okl false (lbX D0 x) ∧ (-999999999999999 ≤ D0 1999 x ∧ D0 1999 x ≤ 999999999999999) ∧ (-1 ≤ D0 2000 x ∧ D0 2000 x ≤ 2000000000000000) ∧ (0 ≤ D0 2001 x ∧ D0 2001 x ≤ 15) ∧ (∀ b, 0 ≤ b → b < 7 → (0 ≤ D0 2002 (7 * x + b) ∧ D0 2002 (7 * x + b) ≤ 1000000001000) ∧ (D0 1988 f < b → D0 2002 (7 * x + b) = 0)) ∧ ∀ b, 0 ≤ b → b < 7 → D0 2003 (7 * x + b) = 1 → (-999999999999999 ≤ D0 2004 (7 * x + b) ∧ D0 2004 (7 * x + b) ≤ 999999999999999) ∧ (0 ≤ D0 2005 (7 * x + b) ∧ D0 2005 (7 * x + b) ≤ 2000000000000000) ∧ (0 ≤ D0 2007 (7 * x + b) ∧ D0 2007 (7 * x + b) ≤ 44) ∧ okl false (elX D0 (7 * x + b))
theorem q_head {f x w more i : Int} (hF : mfa D0 f) (hC : mch D0 f x) (hw : 0 ≤ w ∧ w < 18) (hm : more = 0 ∨ more = 1 ∨ more = 2) (h1 : more = 1 → 0 ≤ i ∧ i ≤ D0 1988 f) (h2 : more = 2 → 0 ≤ i ∧ i < D0 1991 f) (h : ms D0 B D L) (hn : (L ++ smT (nmX D0 f) (wdl w) (lbX D0 x) (moX D0 f more i)).length ≤ 1000000000) (hK : ∀ D', ms D0 B D' (L ++ smT (nmX D0 f) (wdl w) (lbX D0 x) (moX D0 f more i)) → K D' 0) : WP sc 239 0 D [(0, (1211, 1977)), (1, (0, x)), (2, (0, w)), (3, (0, more)), (4, (0, i))] [] K E := by
  obtain ⟨⟨x1, x2, x3⟩, c2, c3, _⟩ := hC
  have l81 : ln 1981 = 384 := rfl
  have l97 : ln 1997 = 3168 := rfl
  have f1 := hF.1
  have f2 := hF.2.1
  have hlen : ((lbX D0 x).length : Int) = D0 1998 x := by unfold lbX; rw [spn_len]; omega
  have mo0 : moX D0 f more i = [] ↔ more = 0 := by
    unfold moX
    constructor
    · intro e
      by_cases z : more = 0
      · exact z
      · rw [if_neg z] at e
        by_cases z1 : more = 1
        · rw [if_pos z1] at e; exact absurd e leX_ne
        · rw [if_neg z1] at e; exact absurd e stX_ne
    · intro e; rw [if_pos e]
  refine v239_0 ⟨by omega, ?_⟩
  rw [h.2.2 1995 x (by omega), x3, w32_id (x := 24 * f) (by omega) (by omega), h.2.2 1982 f (by omega), w32_id (x := 66 * x) (by omega) (by omega)]
  unfold smT at hn hK
  refine ⟨f1, q_bytes (by omega) (by rw [l81]; omega) h (by simp only [List.length_append] at hn ⊢; omega) (fun D1 g1 => q_word hw g1 (by unfold nmX at hn; simp only [List.length_append] at hn ⊢; omega) (fun D2 g2 => ⟨by omega, ?_⟩))⟩
  have g2' : ms D0 B D2 (L ++ (nmX D0 f ++ wdl w)) := by unfold nmX; simpa [List.append_assoc] using g2
  clear g1 g2
  rw [g2'.2.2 1998 x (by omega)]
  /- the labels, with what stands behind them -/
  have lab : ¬ (lbX D0 x = [] ∧ moX D0 f more i = []) → WP sc 231 0 D2 [(0, (1211, 1977)), (1, (0, 123))] [] (fun D7 _ => (0 ≤ x ∧ x < 48) ∧ (WP sc 238 0 D7 [(0, (1211, 1977)), (1, (1000, 1997)), (2, (0, 66 * x)), (3, (0, D7 1998 x))] [] (fun D10 _ => (0 ≤ x ∧ x < 48) ∧ (if 0 < D10 1998 x then (if 0 < more then (WP sc 231 0 D10 [(0, (1211, 1977)), (1, (0, 44))] [] (fun D13 _ => if 0 < more then (WP sc 240 0 D13 [(0, (1211, 1977)), (1, (0, f)), (2, (0, more)), (3, (0, i))] [] (fun D16 _ => WP sc 231 0 D16 [(0, (1211, 1977)), (1, (0, 125))] [] (fun D19 _ => WP sc 231 0 D19 [(0, (1211, 1977)), (1, (0, 32))] [] (fun D22 _ => K D22 0) E) E) E) else (WP sc 231 0 D13 [(0, (1211, 1977)), (1, (0, 125))] [] (fun D25 _ => WP sc 231 0 D25 [(0, (1211, 1977)), (1, (0, 32))] [] (fun D28 _ => K D28 0) E) E)) E) else (if 0 < more then (WP sc 240 0 D10 [(0, (1211, 1977)), (1, (0, f)), (2, (0, more)), (3, (0, i))] [] (fun D31 _ => WP sc 231 0 D31 [(0, (1211, 1977)), (1, (0, 125))] [] (fun D34 _ => WP sc 231 0 D34 [(0, (1211, 1977)), (1, (0, 32))] [] (fun D37 _ => K D37 0) E) E) E) else (WP sc 231 0 D10 [(0, (1211, 1977)), (1, (0, 125))] [] (fun D40 _ => WP sc 231 0 D40 [(0, (1211, 1977)), (1, (0, 32))] [] (fun D43 _ => K D43 0) E) E))) else (if 0 < more then (WP sc 240 0 D10 [(0, (1211, 1977)), (1, (0, f)), (2, (0, more)), (3, (0, i))] [] (fun D46 _ => WP sc 231 0 D46 [(0, (1211, 1977)), (1, (0, 125))] [] (fun D49 _ => WP sc 231 0 D49 [(0, (1211, 1977)), (1, (0, 32))] [] (fun D52 _ => K D52 0) E) E) E) else (WP sc 231 0 D10 [(0, (1211, 1977)), (1, (0, 125))] [] (fun D55 _ => WP sc 231 0 D55 [(0, (1211, 1977)), (1, (0, 32))] [] (fun D58 _ => K D58 0) E) E)))) E)) E := fun hne => by
    rw [if_neg hne] at hn hK
    have e7 : ∀ {D7 : tD} {M : List Int}, ms D0 B D7 M → D7 1998 x = D0 1998 x := fun g => g.2.2 1998 x (by omega)
    refine q_push g2' (by simp only [List.length_append, List.length_cons] at hn ⊢; omega) (fun D3 g3 => ⟨by omega, ?_⟩)
    rw [e7 g3]
    refine q_lab (by omega) (by rw [l97]; omega) c3 g3 (by unfold lbX at hn; simp only [List.length_append, List.length_cons, List.length_nil] at hn ⊢; omega) (fun D4 g4 => ⟨by omega, ?_⟩)
    have g4' : ms D0 B D4 (L ++ (nmX D0 f ++ wdl w ++ 123 :: labB (lbX D0 x))) := by simpa [List.append_assoc, lbX] using g4
    clear g3 g4
    rw [e7 g4']
    have fin : ∀ {D5 : tD} {M : List Int}, ms D0 B D5 M → M.length + 2 ≤ 1000000000 → (∀ D', ms D0 B D' (M ++ [125, 32]) → K D' 0) → WP sc 231 0 D5 [(0, (1211, 1977)), (1, (0, 125))] [] (fun D19 _ => WP sc 231 0 D19 [(0, (1211, 1977)), (1, (0, 32))] [] (fun D22 _ => K D22 0) E) E := fun g5 hl hk => q_push g5 (by omega) (fun D6 g6 => q_push g6 (by rw [List.length_append, List.length_singleton]; omega) (fun D7 g7 => hk D7 (by simpa [List.append_assoc] using g7)))
    by_cases em : more = 0
    · rw [mo0.mpr em] at hn hK
      rw [if_pos (Or.inr rfl)] at hn hK
      have fin4 := fin g4' (by simp only [List.length_append, List.length_cons, List.length_nil] at hn ⊢; omega) (fun D' g' => hK D' (by simpa [List.append_assoc] using g'))
      by_cases el : 0 < D0 1998 x
      · rw [if_pos el, if_neg (by omega), if_neg (by omega)]; exact fin4
      · rw [if_neg el, if_neg (by omega)]; exact fin4
    · by_cases el : 0 < D0 1998 x
      · have nl : lbX D0 x ≠ [] := fun e => by rw [e] at hlen; simp at hlen; omega
        rw [if_neg (fun q => by rcases q with q | q; exact nl q; exact em (mo0.mp q))] at hn hK
        rw [if_pos el, if_pos (by omega)]
        refine q_push g4' (by simp only [List.length_append, List.length_cons, List.length_nil] at hn ⊢; omega) (fun D5 g5 => ?_)
        rw [if_pos (by omega)]
        exact q_more hF (by omega) h1 h2 g5 (by simp only [List.length_append, List.length_cons, List.length_nil] at hn ⊢; omega) (fun D6 g6 => fin g6 (by simp only [List.length_append, List.length_cons, List.length_nil] at hn ⊢; omega) (fun D' g' => hK D' (by simpa [List.append_assoc] using g')))
      · have nl : lbX D0 x = [] := List.length_eq_zero_iff.mp (by omega)
        rw [if_pos (Or.inl nl)] at hn hK
        rw [if_neg el, if_pos (by omega)]
        exact q_more hF (by omega) h1 h2 g4' (by simp only [List.length_append, List.length_cons, List.length_nil] at hn ⊢; omega) (fun D6 g6 => fin g6 (by simp only [List.length_append, List.length_cons, List.length_nil] at hn ⊢; omega) (fun D' g' => hK D' (by simpa [List.append_assoc] using g')))
  by_cases el : 0 < D0 1998 x
  · rw [if_pos el]
    exact lab (fun q => by have := q.1; rw [this] at hlen; simp at hlen; omega)
  · rw [if_neg el]
    by_cases em : more = 0
    · rw [if_neg (by omega)]
      rw [if_pos ⟨List.length_eq_zero_iff.mp (by omega), mo0.mpr em⟩] at hn hK
      exact q_push g2' (by simp only [List.length_append] at hn ⊢; omega) (fun D3 g3 => hK D3 (by simpa [List.append_assoc] using g3))
    · rw [if_pos (by omega)]
      exact lab (fun q => em (mo0.mp q.2))
theorem q_ex {f x b : Int} (hC : mch D0 f x) (hb : 0 ≤ b ∧ b < 7) (hfl : fl = 0 ∨ fl = 1) (h : ms D0 B D L) (hn : (L ++ exX D0 fl (7 * x + b)).length ≤ 1000000000) (hK : ∀ D', ms D0 B D' (L ++ exX D0 fl (7 * x + b)) → K D' 0) : WP sc 241 0 D [(0, (1211, 1977)), (1, (0, 7 * x + b)), (2, (0, 1 - fl))] [] K E := by
  have x1 := hC.1
  have hx := hC.2.2.2.2.2.2.2 b hb.1 hb.2
  have l6 : ln 2006 = 14784 := rfl
  unfold exX exT at hn hK
  refine v241_0 ⟨by omega, ?_⟩
  rw [h.2.2 2003 _ (by omega)]
  refine fun h01 => ?_
  by_cases e : D0 2003 (7 * x + b) = 0
  · rw [if_pos e]
    rw [if_neg (fun w => by omega), List.append_nil] at hK
    exact hK D h
  rw [if_neg e]
  by_cases e2 : fl = 0
  · rw [if_pos (by omega)]
    rw [if_neg (fun w => by omega), List.append_nil] at hK
    exact hK D h
  rw [if_neg (by omega)]
  rw [if_pos ⟨by omega, by omega⟩] at hn hK
  obtain ⟨y1, y2, y3, y4⟩ := hx (by omega)
  refine q_push h (by simp only [List.length_append] at hn ⊢; omega) (fun D1 g1 => q_push g1 (by simp only [List.length_append, List.length_cons, List.length_nil] at hn ⊢; omega) (fun D2 g2 => q_push g2 (by simp only [List.length_append, List.length_cons, List.length_nil] at hn ⊢; omega) (fun D3 g3 => q_push g3 (by simp only [List.length_append, List.length_cons, List.length_nil] at hn ⊢; omega) (fun D4 g4 => ⟨by omega, ?_⟩))))
  rw [g4.2.2 2007 _ (by omega), w32_id (x := 44 * (7 * x + b)) (by omega) (by omega)]
  refine q_lab (by omega) (by rw [l6]; omega) y4 g4 (by unfold elX at hn; simp only [List.length_append, List.length_cons, List.length_nil] at hn ⊢; omega) (fun D5 g5 => q_push g5 (by unfold elX at hn; simp only [List.length_append, List.length_cons, List.length_nil] at hn ⊢; omega) (fun D6 g6 => q_push g6 (by unfold elX at hn; simp only [List.length_append, List.length_cons, List.length_nil] at hn ⊢; omega) (fun D7 g7 => ⟨by omega, ?_⟩)))
  rw [g7.2.2 2004 _ (by omega)]
  refine q_num (by omega) g7 (by unfold elX at hn; simp only [List.length_append, List.length_cons, List.length_nil] at hn ⊢; omega) (fun D8 g8 => q_push g8 (by unfold elX at hn; simp only [List.length_append, List.length_cons, List.length_nil] at hn ⊢; omega) (fun D9 g9 => ⟨by omega, ?_⟩))
  rw [g9.2.2 2005 _ (by omega)]
  exact q_num (by omega) g9 (by unfold elX at hn; simp only [List.length_append, List.length_cons, List.length_nil] at hn ⊢; omega) (fun D10 g10 => hK D10 (by unfold elX; simpa [List.append_assoc] using g10))
theorem q_created {f x : Int} (hF : mfa D0 f) (hC : mch D0 f x) (hfl : fl = 0 ∨ fl = 1) (h : ms D0 B D L) (hn : (L ++ crX D0 f x fl).length ≤ 1000000000) (hK : ∀ D', ms D0 B D' (L ++ crX D0 f x fl) → K D' 0) : WP sc 242 0 D [(0, (1211, 1977)), (1, (0, x)), (2, (0, 1 - fl))] [] K E := by
  have x1 := hC.1
  have x5 := hC.2.2.2.2.1
  unfold crX at hn hK
  refine v242_0 ?_
  by_cases e : fl = 0
  · rw [if_pos (by omega)]
    rw [if_neg (fun w => by omega), List.append_nil] at hK
    exact hK D h
  rw [if_neg (by omega), h.2.2 2000 x (by omega)]
  refine ⟨by omega, ?_⟩
  by_cases e2 : D0 2000 x < 0
  · rw [if_pos (tlc_lt.mpr e2)]
    rw [if_neg (fun w => by omega), List.append_nil] at hK
    exact hK D h
  rw [if_neg (fun w => e2 (tlc_lt.mp w))]
  rw [if_pos ⟨by omega, by omega⟩] at hn hK
  unfold lnX at hn hK
  refine q_head (more := 0) (i := 0) hF hC (by omega) (by omega) (by omega) (by omega) h (by unfold moX; rw [if_pos rfl]; simp only [List.length_append] at hn ⊢; omega) (fun D1 g1 => ⟨by omega, ?_⟩)
  unfold moX at g1
  rw [if_pos rfl] at g1
  rw [g1.2.2 2000 x (by omega)]
  exact q_num (by omega) g1 (by simp only [List.length_append] at hn ⊢; omega) (fun D2 g2 => q_push g2 (by simp only [List.length_append] at hn ⊢; omega) (fun D3 g3 => hK D3 (by simpa [List.append_assoc] using g3)))
theorem q_hist1 {f x : Int} (hF : mfa D0 f) (hC : mch D0 f x) (hfl : fl = 0 ∨ fl = 1) {M : List Int} (hn : (M ++ (bkX D0 f x fl (D0 1988 f + 1).toNat 0 0 ++ lnX D0 f x 4 (1000 * sm (fun b => D0 2002 (7 * x + b)) 7) ++ lnX D0 f x 5 (D0 1999 x))).length ≤ 1000000000) (hK : ∀ D', ms D0 B D' (M ++ (bkX D0 f x fl (D0 1988 f + 1).toNat 0 0 ++ lnX D0 f x 4 (1000 * sm (fun b => D0 2002 (7 * x + b)) 7) ++ lnX D0 f x 5 (D0 1999 x))) → K D' 0) : ∀ (q : Nat) (b : Nat) (P : List Int) (D : tD), D0 1988 f + 1 - (b : Int) = (q : Int) → ms D0 B D (M ++ P) → P ++ bkX D0 f x fl q (b : Int) (sm (fun b => D0 2002 (7 * x + b)) b) = bkX D0 f x fl (D0 1988 f + 1).toNat 0 0 → WP sc 243 13 D [(0, (1211, 1977)), (1, (0, x)), (2, (0, 1 - fl)), (3, (0, f)), (4, (1, sm (fun b => D0 2002 (7 * x + b)) b)), (6, (0, (b : Int)))] [] K E := by
  have x1 := hC.1
  have f1 := hF.1
  have f6 := hF.2.2.2.2.2.1
  have hcn := hC.2.2.2.2.2.2.1
  have hnb := hC.2.2.2.1
  intro q
  induction q with
  | zero =>
    intro b P D hq h hP
    have eb : (b : Int) = D0 1988 f + 1 := by omega
    have all : sm (fun b => D0 2002 (7 * x + b)) b = sm (fun b => D0 2002 (7 * x + b)) 7 := by
      rw [show 7 = b + (7 - b) from by omega, sm_add, sm_z (g := fun k => D0 2002 (7 * x + ((b : Int) + k))) (fun k u v => (hcn _ (by omega) (by omega)).2 (by omega))]
      omega
    have bd := sm_bound (g := fun b => D0 2002 (7 * x + b)) (a := 0) (b := 1000000001000) (n := 7) (fun k u v => (hcn k u (by omega)).1)
    rw [show bkX D0 f x fl 0 (b : Int) _ = [] from rfl, List.append_nil] at hP
    refine v243_13 ⟨f1, ?_⟩
    rw [h.2.2 1988 f (by omega), if_pos (by omega), all, w64_id (by omega) (by omega)]
    rw [hP] at h
    unfold lnX at hn hK
    refine q_head (more := 0) (i := 0) hF hC (by omega) (by omega) (by omega) (by omega) h (by unfold moX; rw [if_pos rfl]; simp only [List.length_append] at hn ⊢; omega) (fun D1 g1 => ?_)
    unfold moX at g1
    rw [if_pos rfl] at g1
    refine q_num (by omega) g1 (by simp only [List.length_append] at hn ⊢; omega) (fun D2 g2 => q_push g2 (by simp only [List.length_append] at hn ⊢; omega) (fun D3 g3 => q_head (more := 0) (i := 0) hF hC (by omega) (by omega) (by omega) (by omega) g3 (by unfold moX; rw [if_pos rfl]; simp only [List.length_append] at hn ⊢; omega) (fun D4 g4 => ⟨by omega, ?_⟩)))
    unfold moX at g4
    rw [if_pos rfl] at g4
    rw [g4.2.2 1999 x (by omega)]
    exact q_num (by omega) g4 (by simp only [List.length_append] at hn ⊢; omega) (fun D5 g5 => q_push g5 (by simp only [List.length_append] at hn ⊢; omega) (fun D6 g6 => hK D6 (by simpa [List.append_assoc] using g6)))
  | succ q ih =>
    intro b P D hq h hP
    have hb := hcn (b : Int) (by omega) (by omega)
    have bd := sm_bound (g := fun b => D0 2002 (7 * x + b)) (a := 0) (b := 1000000001000) (n := b) (fun k u v => (hcn k u (by omega)).1)
    have es : sm (fun b => D0 2002 (7 * x + b)) b + D0 2002 (7 * x + (b : Int)) = sm (fun b => D0 2002 (7 * x + b)) (b + 1) := (sm_succ _ _).symm
    refine v243_13 ⟨f1, ?_⟩
    rw [h.2.2 1988 f (by omega), if_neg (by omega), w32_id (x := 7 * x) (by omega) (by omega), w32_id (x := 7 * x + (b : Int)) (by omega) (by omega), h.2.2 2002 _ (by omega), w64_id (x := sm (fun b => D0 2002 (7 * x + b)) b + D0 2002 (7 * x + (b : Int))) (by omega) (by omega), w64_id (x := 1000 * (sm (fun b => D0 2002 (7 * x + b)) b + D0 2002 (7 * x + (b : Int)))) (by omega) (by omega), w32_id (x := (b : Int) + 1) (by omega) (by omega)]
    have eP : bkX D0 f x fl (q + 1) (b : Int) (sm (fun b => D0 2002 (7 * x + b)) b) = smT (nmX D0 f) (wdl 3) (lbX D0 x) (leX D0 f (b : Int)) ++ numT (1000 * (sm (fun b => D0 2002 (7 * x + b)) b + D0 2002 (7 * x + (b : Int)))) ++ exX D0 fl (7 * x + (b : Int)) ++ [10] ++ bkX D0 f x fl q ((b : Int) + 1) (sm (fun b => D0 2002 (7 * x + b)) b + D0 2002 (7 * x + (b : Int))) := rfl
    rw [← hP, eP] at hn
    have m1 : moX D0 f 1 (b : Int) = leX D0 f (b : Int) := by unfold moX; rw [if_neg (by omega), if_pos rfl]
    refine ⟨by omega, q_head (more := 1) (i := (b : Int)) hF hC (by omega) (by omega) (by omega) (by omega) h (by rw [m1]; simp only [List.length_append] at hn ⊢; omega) (fun D1 g1 => ?_)⟩
    rw [m1] at g1
    refine q_num (by omega) g1 (by simp only [List.length_append] at hn ⊢; omega) (fun D2 g2 => q_ex hC (by omega) hfl g2 (by simp only [List.length_append] at hn ⊢; omega) (fun D3 g3 => q_push g3 (by simp only [List.length_append] at hn ⊢; omega) (fun D4 g4 => ?_)))
    have g := ih (b + 1) (P ++ (smT (nmX D0 f) (wdl 3) (lbX D0 x) (leX D0 f (b : Int)) ++ numT (1000 * (sm (fun b => D0 2002 (7 * x + b)) b + D0 2002 (7 * x + (b : Int)))) ++ exX D0 fl (7 * x + (b : Int)) ++ [10])) D4 (by omega) (by simpa [List.append_assoc] using g4) (by
      rw [← hP, eP, ← es]
      simp [List.append_assoc])
    rw [← es] at g
    exact g
theorem bit_n : ∀ v : Fin 16, ∀ k : Fin 4, (tia (tsr (v.val : Int) (k.val : Int)) 1 = 1) = ¬ (tia (v.val : Int) (tsl 1 (k.val : Int)) = 0) := by decide +kernel
theorem bit_2 {v k : Int} (hv : 0 ≤ v ∧ v ≤ 15) (hk : 0 ≤ k ∧ k < 4) : tia (tsr v k) 1 = 1 ↔ ¬ tia v (tsl 1 k) = 0 := by
  have h := bit_n ⟨v.toNat, by omega⟩ ⟨k.toNat, by omega⟩
  rw [show ((v.toNat : Nat) : Int) = v from by omega, show ((k.toNat : Nat) : Int) = k from by omega] at h
  rw [h]
theorem q_st1 {f x : Int} (hF : mfa D0 f) (hC : mch D0 f x) (hfl : fl = 0 ∨ fl = 1) {M : List Int} (hn : (M ++ (ssX D0 f x (D0 1991 f).toNat 0 ++ crX D0 f x fl)).length ≤ 1000000000) (hK : ∀ D', ms D0 B D' (M ++ (ssX D0 f x (D0 1991 f).toNat 0 ++ crX D0 f x fl)) → K D' 0) : ∀ (q : Nat) (k : Int) (P : List Int) (D : tD), D0 1991 f - k = (q : Int) → 0 ≤ k → ms D0 B D (M ++ P) → P ++ ssX D0 f x q k = ssX D0 f x (D0 1991 f).toNat 0 → WP sc 244 143 D [(0, (1211, 1977)), (1, (0, x)), (2, (0, 1 - fl)), (3, (0, f)), (4, (0, k))] [] K E := by
  have x1 := hC.1
  have x6 := hC.2.2.2.2.2.1
  have f1 := hF.1
  have f8 := hF.2.2.2.2.2.2.2.1
  intro q
  induction q with
  | zero =>
    intro k P D hq hk h hP
    rw [show ssX D0 f x 0 k = [] from rfl, List.append_nil] at hP
    refine v244_143 ⟨f1, ?_⟩
    rw [h.2.2 1991 f (by omega), if_neg (by omega)]
    rw [hP] at h
    exact q_created hF hC hfl h (by simp only [List.length_append] at hn ⊢; omega) (fun D1 g1 => hK D1 (by simpa [List.append_assoc] using g1))
  | succ q ih =>
    intro k P D hq hk h hP
    have eP : ssX D0 f x (q + 1) k = smT (nmX D0 f) (wdl 0) (lbX D0 x) (stX D0 f k) ++ [bitX (D0 2001 x) k, 10] ++ ssX D0 f x q (k + 1) := rfl
    have m2 : moX D0 f 2 k = stX D0 f k := by unfold moX; rw [if_neg (by omega), if_neg (by omega)]
    refine v244_143 ⟨f1, ?_⟩
    rw [h.2.2 1991 f (by omega), if_pos (by omega), w32_id (x := k + 1) (by omega) (by omega)]
    rw [← hP, eP] at hn
    refine q_head (more := 2) (i := k) hF hC (by omega) (by omega) (by omega) (by omega) h (by rw [m2]; simp only [List.length_append] at hn ⊢; omega) (fun D1 g1 => ⟨by omega, ?_⟩)
    rw [m2] at g1
    rw [g1.2.2 2001 x (by omega)]
    have go : ∀ {D2 : tD}, ms D0 B D2 (M ++ P ++ smT (nmX D0 f) (wdl 0) (lbX D0 x) (stX D0 f k) ++ [bitX (D0 2001 x) k] ++ [10]) → WP sc 244 143 D2 [(0, (1211, 1977)), (1, (0, x)), (2, (0, 1 - fl)), (3, (0, f)), (4, (0, k + 1))] [] K E := fun {D2} g2 => ih (k + 1) (P ++ (smT (nmX D0 f) (wdl 0) (lbX D0 x) (stX D0 f k) ++ [bitX (D0 2001 x) k, 10])) D2 (by omega) (by omega) (by simpa [List.append_assoc] using g2) (by
      rw [← hP, eP]
      simp [List.append_assoc])
    have hbit := bit_2 (v := D0 2001 x) (k := k) x6 (by omega)
    by_cases e : tia (tsr (D0 2001 x) k) 1 = 1
    · rw [if_pos e]
      refine q_push g1 (by simp only [List.length_append, List.length_cons, List.length_nil] at hn ⊢; omega) (fun D2 g2 => q_push g2 (by simp only [List.length_append, List.length_cons, List.length_nil] at hn ⊢; omega) (fun D3 g3 => go ?_))
      unfold bitX
      rw [if_neg (hbit.mp e)]
      exact g3
    · rw [if_neg e]
      refine q_push g1 (by simp only [List.length_append, List.length_cons, List.length_nil] at hn ⊢; omega) (fun D2 g2 => q_push g2 (by simp only [List.length_append, List.length_cons, List.length_nil] at hn ⊢; omega) (fun D3 g3 => go ?_))
      unfold bitX
      rw [if_pos (Classical.byContradiction (fun w => e (hbit.mpr w)))]
      exact g3
theorem q_child {f x : Int} (hF : mfa D0 f) (hC : mch D0 f x) (hfl : fl = 0 ∨ fl = 1) (h : ms D0 B D L) (hn : (L ++ ckX D0 f x fl).length ≤ 1000000000) (hK : ∀ D', ms D0 B D' (L ++ ckX D0 f x fl) → K D' 0) : WP sc 244 0 D [(0, (1211, 1977)), (1, (0, x)), (2, (0, 1 - fl))] [] K E := by
  have x1 := hC.1
  have f1 := hF.1
  have f5 := hF.2.2.2.2.1
  have hnb := hC.2.2.2.1
  have m0 : moX D0 f 0 0 = [] := by unfold moX; rw [if_pos rfl]
  have n1000 : numT 1000 = [49] := by decide
  unfold ckX bdX at hn hK
  refine v244_0 ⟨by omega, ?_⟩
  rw [h.2.2 1995 x (by omega), x1.2.2, h.2.2 1980 f (by omega)]
  refine ⟨f1, ?_⟩
  have lin : ∀ {w : Int} {D1 : tD} {M : List Int} {R : tD → Prop}, (0 ≤ w ∧ w < 18) → ms D0 B D1 M → (M ++ smT (nmX D0 f) (wdl w) (lbX D0 x) []).length ≤ 1000000000 → (∀ D', ms D0 B D' (M ++ smT (nmX D0 f) (wdl w) (lbX D0 x) []) → R D') → WP sc 239 0 D1 [(0, (1211, 1977)), (1, (0, x)), (2, (0, w)), (3, (0, 0)), (4, (0, 0))] [] (fun D' _ => R D') E := fun {w D1 M R} hw h1 hl hk => q_head (more := 0) (i := 0) hF hC hw (by omega) (by omega) (by omega) h1 (by rw [m0]; exact hl) (fun D2 g2 => hk D2 (by rw [m0] at g2; exact g2))
  by_cases k0 : D0 1980 f = 0
  · rw [if_pos k0] at hn hK ⊢
    refine lin (by omega) h (by simp only [List.length_append] at hn ⊢; omega) (fun D1 g1 => ⟨by omega, ?_⟩)
    rw [g1.2.2 1999 x (by omega), w32_id (x := 7 * x) (by omega) (by omega), show 7 * x = 7 * x + 0 from by omega]
    rw [show 7 * x = 7 * x + 0 from by omega] at hn hK
    exact q_num (by omega) g1 (by simp only [List.length_append] at hn ⊢; omega) (fun D2 g2 => q_ex hC (by omega) hfl g2 (by simp only [List.length_append] at hn ⊢; omega) (fun D3 g3 => q_push g3 (by simp only [List.length_append] at hn ⊢; omega) (fun D4 g4 => q_created hF hC hfl g4 (by simp only [List.length_append] at hn ⊢; omega) (fun D5 g5 => hK D5 (by simpa [List.append_assoc] using g5)))))
  rw [if_neg k0] at hn hK ⊢
  by_cases k1 : D0 1980 f = 1
  · rw [if_pos k1] at hn hK ⊢
    unfold lnX at hn hK
    refine lin (by omega) h (by simp only [List.length_append] at hn ⊢; omega) (fun D1 g1 => ⟨by omega, ?_⟩)
    rw [g1.2.2 1999 x (by omega)]
    exact q_num (by omega) g1 (by simp only [List.length_append] at hn ⊢; omega) (fun D2 g2 => q_push g2 (by simp only [List.length_append] at hn ⊢; omega) (fun D4 g4 => q_created hF hC hfl g4 (by simp only [List.length_append] at hn ⊢; omega) (fun D5 g5 => hK D5 (by simpa [List.append_assoc] using g5))))
  rw [if_neg k1] at hn hK ⊢
  by_cases k2 : D0 1980 f = 2
  · rw [if_pos k2] at hn hK ⊢
    have f6 := hF.2.2.2.2.2.1
    refine v243_0 ⟨by omega, ?_⟩
    rw [h.2.2 1995 x (by omega), x1.2.2]
    have g := q_hist1 (sc := sc) (E := E) (K := fun D13 _ => WP sc 242 0 D13 [(0, (1211, 1977)), (1, (0, x)), (2, (0, 1 - fl))] [] (fun D16 _ => K D16 0) E) (M := L) hF hC hfl (by simp only [List.length_append] at hn ⊢; omega) (fun D1 g1 => q_created hF hC hfl g1 (by simp only [List.length_append] at hn ⊢; omega) (fun D5 g5 => hK D5 (by simpa [List.append_assoc] using g5))) (D0 1988 f + 1).toNat 0 [] D (by omega) (by simpa using h) (by rw [List.nil_append]; rfl)
    exact g
  rw [if_neg k2] at hn hK ⊢
  by_cases k3 : D0 1980 f = 3
  · rw [if_pos k3] at hn hK ⊢
    unfold lnX at hn hK
    rw [n1000] at hn hK
    exact lin (by omega) h (by simp only [List.length_append] at hn ⊢; omega) (fun D1 g1 => q_push g1 (by simp only [List.length_append] at hn ⊢; omega) (fun D2 g2 => q_push g2 (by simp only [List.length_append] at hn ⊢; omega) (fun D4 g4 => q_created hF hC hfl g4 (by simp only [List.length_append] at hn ⊢; omega) (fun D5 g5 => hK D5 (by simpa [List.append_assoc] using g5)))))
  · rw [if_neg k3] at hn hK ⊢
    have f8 := hF.2.2.2.2.2.2.2.1
    exact q_st1 hF hC hfl hn hK (D0 1991 f).toNat 0 [] D (by omega) (by omega) (by simpa using h) (by rw [List.nil_append])
end WRN
