/-! exemplars: labels taken, an exemplar kept -/
section EXM
variable {sc : Nat × (Nat → Int32)} {D D' : tD} {K : tD → Int → Prop} {E : tD → Nat → Prop} {c : Int}
/-- the tape tells an exemplar's labels -/
def exG (T : Int → Int) (n : Int) (S : List (List Int)) : Prop := tkP T n 0 2 [] S ∧ (S.flatten.length : Int) - 2 * (S.length : Int) ≤ 40
theorem tape_b (hok : okD D) (hR : RL RSc D c) : (0 ≤ D 1977 2 ∧ D 1977 2 ≤ 4000 ∧ D 1 1 = D 1977 2) ∧ ∀ j, 0 ≤ j → j < D 1977 2 → rat D 1 j = D 1978 j ∧ (-128 ≤ D 2 j ∧ D 2 j ≤ 127) ∧ 0 ≤ D 1978 j ∧ D 1978 j ≤ 255 := by
  obtain ⟨q1, q2, q3, q4⟩ := hR.1
  refine ⟨⟨q2, q3, q1⟩, fun j x y => ?_⟩
  have a1 := q4 j x y
  rw [show (1 : Int) + 1 = 2 from rfl, show (0 : Int) + j = j from by omega] at a1
  have a2 := okD_byte hok (a := 2) (j := j) (by omega) (by decide +kernel) ⟨x, by rw [show ln 2 = 4000 from rfl]; omega⟩
  refine ⟨?_, a2, by omega, by omega⟩
  unfold rat
  rw [if_pos ⟨x, by omega⟩]
  exact a1
theorem c_takeT {most : Int} (hok : okD D) (hR : RL RSc D c) (hm : 0 ≤ most ∧ most ≤ 3) (hT : ∀ S D', tkP (D 1978) (D 1977 2) 0 most [] S → lsIs D' 1974 S → srtL S → (∀ a j, a < 1974 ∨ 1976 < a → D' a j = D a j) → K D' 1) (hF : ∀ D', (¬ ∃ S, tkP (D 1978) (D 1977 2) 0 most [] S) → (∀ a j, a < 1974 ∨ 1976 < a → D' a j = D a j) → K D' 0) : WP sc 79 0 D [(0, (1205, 1974)), (1, (1207, 1)), (2, (0, most))] [] K E := by
  obtain ⟨⟨t1, t2, t3⟩, tb⟩ := tape_b hok hR
  refine c_take (T := D 1978) (n := D 1977 2) t3 (by rw [show ln (1 + 1) = 4000 from rfl]; omega) (by omega) (fun j u v => (tb j u v).1) (fun j u v => (tb j u v).2.1) hm (by rw [show ln (1974 + 2) = 88 from rfl]; omega) (by omega) (fun S D' h1 h2 h3 h4 => hT S D' h1 h2 h3 (fun a j u => h4 a j (by omega) (by omega) (by omega))) (fun D' h1 h4 => hF D' h1 (fun a j u => h4 a j (by omega) (by omega) (by omega)))
theorem c_tex (hok : okD D) (hR : RL RSc D c) (hT : ∀ S D', exG (D 1978) (D 1977 2) S → lsIs D' 1974 S → srtL S → D' 1 1 = 0 → (∀ a j, a ≠ 1 → a < 1974 ∨ 1976 < a → D' a j = D a j) → K D' 1) (hF : ∀ D', (¬ ∃ S, exG (D 1978) (D 1977 2) S) → D' 1 1 = 0 → (∀ a j, a ≠ 1 → a < 1974 ∨ 1976 < a → D' a j = D a j) → K D' 0) : WP sc 29 0 D [(0, (1200, 0))] [] K E := by
  have cl1 : ∀ D1 : tD, rclear D1 1 1 1 = 0 := fun D1 => by unfold rclear; rw [wr_ni (by omega), wr_self]
  have cl2 : ∀ (D1 : tD) a j, a ≠ 1 → rclear D1 1 a j = D1 a j := fun D1 a j u => by unfold rclear; rw [wr_ne u, wr_ne u]
  refine v29_0 (c_takeT hok hR (by omega) (fun S D1 h1 h2 h3 h4 => ?_) (fun D1 h1 h4 => ?_))
  · rw [if_neg (by omega)]
    refine v78_0 ?_
    have lS := tkP_len h1
    have lf := fl_le S h2.2.2.2
    rw [h2.1, h2.2.1, w32_id (x := 2 * (S.length : Int)) (by omega) (by omega), w32_id (by omega) (by omega)]
    split
    · rename_i hgt
      refine c_clear (hF _ (fun ⟨S', w1, w2⟩ => ?_) (cl1 _) (fun a j u v => by rw [cl2 _ _ _ u, h4 a j v]))
      rw [tkP_uni h1 w1] at hgt
      omega
    · rename_i hle
      refine c_clear (hT S _ ⟨h1, by omega⟩ ?_ h3 (cl1 _) (fun a j u v => by rw [cl2 _ _ _ u, h4 a j v]))
      obtain ⟨p1, p2, p3, p4⟩ := h2
      exact ⟨by rw [cl2 _ _ _ (by omega)]; exact p1, by rw [cl2 _ _ _ (by omega)]; exact p2, atL_fr (fun j u v => cl2 _ _ _ (by omega)) p3, p4⟩
  · rw [if_pos rfl]
    exact c_clear (hF _ (fun ⟨S', w1, w2⟩ => h1 ⟨S', w1⟩) (cl1 _) (fun a j u v => by rw [cl2 _ _ _ u, h4 a j v]))
theorem m_msample {N : Int} (hb : ∀ j, 0 ≤ j → j < N → 0 ≤ D 1978 j ∧ D 1978 j ≤ 255) (hN : D 1977 2 = N) (hN4 : 0 ≤ N ∧ N ≤ 4000) (hT : ∀ S D', exG (D 1978) N S → setIs D' S.flatten → D' 1977 2 = 0 → (∀ a j, a < 2009 ∨ 2012 < a → (a = 1977 → j ≠ 37 ∧ j ≠ 2) → D' a j = D a j) → K D' 1) (hF : ∀ D', (¬ ∃ S, exG (D 1978) N S) → D' 1977 2 = 0 → (∀ a j, a < 2009 ∨ 2012 < a → (a = 1977 → j ≠ 37 ∧ j ≠ 2) → D' a j = D a j) → K D' 0) : WP sc 222 0 D [(0, (1211, 1977))] [] K E := by
  have fr : ∀ D1 : tD, frM D D1 → ∀ a j, a < 2009 ∨ 2012 < a → (a = 1977 → j ≠ 37 ∧ j ≠ 2) → (wr D1 1977 2 0) a j = D a j := fun D1 h a j u v => by
    by_cases e : a = 1977
    · rw [wr_ni (v e).2, h a j u (fun _ => (v e).1)]
    · rw [wr_ne e, h a j u (fun w => absurd w e)]
  refine v222_0 (m_marks (lab := 2) hb hN hN4 (by omega) (fun S D1 h1 h2 h3 => ?_) (fun D1 h1 h3 => ?_))
  · refine c_within (fun hw => ?_) (fun hw => ?_)
    · refine tbl_of (Or.inr rfl) (hT S _ ⟨h1, by omega⟩ ⟨by rw [wr_ni (by omega)]; exact h2.1, atL_fr (fun j u v => wr_ne (by omega)) h2.2⟩ wr_self (fr D1 h3))
    · refine tbl_of (Or.inl rfl) (hF _ (fun ⟨S', w1, w2⟩ => ?_) wr_self (fr D1 h3))
      rw [tkP_uni h1 w1] at hw
      obtain ⟨g, g1, g2, g3⟩ := w1
      have l1 := insAll_len g3
      have l3 : ∀ {g : List (Int × Int)} {s : Int}, prsT (D 1978) N g s → prsQ (D 1978) N g s := by
        intro g
        induction g with
        | nil => intro s _; trivial
        | cons q g ih => intro s h; exact ⟨h.1, ih h.2⟩
      have l4 := labs_len (l3 g1)
      have l5 := endG_le (l3 g1) (by omega) hN4.1
      refine hw ⟨?_, w2⟩
      have z1 := l1.1
      have z2 := l1.2
      simp only [List.length_nil, List.flatten_nil] at z1 z2
      omega
  · refine c_within (fun hw => by omega) (fun hw => tbl_of (Or.inl rfl) (hF _ (fun ⟨S', w1, w2⟩ => h1 ⟨S', w1⟩) wr_self (fr D1 h3)))
/-- a set becomes another -/
theorem c_lsbec {a0 a1 : Int} {S : List (List Int)} (hS : lsIs D a1 S) (hl : (S.flatten.length : Int) ≤ ln (a0 + 2) ∧ ln (a0 + 2) ≤ 20000 ∧ (S.flatten.length : Int) ≤ ln (a1 + 2)) (hne : a1 + 2 < a0 ∨ a0 + 2 < a1) (hK : ∀ D', lsIs D' a0 S → (∀ a j, a < a0 ∨ a0 + 2 < a → D' a j = D a j) → (∀ j, j ≠ 1 → D' a0 j = D a0 j) → K D' 0) : WP sc 77 0 D [(0, (1205, a0)), (1, (1205, a1))] [] K E := by
  obtain ⟨s1, s2, s3, s4⟩ := hS
  refine v77_0 ?_
  rw [wr_ne (show a1 + 1 ≠ a0 + 1 by omega), s2]
  refine c_ins (by rw [wr_self]; omega) (by rw [wr_self, show a0 + 1 + 1 = a0 + 2 from by omega]; omega) (by rw [wr_ne (by omega), s2, show a1 + 1 + 1 = a1 + 2 from by omega]; omega) (by rw [show a0 + 1 + 1 = a0 + 2 from by omega]; omega) (by rw [wr_ne (by omega), s2]; omega) (by omega) (fun _ => ?_) (fun hn => absurd (by unfold rinsOk; rw [wr_self, wr_ne (by omega), s2, show a0 + 1 + 1 = a0 + 2 from by omega]; omega) hn)
  have ga : ∀ j, 0 ≤ j → j < (S.flatten.length : Int) → (rins (wr D (a0 + 1) 1 0) (a0 + 1) 0 (a1 + 1) 0 (S.flatten.length : Int)) (a0 + 2) j = D (a1 + 2) j := fun j u v => by
    unfold rins
    rw [wr_ne (by omega), show a0 + 1 + 1 = a0 + 2 from by omega]
    show (if a0 + 2 = a0 + 2 ∧ 0 ≤ j ∧ j < 0 + ((S.flatten.length : Int) - 0) then tcy _ _ _ _ _ _ (a1 + 1 + 1) (0 + (j - 0)) else _) = _
    rw [if_pos ⟨rfl, by omega, by omega⟩, tcy_ne (by omega), wr_ne (by omega), show a1 + 1 + 1 = a1 + 2 from by omega, show 0 + (j - 0) = j from by omega]
  have gb : ∀ a j, a ≠ a0 + 1 → a ≠ a0 + 2 → (rins (wr D (a0 + 1) 1 0) (a0 + 1) 0 (a1 + 1) 0 (S.flatten.length : Int)) a j = D a j := fun a j u v => by
    unfold rins
    rw [wr_ne u, tcy_ne (by omega), tcy_ne (by omega), wr_ne u]
  have gd : (rins (wr D (a0 + 1) 1 0) (a0 + 1) 0 (a1 + 1) 0 (S.flatten.length : Int)) (a0 + 1) 1 = (S.flatten.length : Int) := by
    unfold rins
    rw [wr_self, wr_self]; omega
  rw [gb a1 1 (by omega) (by omega), s1]
  generalize rins (wr D (a0 + 1) 1 0) (a0 + 1) 0 (a1 + 1) 0 (S.flatten.length : Int) = D1 at *
  refine hK _ ⟨wr_self, by rw [wr_ne (by omega)]; exact gd, atL_mov (D := D) (a := a1 + 2) (o := 0) (fun j u v => ?_) s3, s4⟩ (fun a j u => by rw [wr_ne (by omega), gb a j (by omega) (by omega)]) (fun j u => by rw [wr_ni u, gb _ _ (by omega) (by omega)])
  rw [wr_ne (by omega), show (0 : Int) + j = j from by omega]
  exact ga j u v
theorem ln_ex_n : ((List.range 48).all fun k => (List.range 7).all fun b => Nat.beq (tln (170 + 975 * (k / 24) + 34 * (k % 24) + 4 * b)) 44) = true := by decide +kernel
theorem ln_ex {s k b : Int} (hs : s = 0 ∨ s = 1) (hk : 0 ≤ k ∧ k < 24) (hb : 0 ≤ b ∧ b < 7) : ln (aX s k b + 3) = 44 := by
  have h := nbeq.mp (List.all_eq_true.mp (List.all_eq_true.mp ln_ex_n (24 * s + k).toNat (List.mem_range.mpr (by omega))) b.toNat (List.mem_range.mpr (by omega)))
  unfold ln
  rw [show (aX s k b + 3).toNat = 170 + 975 * ((24 * s + k).toNat / 24) + 34 * ((24 * s + k).toNat % 24) + 4 * b.toNat from by unfold aX; omega]
  rw [h]
  rfl
end EXM
