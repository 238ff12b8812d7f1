/-! reading labels: the class's side, values and the set -/
section LBD
variable {sc : Nat × (Nat → Int32)} {D D' : tD} {K : tD → Int → Prop} {E : tD → Nat → Prop} {T : Int → Int} {n : Int}
def vlP (D D' : tD) (T : Int → Int) (n v : Int) : Prop := cu D' 1957 1 T n ((es T n v).1 + 1) ∧ (D' 1958 8 = v ∧ wo D' 1964 (es T n v).2.1 ∧ ((es T n v).2.1.length : Int) ≤ 20) ∧ ∀ y j, ¬ (y = 1957 ∧ j = 1) → ¬ (y = 1958 ∧ j = 8) → y ≠ 1964 → y ≠ 1965 → D' y j = D y j
theorem vlP_frY {v : Int} (h : vlP D D' T n v) : frY D D' := fun y j u => h.2.2 y j (by omega) (by omega) (by omega) (by omega)
/-- what stands behind the escaped bytes of a value -/
theorem t_lval1 {v m : Int} (h : cu D 1957 1 T n v) (hm : m ≤ 20) (hT : (lbV T n v m).1 = 0 → ∀ D', vlP D D' T n v → K D' 1) (hF : (lbV T n v m).1 ≠ 0 → ∀ D', D' 1957 2 = (lbV T n v m).1 → D' 1957 3 = (lbV T n v m).2 → frN D D' → K D' 0) (e1 : (es T n v).2.2 = true) (e2 : pb T n (es T n v).1 = 34) {D1 : tD} (hw : wo D1 1964 (es T n v).2.1) (h1 : D1 1957 1 = (es T n v).1) (hf : ∀ b j, b ≠ 1964 → b ≠ 1964 + 1 → ¬ (b = 1957 ∧ j = 1) → D1 b j = (wr D 1958 8 v) b j) : if m < ((es T n v).2.1.length : Int) then (WP sc 42 0 D1 [(0, (1202, 1957)), (1, (0, 7)), (2, (0, D1 1958 8))] [] (fun D4 r5 => tbl r5 (K D4 r5)) E) else (WP sc 45 0 D1 [(0, (1202, 1957)), (1, (0, 34))] [] (fun D7 r8 => tbl r8 (K D7 r8)) E) := by
  have c := h.2
  have eb := es_bnd (T := T) (n := n) (a := v) ⟨c.2.1.1, c.2.1.2⟩
  have d8 : D1 1958 8 = v := by rw [hf _ _ (by omega) (by omega) (by omega), wr_self]
  have f1 : ∀ y j, ¬ (y = 1957 ∧ j = 1) → ¬ (y = 1958 ∧ j = 8) → y ≠ 1964 → y ≠ 1965 → D1 y j = D y j := fun y j u1 u2 u3 u4 => by
    rw [hf y j u3 (by omega) u1]
    by_cases z : y = 1958
    · subst z; exact wr_ni (by omega)
    · exact wr_ne z
  have fy : frY D D1 := fun y j u => f1 y j (by omega) (by omega) (by omega) (by omega)
  have hc := cu_frY h (b := (es T n v).1) ⟨by omega, eb.2.1⟩ h1 fy
  by_cases z : m < ((es T n v).2.1.length : Int)
  · rw [if_pos z, d8]
    have en : lbV T n v m = (7, v) := by unfold lbV; rw [if_neg (fun w => w ⟨e1, e2⟩), if_pos z]
    rw [en] at hF
    exact t_fail (hF (show (7 : Int) ≠ 0 from by decide) _ (by rw [wr_ni (by omega), wr_self]) wr_self (frN_tr fy frN_fl))
  · rw [if_neg z]
    have en : lbV T n v m = (0, (es T n v).1 + 1) := by unfold lbV; rw [if_neg (fun w => w ⟨e1, e2⟩), if_neg z]
    rw [en] at hT
    refine t_expect hc (fun _ => ?_) (fun w => absurd e2 w)
    refine tbl_of (Or.inr rfl) (hT rfl _ ⟨?_, ⟨?_, ?_, by omega⟩, fun y j u1 u2 u3 u4 => ?_⟩)
    · exact cu_wr hc ⟨by omega, by have := pb_lt e2 (by omega); omega⟩
    · rw [wr_ne (by omega)]; exact d8
    · exact wo_fr (fun j => wr_ne (by omega)) (fun j => wr_ne (by omega)) hw
    · by_cases y7 : y = 1957
      · subst y7; rw [wr_ni (by omega)]; exact f1 _ _ u1 u2 u3 u4
      · rw [wr_ne y7]; exact f1 _ _ u1 u2 u3 u4
theorem t_lvalB {v : Int} (h : cu D 1957 1 T n v) {m : Int} (hF : (lbV T n v m).1 ≠ 0 → ∀ D', D' 1957 2 = (lbV T n v m).1 → D' 1957 3 = (lbV T n v m).2 → frN D D' → K D' 0) (hn : ¬ ((es T n v).2.2 = true ∧ pb T n (es T n v).1 = 34)) {D1 : tD} (h2 : D1 1957 2 = 1) (h3 : D1 1957 3 = (es T n v).1) (hf : ∀ b j, b ≠ 1964 → b ≠ 1964 + 1 → ¬ (b = 1957 ∧ (j = 1 ∨ j = 2 ∨ j = 3)) → D1 b j = (wr D 1958 8 v) b j) : K D1 0 := by
  have en : lbV T n v m = (1, (es T n v).1) := by unfold lbV; rw [if_pos hn]
  rw [en] at hF
  refine hF (show (1 : Int) ≠ 0 from by decide) _ h2 h3 (fun y j u => ?_)
  rw [hf y j (by omega) (by omega) (by omega)]
  exact wr_ne (by omega)
theorem t_lval {v m F kd : Int} (h : cu D 1957 1 T n v) (hF2 : D F 5 = kd) (hF3 : F < 1957 ∧ 0 ≤ F) (hm : (m = 20 ∧ D 1958 9 = 1 ∧ kd = 2) ∨ (m = 12 ∧ ¬ (D 1958 9 = 1 ∧ kd = 2))) (hT : (lbV T n v m).1 = 0 → ∀ D', vlP D D' T n v → K D' 1) (hF : (lbV T n v m).1 ≠ 0 → ∀ D', D' 1957 2 = (lbV T n v m).1 → D' 1957 3 = (lbV T n v m).2 → frN D D' → K D' 0) : WP sc 86 0 D [(0, (1206, 1958)), (1, (1204, F))] [] K E := by
  have c := h.2
  refine v86_0 ?_
  rw [h.1.2]
  have h0 : cu (wr D 1958 8 v) 1957 1 T n v := cu_frY h c.2.1 (by rw [wr_ne (by omega)]; exact h.1.2) (frY_wr (by omega))
  refine t_esc (Or.inl rfl) ⟨by omega, by omega, by omega, by omega, by omega⟩ ⟨by show (0 : Int) ≤ 20; decide, by show (20 : Int) ≤ 20000; decide⟩ h0 (fun e1 e2 D1 hw h1 hf => ?_) (fun hn D1 h2 h3 hf => ?_)
  · rw [if_neg (by omega)]
    intro hx
    have g := t_lval1 (sc := sc) (E := E) h (m := m) (by omega) hT hF e1 e2 hw h1 hf
    have d9 : D1 1958 9 = D 1958 9 := by rw [hf _ _ (by omega) (by omega) (by omega), wr_ni (by omega)]
    have d5 : D1 F 5 = kd := by rw [hf _ _ (by omega) (by omega) (by omega), wr_ne (by omega)]; exact hF2
    rw [d9] at hx ⊢
    rw [d5]
    by_cases z : D 1958 9 = 0
    · rw [if_pos z]
      rw [show m = 12 from by omega] at g
      exact g
    · rw [if_neg z]
      by_cases z2 : kd = 2
      · rw [if_pos z2]
        rw [show m = 20 from by omega] at g
        exact g
      · rw [if_neg z2]
        rw [show m = 12 from by omega] at g
        exact g
  · rw [if_pos (by omega)]
    exact t_lvalB h hF hn h2 h3 hf
theorem t_lvalN {v m : Int} (h : cu D 1957 1 T n v) (hm : m = 12) (h9 : D 1958 9 = 0) (hT : (lbV T n v m).1 = 0 → ∀ D', vlP D D' T n v → K D' 1) (hF : (lbV T n v m).1 ≠ 0 → ∀ D', D' 1957 2 = (lbV T n v m).1 → D' 1957 3 = (lbV T n v m).2 → frN D D' → K D' 0) : WP sc 86 0 D [(0, (1206, 1958)), (1, (2, 0))] [] K E := by
  have c := h.2
  refine v86n_0 ?_
  rw [h.1.2]
  have h0 : cu (wr D 1958 8 v) 1957 1 T n v := cu_frY h c.2.1 (by rw [wr_ne (by omega)]; exact h.1.2) (frY_wr (by omega))
  refine t_esc (Or.inl rfl) ⟨by omega, by omega, by omega, by omega, by omega⟩ ⟨by show (0 : Int) ≤ 20; decide, by show (20 : Int) ≤ 20000; decide⟩ h0 (fun e1 e2 D1 hw h1 hf => ?_) (fun hn D1 h2 h3 hf => ?_)
  · rw [if_neg (by omega)]
    intro hx
    have g := t_lval1 (sc := sc) (E := E) h (m := m) (by omega) hT hF e1 e2 hw h1 hf
    have d9 : D1 1958 9 = D 1958 9 := by rw [hf _ _ (by omega) (by omega) (by omega), wr_ni (by omega)]
    rw [d9, if_pos h9]
    rw [hm] at g
    exact g
  · rw [if_pos (by omega)]
    exact t_lvalB h hF hn h2 h3 hf
/-! putting a label behind the others -/
theorem plcL_end {x : List Int} : ∀ {S : List (List Int)}, (∀ y ∈ S, ncmp y x < 0) → insL x S = some (S ++ [x]) ∧ plcL x S = (S.flatten.length : Int) := by
  intro S
  induction S with
  | nil => intro _; exact ⟨rfl, rfl⟩
  | cons y r ih =>
    intro h
    have h1 := h y List.mem_cons_self
    have h2 := ncmp_neg x y
    obtain ⟨i1, i2⟩ := ih (fun z hz => h z (List.mem_cons_of_mem _ hz))
    unfold insL plcL
    rw [if_neg (by omega), if_neg (by omega), if_neg (by omega), i1, i2]
    refine ⟨rfl, ?_⟩
    rw [List.flatten_cons, List.length_append]
    omega
theorem plcL_inv {x : List Int} : ∀ {S S' : List (List Int)}, (∀ y ∈ S, 1 ≤ y.length) → insL x S = some S' → plcL x S = (S.flatten.length : Int) → ∀ y ∈ S, ncmp y x < 0 := by
  intro S
  induction S with
  | nil => intro S' _ _ _ y hy; exact absurd hy (by simp)
  | cons z r ih =>
    intro S' hl h1 h2 y hy
    have hz := hl z List.mem_cons_self
    unfold insL at h1
    unfold plcL at h2
    rw [List.flatten_cons, List.length_append] at h2
    by_cases e0 : ncmp x z = 0
    · rw [if_pos e0] at h1; exact absurd h1 (by simp)
    rw [if_neg e0] at h1
    by_cases e1 : ncmp x z < 0
    · rw [if_pos e1] at h2; omega
    rw [if_neg e1] at h1 h2
    have hn := ncmp_neg x z
    cases hr : insL x r with
    | none => rw [hr] at h1; exact absurd h1 (by simp)
    | some r' =>
      rcases List.mem_cons.mp hy with e | e
      · rw [e]; omega
      · exact ih (fun w hw => hl w (List.mem_cons_of_mem _ hw)) hr (by omega) y e
theorem w8_map {l : List Int} (h : ∀ b ∈ l, 0 ≤ b ∧ b ≤ 127) : l.map w8 = l := by
  induction l with
  | nil => rfl
  | cons b r ih =>
    rw [List.map_cons, ih (fun z hz => h z (List.mem_cons_of_mem _ hz))]
    have := h b List.mem_cons_self
    rw [show w8 b = b from by unfold w8; omega]
theorem txt_w8 {l : List Int} (h : ∀ b ∈ l, txt b) : l.map w8 = l := w8_map (fun b hb => by have := h b hb; unfold txt at this; omega)
theorem lbL_len {a b : Int} : (lbL T a b).length = (b - a).toNat := spn_len
theorem lnT_nmL {a b : Int} (h : lnT T a b) : nmL (lbL T a b) := by
  obtain ⟨h1, h2, h3, h4, h5⟩ := h
  have hl : (lbL T a b).length = (b - a).toNat := lbL_len
  have g0 : (lbL T a b).getD 0 0 = T a := by
    unfold lbL
    rw [show (b - a).toNat = (b - a - 1).toNat + 1 from by omega]
    rfl
  refine ⟨by omega, by omega, fun x hx => ?_, by rw [g0]; exact h3, ?_⟩
  · obtain ⟨j, u, v, w⟩ := spn_mem hx
    rw [w]
    exact h4 j u (by omega)
  · rw [g0]
    by_cases z : b - a < 2
    · refine Or.inr ?_
      unfold lbL
      rw [show (b - a).toNat = 1 from by omega]
      show (1 : Int) ≠ 95
      decide
    · rcases h5 with h5 | h5 | h5
      · exact absurd h5 z
      · exact Or.inl h5
      · refine Or.inr ?_
        unfold lbL
        rw [show (b - a).toNat = (b - a - 2).toNat + 1 + 1 from by omega]
        exact h5
/-- the extra value that was read -/
def exC (D : tD) (ex : Option (Int × List Int)) : Prop := (ex = none ∧ D 1958 5 = -1) ∨ ∃ p l, ex = some (p, l) ∧ 0 ≤ p ∧ D 1958 5 = p ∧ rl D 1966 l ∧ (l.length : Int) ≤ 20 ∧ ∀ b ∈ l, txt b
theorem exC_fr {ex : Option (Int × List Int)} (h : exC D ex) (h1 : D' 1958 5 = D 1958 5) (h2 : ∀ x j, x = 1966 ∨ x = 1967 → D' x j = D x j) : exC D' ex := by
  rcases h with ⟨e1, e2⟩ | ⟨p, l, e1, e2, e3, e4, e5⟩
  · exact Or.inl ⟨e1, by rw [h1]; exact e2⟩
  · exact Or.inr ⟨p, l, e1, e2, by rw [h1]; exact e3, rl_fr (fun j => h2 _ _ (Or.inl rfl)) (fun j => h2 _ _ (Or.inr rfl)) e4, e5⟩
theorem exC_n {ex : Option (Int × List Int)} (h : exC D ex) : D 1958 5 < 0 ↔ ex = none := by
  rcases h with ⟨e1, e2⟩ | ⟨p, l, e1, e2, e3, _⟩
  · exact ⟨fun _ => e1, fun _ => by omega⟩
  · exact ⟨fun w => by omega, fun w => by rw [w] at e1; exact absurd e1 (by simp)⟩
end LBD
