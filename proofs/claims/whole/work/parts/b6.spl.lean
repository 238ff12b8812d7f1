/-! reading a sample: is a bound written as its number is -/
section SPL
variable {sc : Nat × (Nat → Int32)} {D D' A A' : tD} {K : tD → Int → Prop} {E : tD → Nat → Prop} {T : Int → Int} {n c : Int}
/-- a list as a tape -/
def lf (l : List Int) : Int → Int := fun j => l.getD j.toNat 0
def spV (l : List Int) : Int × Int × Int := nmb (lf l) (l.length : Int) 0
def spP (l : List Int) : Prop := (spV l).1 = 0 ∧ numT (spV l).2.1 = l
theorem atL_lf {a : Int} : ∀ {l : List Int} {o : Int}, atL D a o l → ∀ j, 0 ≤ j → j < (l.length : Int) → D a (o + j) = lf l j := by
  intro l
  induction l with
  | nil => intro o _ j u v; simp at v; omega
  | cons x r ih =>
    intro o h j u v
    by_cases e : j = 0
    · subst e
      rw [show o + 0 = o from by omega, h.1]
      rfl
    · have q := ih h.2 (j - 1) (by omega) (by rw [List.length_cons] at v; omega)
      rw [show o + 1 + (j - 1) = o + j from by omega] at q
      rw [q]
      unfold lf
      rw [show j.toNat = (j - 1).toNat + 1 from by omega]
      rfl
theorem lf_mem {l : List Int} {j : Int} (hj : 0 ≤ j ∧ j < (l.length : Int)) : lf l j ∈ l := by
  unfold lf
  have h : j.toNat < l.length := by omega
  rw [List.getD_eq_getElem?_getD, List.getElem?_eq_getElem h]
  exact List.getElem_mem h
theorem nmV_rng {a : Int} (h : (nmb T n a).1 = 0) (ha : 0 ≤ a ∧ a ≤ n) : 0 ≤ nmV T n a ∧ nmV T n a ≤ mostN := by
  have srng : a ≤ nmS T n a ∧ nmS T n a ≤ n := by
    unfold nmS
    by_cases e : pb T n a = 45
    · rw [if_pos e]; have := pb_lt e (by omega); omega
    · rw [if_neg e]; omega
  have wrng := ru_b (s := 2) (T := T) (n := n) (a := nmS T n a) srng.2
  have win := ru_in (s := 2) (T := T) (n := n) (a := nmS T n a) srng.2
  have eW : nmW T n a = ru 2 T n (nmS T n a) := rfl
  rw [← eW] at wrng win
  unfold nmb at h
  by_cases z1 : nmW T n a = nmS T n a
  · rw [if_pos z1] at h; exact absurd (show (1 : Int) = 0 from h) (by decide)
  rw [if_neg z1] at h
  by_cases z2 : pb T n (nmW T n a) = 46 ∧ nmR T n a = nmW T n a + 1
  · rw [if_pos z2] at h; exact absurd (show (1 : Int) = 0 from h) (by decide)
  rw [if_neg z2] at h
  by_cases z3 : 12 < nmW T n a - nmS T n a ∨ (pb T n (nmW T n a) = 46 ∧ 3 < nmR T n a - nmW T n a - 1)
  · rw [if_pos z3] at h; exact absurd (show (11 : Int) = 0 from h) (by decide)
  have z31 : ¬ 12 < nmW T n a - nmS T n a := fun w => z3 (Or.inl w)
  have vb := dvl_b (T := T) (a := nmS T n a) (nmW T n a - nmS T n a).toNat (fun j u v => by have := win j u (by omega); rw [srt_iff] at this; omega)
  have vp := p10_le (m := (nmW T n a - nmS T n a).toNat) (n := 12) (by omega)
  rw [show p10 12 = 1000000000000 from by decide] at vp
  have mn : mostN = 999999999999999 := rfl
  unfold nmV
  rw [mn]
  by_cases e46 : pb T n (nmW T n a) = 46
  · rw [if_pos e46]
    have wn := pb_lt e46 (by omega)
    have eR : nmR T n a = ru 2 T n (nmW T n a + 1) := by unfold nmR; rw [if_pos e46]
    have rb := ru_b (s := 2) (T := T) (n := n) (a := nmW T n a + 1) (by omega)
    have rin := ru_in (s := 2) (T := T) (n := n) (a := nmW T n a + 1) (by omega)
    rw [← eR] at rb rin
    have z32 : ¬ 3 < nmR T n a - nmW T n a - 1 := fun w => z3 (Or.inr ⟨e46, w⟩)
    have d1 := dvl_b (T := T) (a := nmW T n a + 1) (nmR T n a - nmW T n a - 1).toNat (fun j u v => by have := rin j u (by omega); rw [srt_iff] at this; omega)
    generalize hk : (nmR T n a - nmW T n a - 1).toNat = k at *
    have k4 : k = 0 ∨ k = 1 ∨ k = 2 ∨ k = 3 := by omega
    have p0 : p10 0 = 1 := rfl
    have p1 : p10 1 = 10 := by decide
    have p2 : p10 2 = 100 := by decide
    have p3 : p10 3 = 1000 := by decide
    rcases k4 with e | e | e | e <;> subst e
    · rw [p0] at d1; rw [show (3 - 0 : Nat) = 3 from rfl, p3]; omega
    · rw [p1] at d1; rw [show (3 - 1 : Nat) = 2 from rfl, p2]; omega
    · rw [p2] at d1; rw [show (3 - 2 : Nat) = 1 from rfl, p1]; omega
    · rw [p3] at d1; rw [show (3 - 3 : Nat) = 0 from rfl, p0]; omega
  · rw [if_neg e46]; omega
theorem nmb_rng {a : Int} (h : (nmb T n a).1 = 0) (ha : 0 ≤ a ∧ a ≤ n) : -mostN ≤ (nmb T n a).2.1 ∧ (nmb T n a).2.1 ≤ mostN := by
  have v := nmV_rng h ha
  unfold nmb at h ⊢
  by_cases z1 : nmW T n a = nmS T n a
  · rw [if_pos z1] at h; exact absurd (show (1 : Int) = 0 from h) (by decide)
  rw [if_neg z1] at h ⊢
  by_cases z2 : pb T n (nmW T n a) = 46 ∧ nmR T n a = nmW T n a + 1
  · rw [if_pos z2] at h; exact absurd (show (1 : Int) = 0 from h) (by decide)
  rw [if_neg z2] at h ⊢
  by_cases z3 : 12 < nmW T n a - nmS T n a ∨ (pb T n (nmW T n a) = 46 ∧ 3 < nmR T n a - nmW T n a - 1)
  · rw [if_pos z3] at h; exact absurd (show (11 : Int) = 0 from h) (by decide)
  rw [if_neg z3]
  show -mostN ≤ (if pb T n a = 45 then -nmV T n a else nmV T n a) ∧ (if pb T n a = 45 then -nmV T n a else nmV T n a) ≤ mostN
  split <;> omega
theorem exO_lt : ∀ (m k : Nat) (w : Int), 0 ≤ w → w < p10 (k + 1) → exO m w ≤ k := by
  intro m
  induction m with
  | zero => intro k w _ _; exact Nat.zero_le _
  | succ m ih =>
    intro k w h0 h1
    unfold exO
    split
    · exact Nat.zero_le _
    · rename_i h
      cases k with
      | zero =>
        have p1 : p10 (0 + 1) = 10 := by decide
        rw [p1] at h1
        exfalso
        omega
      | succ k =>
        have e : p10 (k + 1 + 1) = 10 * p10 (k + 1) := rfl
        have := ih k (w / 10) (by omega) (by omega)
        omega
theorem numT_rng {v b : Int} (hb : b ∈ numT v) : 45 ≤ b ∧ b ≤ 57 := by
  unfold numT whT at hb
  rcases List.mem_append.mp hb with h | h
  · rcases List.mem_append.mp h with h | h
    · split at h
      · rw [List.mem_singleton.mp h]; omega
      · exact absurd h (by simp)
    · have := dgs_rng _ _ h; omega
  · generalize (if v < 0 then -v else v) % 1000 = r at h
    unfold restT at h
    split at h
    · exact absurd h (by simp)
    · rcases List.mem_cons.mp h with h | h
      · omega
      · split at h
        · have := dgs_rng _ _ h; omega
        · split at h
          · have := dgs_rng _ _ h; omega
          · have := dgs_rng _ _ h; omega
theorem numT_17 {v : Int} (h : -mostN ≤ v ∧ v ≤ mostN) : (numT v).length ≤ 17 := by
  have mn : mostN = 999999999999999 := rfl
  rw [mn] at h
  have h1 : (if v < 0 then [(45 : Int)] else []).length ≤ 1 := by split <;> simp
  have h2 := restT_len ((if v < 0 then -v else v) % 1000)
  have h3 := exO_lt 17 11 ((if v < 0 then -v else v) / 1000) (by split <;> omega) (by rw [show p10 (11 + 1) = 1000000000000 from by decide]; split <;> omega)
  unfold numT whT
  rw [List.length_append, List.length_append, dgs_len]
  omega
theorem t_spell {l : List Int} (h0 : D 1968 0 = 1966) (hr : rl D 1966 l) (hl : (l.length : Int) ≤ 20) (ht : ∀ b ∈ l, txt b) (hT : spP l → ∀ D', D' 1968 4 = (spV l).2.1 → (∀ x j, x ≠ 1969 → x ≠ 1970 → (x = 1968 → j = 0) → D' x j = D x j) → K D' 1) (hF : ¬ spP l → ∀ D', (∀ x j, x ≠ 1969 → x ≠ 1970 → (x = 1968 → j = 0) → D' x j = D x j) → K D' 0) : WP sc 141 0 D [(0, (1209, 1956))] [] K E := by
  have l20 : ln (1966 + 1) = 20 := rfl
  have s20 : ln (1969 + 1) = 20 := rfl
  obtain ⟨r1, r2⟩ := hr
  rw [txt_w8 ht] at r2
  refine v141_0 (v41_0 ?_)
  generalize hD1 : wr (wr (wr D 1968 1 0) 1968 2 0) 1968 3 (-1) = D1
  have o1 : ∀ x j, (x = 1968 → j = 0 ∨ j = 4) → D1 x j = D x j := fun x j u => by
    rw [← hD1]
    by_cases e : x = 1968
    · subst e
      have := u rfl
      rw [wr_ni (by omega), wr_ni (by omega), wr_ni (by omega)]
    · rw [wr_ne e, wr_ne e, wr_ne e]
  have bt : ∀ j, 0 ≤ j → j < (l.length : Int) → D 1967 j = lf l j ∧ txt (lf l j) := fun j u v => by
    have q := atL_lf r2 j u v
    rw [show (0 : Int) + j = j from by omega] at q
    exact ⟨q, ht _ (lf_mem ⟨u, v⟩)⟩
  have hc : cu D1 1968 1966 (lf l) (l.length : Int) 0 := by
    refine ⟨⟨by rw [o1 _ _ (by omega)]; exact h0, by rw [← hD1, wr_ni (by omega), wr_ni (by omega), wr_self]⟩, ⟨by rw [o1 _ _ (by omega)]; exact r1, by rw [l20]; exact hl, by omega, by omega⟩, ⟨by omega, by omega⟩, ⟨by omega, by omega⟩, fun j u v => ?_⟩
    obtain ⟨q1, q2⟩ := bt j u v
    unfold txt at q2
    refine ⟨?_, by omega, by omega⟩
    unfold rat
    rw [o1 _ _ (by omega), r1, if_pos ⟨u, v⟩, o1 _ _ (by omega)]
    show D 1967 j % 256 = _
    rw [q1]
    omega
  refine t_num hc (fun e => ?_) (fun e D2 q1 q2 q3 => ?_)
  · rw [if_neg (by omega)]
    have rg0 := nmb_rng e ⟨by omega, by omega⟩
    have n17 := numT_17 rg0
    have mn : mostN = 999999999999999 := rfl
    have rg : -1000000000000000000 ≤ (nmb (lf l) (l.length : Int) 0).2.1 ∧ (nmb (lf l) (l.length : Int) 0).2.1 ≤ 1000000000000000000 := by rw [mn] at rg0; omega
    generalize hD2 : wr (wr D1 1968 1 (nmb (lf l) (l.length : Int) 0).2.2) 1968 4 (nmb (lf l) (l.length : Int) 0).2.1 = D2
    have o2 : ∀ x j, (x = 1968 → j = 0) → D2 x j = D x j := fun x j u => by
      rw [← hD2]
      by_cases y : x = 1968
      · subst y
        have := u rfl
        rw [wr_ni (by omega), wr_ni (by omega)]
        exact o1 _ _ (by omega)
      · rw [wr_ne y, wr_ne y]; exact o1 _ _ (by omega)
    have v4 : D2 1968 4 = (spV l).2.1 := by rw [← hD2, wr_self]; rfl
    refine c_clear ?_
    have c4 : (rclear D2 1969) 1968 4 = (spV l).2.1 := by unfold rclear; rw [wr_ne (by omega), wr_ne (by omega)]; exact v4
    rw [c4]
    refine c_wnum (by rw [s20]; omega) rg (wo_clear (by rw [s20]; omega)) (fun D3 w3 f3 => ?_)
    rw [List.nil_append] at w3
    have o3 : ∀ x j, x ≠ 1969 → x ≠ 1970 → (x = 1968 → j = 0) → D3 x j = D x j := fun x j u1 u2 u3 => by
      rw [f3 x j u1 u2]
      unfold rclear
      rw [wr_ne u1, wr_ne u1]
      exact o2 x j u3
    have v34 : D3 1968 4 = (spV l).2.1 := by rw [f3 _ _ (by omega) (by omega)]; exact c4
    have d66 : D3 1966 1 = (l.length : Int) := by rw [o3 _ _ (by omega) (by omega) (by omega)]; exact r1
    have n17' : (numT (spV l).2.1).length ≤ 17 := n17
    have wi := wo_in w3 (by rw [s20]; omega)
    have x66 : atL D3 1967 0 l := atL_fr (fun j _ _ => o3 _ _ (by omega) (by omega) (by omega)) r2
    have wi2 : atL D3 1970 0 (numT (spV l).2.1) := by
      have q := wi.2
      rw [w8_map (fun b hb => by have := numT_rng hb; omega)] at q
      exact q
    have key : eqr D3 1969 1966 ↔ numT (spV l).2.1 = l := by
      unfold eqr
      rw [wi.1, d66]
      refine ⟨fun ⟨h1, h2⟩ => ?_, fun h1 => ⟨by rw [h1], fun j u v => ?_⟩⟩
      · have e1 := atL_spn wi2
        have e2 := atL_spn x66
        have e3 : spn (D3 1970) 0 (numT (spV l).2.1).length = spn (D3 1967) 0 l.length := by
          rw [show l.length = (numT (spV l).2.1).length from by omega]
          refine spn_ext (fun j u v => ?_)
          rw [show (0 : Int) + j = j from by omega]
          exact h2 j u v
        exact (e1.trans e3).trans e2.symm
      · rw [h1] at wi2
        have q := atL_eq wi2 x66 j u (by rw [h1] at v; exact v)
        rw [show (0 : Int) + j = j from by omega] at q
        exact q
    refine c_like w3.1.2 (by rw [d66, l20]; exact hl) (by have := w3.1.2; rw [s20] at this; omega) (fun q => ?_) (fun q => ?_)
    · exact tbl_of (Or.inr rfl) (hT ⟨e, key.mp q⟩ D3 v34 o3)
    · exact tbl_of (Or.inl rfl) (hF (fun w => q (key.mpr w.2)) D3 o3)
  · rw [if_pos rfl]
    refine hF (fun w => e w.1) D2 (fun x j u1 u2 u3 => ?_)
    have y3 : x ≠ 1968 ∨ j = 0 ∨ j = 4 := by
      by_cases y : x = 1968
      · exact Or.inr (Or.inl (u3 y))
      · exact Or.inl y
    rw [q3 x j y3]
    exact o1 x j (fun y => Or.inl (u3 y))
end SPL
