/-! a label's name that a family has for itself: the class's side, the other side -/
section XTR
variable {sc : Nat × (Nat → Int32)} {D D' : tD} {K : tD → Int → Prop} {E : tD → Nat → Prop} {c : Int}
def nmOf (x : List Int) : List Int := x.takeWhile (fun b => !(b == 1))
theorem nmOf_app {w : List Int} : ∀ {n : List Int}, (∀ b ∈ n, b ≠ 1) → nmOf (n ++ 1 :: w) = n := by
  intro n
  induction n with
  | nil => intro _; rfl
  | cons b n ih =>
    intro h
    have hb : b ≠ 1 := h b List.mem_cons_self
    have := ih (fun y hy => h y (List.mem_cons_of_mem _ hy))
    unfold nmOf at this ⊢
    rw [List.cons_append, List.takeWhile_cons, this, if_pos (by simp [hb])]
theorem lbl_nm {x : List Int} (h : lbl x) : ∃ w, x = nmOf x ++ 1 :: w ∧ nmL (nmOf x) ∧ ∀ b ∈ nmOf x, b ≠ 1 := by
  obtain ⟨n, v, rfl, hn, hv⟩ := h
  have h1 : ∀ b ∈ n, b ≠ 1 := fun b hb => by have := srt4_ge (hn.2.2.1 b hb); omega
  have e : nmOf (n ++ 1 :: (v ++ [2])) = n := nmOf_app h1
  rw [e]
  exact ⟨v ++ [2], rfl, hn, h1⟩
theorem atL_lst {D D' : tD} {a a' : Int} : ∀ {l m : List Int} {o o' : Int}, atL D a o l → atL D' a' o' m → l.length = m.length → (∀ j, 0 ≤ j → j < (l.length : Int) → D a (o + j) = D' a' (o' + j)) → l = m := by
  intro l
  induction l with
  | nil =>
    intro m o o' _ _ hl _
    cases m with
    | nil => rfl
    | cons _ _ => simp at hl
  | cons x l ih =>
    intro m o o' h1 h2 hl h
    cases m with
    | nil => simp at hl
    | cons y m =>
      have e0 := h 0 (by omega) (by rw [List.length_cons]; omega)
      rw [show o' + 0 = o' from by omega, show o + 0 = o from by omega, h1.1, h2.1] at e0
      have := ih h1.2 h2.2 (by simpa using hl) (fun j u v => by
        have := h (j + 1) (by omega) (by rw [List.length_cons]; omega)
        rw [show o' + 1 + j = o' + (j + 1) from by omega, show o + 1 + j = o + (j + 1) from by omega]
        exact this)
      rw [e0, this]
theorem fnd_at {r b s q : Int} {n w : List Int} (hq : fnd D r b s q) (ha : atL D (r + 1) s (n ++ b :: w)) (hn : ∀ y ∈ n, y ≠ b) (hl : s + (n.length : Int) < D r 1) : q = s + (n.length : Int) := by
  rw [atL_app] at ha
  have g2 := ha.2.1
  have gn : ∀ j, s ≤ j → j < s + (n.length : Int) → D (r + 1) j ≠ b := fun j u v => by
    have := atL_mem ha.1 (j - s) (by omega) (by omega)
    rw [show s + (j - s) = j from by omega] at this
    exact hn _ this
  rcases hq with ⟨_, w⟩ | ⟨w1, w2, w3, w4⟩
  · exact absurd g2 (w _ (by omega) (by omega))
  · rcases Int.lt_trichotomy q (s + (n.length : Int)) with h | h | h
    · exact absurd w3 (gn q w1 h)
    · exact h
    · exact absurd g2 (w4 _ (by omega) h)
/-- the family's extra name -/
def xtP (kd : Int) (nF x : List Int) : Prop := (kd = 2 ∧ nmOf x = [108, 101]) ∨ (kd = 4 ∧ nmOf x = nF)
/-- a family's name as a list, in a row of the class -/
def nmC (D : tD) (F : Int) (nF : List Int) : Prop := D (F + 1) 1 = (nF.length : Int) ∧ atL D (F + 2) 0 nF ∧ nF.length ≤ 24 ∧ ln (F + 2) = 24 ∧ ∀ b ∈ nF, b ≠ 1
theorem c_isExtra {F r s e : Int} {x w nF : List Int} (hx : x = nmOf x ++ 1 :: w) (ha : atL D (r + 1) s (nmOf x)) (hs : 0 ≤ s) (he : e = s + ((nmOf x).length : Int)) (hr : e ≤ D r 1) (h1 : D r 1 ≤ ln (r + 1)) (h2 : D r 1 ≤ 20000) (hF : nmC D F nF) (hT : xtP (D F 5) nF x → K D 1) (hN : ¬ xtP (D F 5) nF x → K D 0) : WP sc 66 0 D [(0, (1204, F)), (1, (1207, r)), (2, (0, s)), (3, (0, e))] [] K E := by
  obtain ⟨f1, f2, f3, f4, f5⟩ := hF
  refine v66_0 ?_
  split
  · rename_i k2
    have tn : tsn 40 = 2 := by decide +kernel
    have t0 : tsc 40 0 = 108 := by decide +kernel
    have t1 : tsc 40 1 = 101 := by decide +kernel
    refine c_span h1 h2 (by omega) (fun h => tbl_of (Or.inr rfl) (hT (Or.inl ⟨k2, ?_⟩))) (fun h => tbl_of (Or.inl rfl) (hN (fun g => h ?_)))
    · obtain ⟨p1, p2, p3, p4⟩ := h
      rw [tn] at p3
      have l2 : (nmOf x).length = 2 := by omega
      have e0 := p4 s (by omega) (by omega)
      have e1 := p4 (s + 1) (by omega) (by omega)
      rw [show s - s = 0 from by omega, t0] at e0
      rw [show s + 1 - s = 1 from by omega, t1] at e1
      generalize nmOf x = n at ha l2
      match n, l2 with
      | [y, z], _ =>
        have a0 := ha.1
        have a1 := ha.2.1
        rw [e0] at a0
        rw [e1] at a1
        rw [← a0, ← a1]
    · rcases g with ⟨_, g⟩ | ⟨g, _⟩
      · rw [g] at ha he
        have a0 := ha.1
        have a1 := ha.2.1
        have he' : e = s + 2 := he
        refine ⟨hs, hr, by rw [tn]; omega, fun j u v => ?_⟩
        by_cases ej : j = s
        · rw [ej, show s - s = 0 from by omega, t0]; exact a0
        · rw [show j = s + 1 from by omega, show s + 1 - s = 1 from by omega, t1]; exact a1
      · omega
  · rename_i k2
    split
    · rename_i k4
      have tn : tsn 39 = 0 := by decide +kernel
      have hF1 : D (F + 1) 1 ≤ ln (F + 1 + 1) := by rw [show F + 1 + 1 = F + 2 from by omega, f4]; omega
      refine c_join h1 hF1 h2 (by omega) (by omega) (fun h => ?_) (fun h => ?_)
      · rw [if_neg (by omega)]
        refine hT (Or.inr ⟨k4, ?_⟩)
        obtain ⟨p1, p2, p3, p4⟩ := h
        rw [tn] at p3
        refine atL_lst ha f2 (by omega) (fun j u v => ?_)
        have := p4 (s + j) (by omega) (by omega)
        rw [this]
        unfold jnb
        rw [if_pos (by omega), show s + j - s = 0 + j from by omega, show F + 1 + 1 = F + 2 from by omega]
      · rw [if_pos rfl]
        refine hN (fun g => h ?_)
        rcases g with ⟨g, _⟩ | ⟨_, g⟩
        · omega
        · rw [g] at ha he
          refine ⟨hs, hr, by rw [tn]; omega, fun j u v => ?_⟩
          have := atL_eq ha f2 (j - s) (by omega) (by omega)
          rw [show s + (j - s) = j from by omega] at this
          rw [this]
          unfold jnb
          rw [if_pos (by omega), show F + 1 + 1 = F + 2 from by omega, show 0 + (j - s) = j - s from by omega]
    · rename_i k4
      refine hN (fun g => ?_)
      rcases g with ⟨g, _⟩ | ⟨g, _⟩
      · exact k2 g
      · exact k4 g
theorem c_hasX1 {a0 F : Int} {nF : List Int} {S : List (List Int)} (hS : lsIs D a0 S) (h1 : D (a0 + 1) 1 ≤ ln (a0 + 2)) (h2 : D (a0 + 1) 1 ≤ 20000) (h3 : S.length ≤ 1000) (hF : nmC D F nF) (hT : (∃ x ∈ S, xtP (D F 5) nF x) → K D 1) (hN : (¬ ∃ x ∈ S, xtP (D F 5) nF x) → K D 0) : ∀ (suf pre : List (List Int)), S = pre ++ suf → (∀ x ∈ pre, ¬ xtP (D F 5) nF x) → WP sc 81 4 D [(0, (1205, a0)), (1, (1204, F)), (2, (0, (pre.flatten.length : Int))), (3, (0, (pre.length : Int)))] [] K E := by
  intro suf
  obtain ⟨l1, l2, l3, l4⟩ := hS
  induction suf with
  | nil =>
    intro pre hS hp
    have sl : S.length = pre.length := by rw [hS]; simp
    refine v81_4 ?_
    rw [if_neg (by omega)]
    refine hN (fun ⟨x, hx, g⟩ => ?_)
    rw [hS, List.append_nil] at hx
    exact hp x hx g
  | cons y suf ih =>
    intro pre hS hp
    have sl : S.length = pre.length + (suf.length + 1) := by rw [hS, List.length_append, List.length_cons]
    have fl : S.flatten.length = pre.flatten.length + (y.length + suf.flatten.length) := by rw [hS, List.flatten_append, List.length_append, List.flatten_cons, List.length_append]
    have hy : lbl y := l4 y (by rw [hS]; simp)
    have hya : atL D (a0 + 1 + 1) (pre.flatten.length : Int) y := by
      rw [hS, List.flatten_append, List.flatten_cons, atL_app, atL_app] at l3
      rw [show (0 : Int) + (pre.flatten.length : Int) = (pre.flatten.length : Int) from by omega] at l3
      rw [show a0 + 1 + 1 = a0 + 2 from by omega]
      exact l3.2.1
    have hl' : D (a0 + 1) 1 ≤ ln (a0 + 1 + 1) := by rw [show a0 + 1 + 1 = a0 + 2 from by omega]; exact h1
    obtain ⟨w, hw, hnm, hw1⟩ := lbl_nm hy
    have hyl : y.length = (nmOf y).length + (w.length + 1) := by rw [hw, List.length_append, List.length_cons, ← hw]
    refine v81_4 ?_
    rw [if_pos (by omega)]
    refine c_find hl' h2 (by omega) (fun q hq => ?_)
    have eq := fnd_at hq (by rw [← hw]; exact hya) hw1 (by omega)
    subst eq
    have hyn : atL D (a0 + 1 + 1) (pre.flatten.length : Int) (nmOf y) := by
      rw [hw, atL_app] at hya
      exact hya.1
    refine c_isExtra hw hyn (by omega) rfl (by omega) hl' h2 hF (fun g => ?_) (fun g => ?_)
    · rw [if_neg (by omega)]
      exact hT ⟨y, by rw [hS]; simp, g⟩
    · rw [if_pos rfl]
      refine c_find hl' h2 (by omega) (fun q2 hq2 => ?_)
      obtain ⟨y0, e0, n2⟩ := lbl_2 hy
      have ey : (y.length : Int) = (y0.length : Int) + 1 := by rw [e0]; simp
      have eq2 := fnd_at (w := []) hq2 (by rw [← e0]; exact hya) n2 (by omega)
      subst eq2
      rw [w32_id (x := (pre.flatten.length : Int) + (y0.length : Int) + 1) (by omega) (by omega), w32_id (x := (pre.length : Int) + 1) (by omega) (by omega)]
      have := ih (pre ++ [y]) (by rw [hS]; simp) (fun x hx => by
        rcases List.mem_append.mp hx with hx | hx
        · exact hp x hx
        · rw [List.mem_singleton.mp hx]; exact g)
      have e1 : (((pre ++ [y]).flatten.length : Nat) : Int) = (pre.flatten.length : Int) + (y0.length : Int) + 1 := by rw [List.flatten_append, List.flatten_cons, List.flatten_nil, List.length_append, List.append_nil]; omega
      have e2 : (((pre ++ [y]).length : Nat) : Int) = (pre.length : Int) + 1 := by simp
      rw [e1, e2] at this
      exact this
theorem c_hasX {a0 F : Int} {nF : List Int} {S : List (List Int)} (hS : lsIs D a0 S) (h1 : D (a0 + 1) 1 ≤ ln (a0 + 2)) (h2 : D (a0 + 1) 1 ≤ 20000) (h3 : S.length ≤ 1000) (hF : nmC D F nF) (hT : (∃ x ∈ S, xtP (D F 5) nF x) → K D 1) (hN : (¬ ∃ x ∈ S, xtP (D F 5) nF x) → K D 0) : WP sc 81 0 D [(0, (1205, a0)), (1, (1204, F))] [] K E :=
  v81_0 (c_hasX1 hS h1 h2 h3 hF hT hN S [] (by simp) (fun x hx => by simp at hx))
/-! the other side -/
def wrd (w : Int) : Int := if w = 1 then 119165821088863 else if w = 2 then 7234316338103214943 else if w = 3 then 32762609202979423 else if w = 4 then 128017765458783 else if w = 5 then 1836413791 else if w = 6 then 478459881823 else if w = 7 then 32199698088816483 else if w = 8 then 435527442791 else if w = 9 then 7021788497416776040 else if w = 10 then 1868983913 else if w = 11 then 8387236760628851827 else if w = 12 then 1162893652 else if w = 13 then 1414090325 else if w = 14 then 1347175752 else if w = 15 then 4607813 else if w = 16 then 1718503723 else if w = 17 then 25964 else 0
def ltr (w k : Int) : Int := if 7 < k then (if k = 8 then (if w = 9 then 109 else 0) else 0) else w32 (tla (tlsr (wrd w) (w32 (8 * k))) 255)
theorem m_word {w : Int} (hK : K D (wrd w)) : WP sc 171 0 D [(0, (0, w))] [] K E := by
  refine v171_0 ?_
  unfold wrd at hK
  simp only [apply_ite (K D)] at hK
  exact hK
theorem m_letter {w k : Int} (hK : K D (ltr w k)) : WP sc 172 0 D [(0, (0, w)), (1, (0, k))] [] K E := by
  refine v172_0 ?_
  unfold ltr at hK
  by_cases h7 : 7 < k
  · rw [if_pos h7] at hK ⊢
    by_cases h8 : k = 8
    · rw [if_pos h8] at hK ⊢
      by_cases h9 : w = 9
      · rw [if_pos h9] at hK ⊢; exact hK
      · rw [if_neg h9] at hK ⊢; exact hK
    · rw [if_neg h8] at hK ⊢; exact hK
  · rw [if_neg h7] at hK ⊢
    exact m_word hK
/-- a name as a list, for the other side: of a family, or "le" -/
def nmM (D : tD) (f : Int) (nF : List Int) : Prop := (f = -1 ∧ nF = [108, 101]) ∨ (0 ≤ f ∧ f < 16 ∧ D 1982 f = (nF.length : Int) ∧ nF.length ≤ 24 ∧ atL D 1981 (24 * f) nF ∧ ∀ b ∈ nF, b ≠ 1)
theorem nmM_len {f : Int} {nF : List Int} (h : nmM D f nF) : nF.length ≤ 24 ∧ ∀ b ∈ nF, b ≠ 1 := by
  rcases h with ⟨_, h⟩ | h
  · rw [h]
    refine ⟨by simp, fun b hb => ?_⟩
    simp at hb
    omega
  · exact ⟨h.2.2.2.1, h.2.2.2.2.2⟩
theorem m_named1 {a k f : Int} {nF w x : List Int} (hx : x = nmOf x ++ 1 :: w) (hx1 : ∀ b ∈ nmOf x, b ≠ 1) (ha : atL D a k x) (hk : 0 ≤ k ∧ k + (x.length : Int) ≤ ln a ∧ ln a ≤ 20000) (hF : nmM D f nF) (hT : nmOf x = nF → K D 1) (hN : nmOf x ≠ nF → K D 0) : ∀ (m : Nat) (i : Int) (sm' : Int), (nF.length : Int) - i = (m : Int) → 0 ≤ i → ((sm' = 1 ∧ ∃ p t, nF = p ++ t ∧ (p.length : Int) = i ∧ atL D a k p) ∨ (sm' = 0 ∧ nmOf x ≠ nF)) → WP sc 195 22 D [(0, (1211, 1977)), (1, (1000, a)), (2, (0, k)), (3, (0, f)), (4, (0, (nF.length : Int))), (5, (0, sm')), (6, (0, i))] [] K E := by
  have hnl := nmM_len hF
  have hxl : x.length = (nmOf x).length + (w.length + 1) := by rw [hx, List.length_append, List.length_cons, ← hx]
  have hax := ha
  rw [hx, atL_app] at hax
  obtain ⟨han, ha1, _⟩ := hax
  /- a matching prefix of the name is no longer than the label's name -/
  have pre : ∀ p t, nF = p ++ t → atL D a k p → p.length ≤ (nmOf x).length := fun p t hp hq => by
    by_cases g : p.length ≤ (nmOf x).length
    · exact g
    · have := atL_mem hq ((nmOf x).length : Int) (by omega) (by omega)
      rw [ha1] at this
      exact absurd rfl (hnl.2 1 (by rw [hp]; exact List.mem_append_left _ this))
  intro m
  induction m with
  | zero =>
    intro i s' hm hi h
    refine v195_22 ?_
    rw [if_neg (by omega)]
    rcases h with ⟨e, p, t, hp, hl, hq⟩ | ⟨e, h⟩
    · subst e
      have hpl := pre p t hp hq
      have lt : nF.length = p.length + t.length := by rw [hp, List.length_append]
      have t0 : t = [] := List.length_eq_zero_iff.mp (by omega)
      rw [t0, List.append_nil] at hp
      subst hp
      rw [if_neg (by omega), w32_id (by omega) (by omega)]
      refine ⟨by omega, ?_⟩
      split
      · rename_i e1
        refine hT ?_
        refine atL_lst han hq ?_ (fun j u v => rfl)
        by_cases g : (nmOf x).length = nF.length
        · exact g
        · have := atL_mem han (nF.length : Int) (by omega) (by omega)
          rw [e1] at this
          exact absurd rfl (hx1 1 this)
      · rename_i e1
        refine hN (fun g => e1 ?_)
        rw [← g]; exact ha1
    · rw [if_pos e]
      exact hN h
  | succ m ih =>
    intro i s' hm hi h
    refine v195_22 ?_
    rw [if_pos (by omega), w32_id (x := i + 1) (by omega) (by omega)]
    rcases h with ⟨e, p, t, hp, hl, hq⟩ | ⟨e, h⟩
    · subst e
      have hpl := pre p t hp hq
      have lt : nF.length = p.length + t.length := by rw [hp, List.length_append]
      rw [if_neg (by omega), w32_id (x := k + i) (by omega) (by omega)]
      match t, lt, hp with
      | [], lt, _ => simp at lt; omega
      | y :: t, lt, hp =>
        /- the next letter -/
        have step : (D a (k + i) = y → WP sc 195 22 D [(0, (1211, 1977)), (1, (1000, a)), (2, (0, k)), (3, (0, f)), (4, (0, (nF.length : Int))), (5, (0, 1)), (6, (0, i + 1))] [] K E) ∧ (D a (k + i) ≠ y → WP sc 195 22 D [(0, (1211, 1977)), (1, (1000, a)), (2, (0, k)), (3, (0, f)), (4, (0, (nF.length : Int))), (5, (0, 0)), (6, (0, i + 1))] [] K E) := by
          constructor
          · intro g
            refine ih _ _ (by omega) (by omega) (Or.inl ⟨rfl, p ++ [y], t, by rw [hp]; simp, by rw [List.length_append, List.length_singleton]; omega, ?_⟩)
            rw [atL_app]
            exact ⟨hq, by rw [hl]; exact g, trivial⟩
          · intro g
            refine ih _ _ (by omega) (by omega) (Or.inr ⟨rfl, fun g2 => g ?_⟩)
            rw [g2, hp, atL_app] at han
            rw [← hl]
            exact han.2.1
        refine ⟨by omega, ?_⟩
        rcases hF with ⟨hf, hn⟩ | ⟨hf1, hf2, hf3, hf4, hf5, hf6⟩
        · rw [if_pos (by omega)]
          refine m_letter ?_
          have hy : y = ltr 17 i := by
            have l0 : ltr 17 0 = 108 := by decide +kernel
            have l1 : ltr 17 1 = 101 := by decide +kernel
            rw [hn] at hp
            match p, hl, hp with
            | [], hl, hp =>
              have e0 : i = 0 := by simp at hl; omega
              simp only [List.nil_append, List.cons.injEq] at hp
              rw [e0, l0]; exact hp.1.symm
            | [_], hl, hp =>
              have e0 : i = 1 := by simp at hl; omega
              simp only [List.cons_append, List.nil_append, List.cons.injEq] at hp
              rw [e0, l1]; exact hp.2.1.symm
            | _ :: _ :: p, hl, hp =>
              simp only [List.cons_append, List.cons.injEq] at hp
              have := congrArg List.length hp.2.2
              rw [List.length_append, List.length_cons] at this
              simp at this
          split
          · rename_i g
            exact step.1 (by rw [hy]; exact g)
          · rename_i g
            exact step.2 (fun g2 => g (by rw [← hy]; exact g2))
        · rw [if_neg (by omega), w32_id (x := 24 * f) (by omega) (by omega), w32_id (x := 24 * f + i) (by omega) (by omega)]
          refine ⟨by omega, ?_⟩
          have hy : D 1981 (24 * f + i) = y := by
            rw [hp, atL_app, hl] at hf5
            exact hf5.2.1
          rw [hy]
          split
          · rename_i g
            exact step.1 g
          · rename_i g
            exact step.2 g
    · rw [if_pos e]
      exact ih _ _ (by omega) (by omega) (Or.inr ⟨rfl, h⟩)
theorem m_named {a k f : Int} {nF w x : List Int} (hx : x = nmOf x ++ 1 :: w) (hx1 : ∀ b ∈ nmOf x, b ≠ 1) (ha : atL D a k x) (hk : 0 ≤ k ∧ k + (x.length : Int) ≤ ln a ∧ ln a ≤ 20000) (hF : nmM D f nF) (hT : nmOf x = nF → K D 1) (hN : nmOf x ≠ nF → K D 0) : WP sc 195 0 D [(0, (1211, 1977)), (1, (1000, a)), (2, (0, k)), (3, (0, f))] [] K E := by
  have go := m_named1 (sc := sc) (E := E) hx hx1 ha hk hF hT hN nF.length 0 1 (by omega) (by omega) (Or.inl ⟨rfl, [], nF, by simp, by simp, trivial⟩)
  refine v195_0 ?_
  rcases hF with ⟨hf, hn⟩ | ⟨hf1, hf2, hf3, hf4, hf5, hf6⟩
  · rw [if_pos (by omega)]
    rw [show (nF.length : Int) = 2 from by rw [hn]; rfl] at go
    exact go
  · rw [if_neg (by omega), hf3]
    exact ⟨by omega, go⟩
theorem m_mayHave {a k f : Int} {nF x : List Int} (hx : lbl x) (ha : atL D a k x) (hk : 0 ≤ k ∧ k + (x.length : Int) ≤ ln a ∧ ln a ≤ 20000) (hf : 0 ≤ f ∧ f < 16) (hF : nmM D f nF) (hT : ¬ xtP (D 1980 f) nF x → K D 1) (hN : xtP (D 1980 f) nF x → K D 0) : WP sc 196 0 D [(0, (1211, 1977)), (1, (0, f)), (2, (1000, a)), (3, (0, k))] [] K E := by
  obtain ⟨w, hw, _, hw1⟩ := lbl_nm hx
  refine v196_0 ⟨hf, ?_⟩
  split
  · rename_i k2
    refine m_named (nF := [108, 101]) hw hw1 ha hk (Or.inl ⟨rfl, rfl⟩) (fun g => ?_) (fun g => ?_)
    · rw [if_neg (by omega)]
      exact hN (Or.inl ⟨k2, g⟩)
    · rw [if_pos rfl]
      refine hT (fun q => ?_)
      rcases q with q | q
      · exact g q.2
      · omega
  · rename_i k2
    refine ⟨hf, ?_⟩
    split
    · rename_i k4
      refine m_named hw hw1 ha hk hF (fun g => ?_) (fun g => ?_)
      · rw [if_neg (by omega)]
        exact hN (Or.inr ⟨k4, g⟩)
      · rw [if_pos rfl]
        refine hT (fun q => ?_)
        rcases q with q | q
        · exact k2 q.1
        · exact g q.2
    · rename_i k4
      refine hT (fun q => ?_)
      rcases q with q | q
      · exact k2 q.1
      · exact k4 q.1
theorem m_behind1 {a e : Int} (hl : ln a ≤ 20000) (he : e < ln a ∧ D a e = 2) (hK : K D (e + 1)) : ∀ (m : Nat) (k : Int), e - k = (m : Int) → 0 ≤ k → (∀ j, k ≤ j → j < e → D a j ≠ 2) → WP sc 193 2 D [(0, (1000, a)), (2, (0, k))] [] K E := by
  intro m
  induction m with
  | zero =>
    intro k hm hk h
    refine v193_2 ⟨by omega, ?_⟩
    have : k = e := by omega
    rw [this, if_pos he.2, w32_id (by omega) (by omega)]
    exact hK
  | succ m ih =>
    intro k hm hk h
    refine v193_2 ⟨by omega, ?_⟩
    rw [if_neg (h k (by omega) (by omega)), w32_id (by omega) (by omega)]
    exact ih _ (by omega) (by omega) (fun j u v => h j (by omega) v)
theorem m_behind {a k : Int} {x : List Int} (hx : lbl x) (ha : atL D a k x) (hk : 0 ≤ k ∧ k + (x.length : Int) ≤ ln a ∧ ln a ≤ 20000) (hK : K D (k + (x.length : Int))) : WP sc 193 0 D [(0, (1000, a)), (1, (0, k))] [] K E := by
  obtain ⟨y, rfl, n2⟩ := lbl_2 hx
  rw [List.length_append, List.length_singleton] at hk hK
  rw [atL_app] at ha
  refine v193_0 (m_behind1 (e := k + (y.length : Int)) hk.2.2 ⟨by omega, ha.2.1⟩ ?_ y.length k (by omega) hk.1 (fun j u v => ?_))
  · rw [show k + (y.length : Int) + 1 = k + ((y.length + 1 : Nat) : Int) from by omega]
    exact hK
  · have := atL_mem ha.1 (j - k) (by omega) (by omega)
    rw [show k + (j - k) = j from by omega] at this
    exact n2 _ this
theorem m_allMay1 {f : Int} {nF : List Int} {S : List (List Int)} (hS : setIs D S.flatten) (hl : ∀ x ∈ S, lbl x) (h1 : S.flatten.length ≤ 132) (hf : 0 ≤ f ∧ f < 16) (hF : nmM D f nF) (hT : (¬ ∃ x ∈ S, xtP (D 1980 f) nF x) → K D 1) (hN : (∃ x ∈ S, xtP (D 1980 f) nF x) → K D 0) : ∀ (suf pre : List (List Int)) (m : Int), S = pre ++ suf → ((m = 1 ∧ ∀ x ∈ pre, ¬ xtP (D 1980 f) nF x) ∨ (m = 0 ∧ ∃ x ∈ S, xtP (D 1980 f) nF x)) → WP sc 197 4 D [(0, (1211, 1977)), (1, (0, f)), (2, (0, m)), (3, (0, (pre.flatten.length : Int)))] [] K E := by
  have ln9 : ln 2009 = 132 := rfl
  intro suf
  induction suf with
  | nil =>
    intro pre m hp h
    rw [List.append_nil] at hp
    subst hp
    refine v197_4 ?_
    rw [hS.1, if_neg (by omega)]
    rcases h with ⟨e, h⟩ | ⟨e, h⟩
    · rw [e]
      exact tbl_of (Or.inr rfl) (hT (fun ⟨x, hx, g⟩ => h x hx g))
    · rw [e]
      exact tbl_of (Or.inl rfl) (hN h)
  | cons y suf ih =>
    intro pre m hp h
    have fl : S.flatten.length = pre.flatten.length + (y.length + suf.flatten.length) := by rw [hp, List.flatten_append, List.length_append, List.flatten_cons, List.length_append]
    have hy : lbl y := hl y (by rw [hp]; simp)
    have hyl := lbl_len hy
    have hya : atL D 2009 (pre.flatten.length : Int) y := by
      have l3 := hS.2
      rw [hp, List.flatten_append, List.flatten_cons, atL_app, atL_app] at l3
      rw [show (0 : Int) + (pre.flatten.length : Int) = (pre.flatten.length : Int) from by omega] at l3
      exact l3.2.1
    have e1 : (((pre ++ [y]).flatten.length : Nat) : Int) = (pre.flatten.length : Int) + (y.length : Int) := by rw [List.flatten_append, List.flatten_cons, List.flatten_nil, List.length_append, List.append_nil]; omega
    have go : ∀ m', ((m' = 1 ∧ ∀ x ∈ pre ++ [y], ¬ xtP (D 1980 f) nF x) ∨ (m' = 0 ∧ ∃ x ∈ S, xtP (D 1980 f) nF x)) → WP sc 193 0 D [(0, (1000, 2009)), (1, (0, (pre.flatten.length : Int)))] [] (fun D1 r2 => WP sc 197 4 D1 [(0, (1211, 1977)), (1, (0, f)), (2, (0, m')), (3, (0, r2))] [] K E) E := fun m' hm => by
      refine m_behind hy hya (by omega) ?_
      have := ih (pre ++ [y]) m' (by rw [hp]; simp) hm
      rw [e1] at this
      exact this
    refine v197_4 ?_
    rw [hS.1, if_pos (by omega)]
    rcases h with ⟨e, h⟩ | ⟨e, h⟩
    · rw [e, if_neg (by omega)]
      refine m_mayHave hy hya (by omega) hf hF (fun g => ?_) (fun g => ?_)
      · rw [if_neg (by omega)]
        refine go 1 (Or.inl ⟨rfl, fun x hx => ?_⟩)
        rcases List.mem_append.mp hx with hx | hx
        · exact h x hx
        · rw [List.mem_singleton.mp hx]; exact g
      · rw [if_pos rfl]
        exact go 0 (Or.inr ⟨rfl, y, by rw [hp]; simp, g⟩)
    · rw [if_pos e]
      exact go 0 (Or.inr ⟨rfl, h⟩)
theorem m_allMay {f : Int} {nF : List Int} {S : List (List Int)} (hS : setIs D S.flatten) (hl : ∀ x ∈ S, lbl x) (h1 : S.flatten.length ≤ 132) (hf : 0 ≤ f ∧ f < 16) (hF : nmM D f nF) (hT : (¬ ∃ x ∈ S, xtP (D 1980 f) nF x) → K D 1) (hN : (∃ x ∈ S, xtP (D 1980 f) nF x) → K D 0) : WP sc 197 0 D [(0, (1211, 1977)), (1, (0, f))] [] K E :=
  v197_0 (m_allMay1 hS hl h1 hf hF hT hN S [] 1 (by simp) (Or.inl ⟨rfl, fun x hx => by simp at hx⟩))
end XTR
