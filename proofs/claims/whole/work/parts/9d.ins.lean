/-! a label put into a set of the class -/
section INS
variable {sc : Nat × (Nat → Int32)} {D : tD} {K : tD → Int → Prop} {E : tD → Nat → Prop}
def lsIs (D : tD) (a : Int) (S : List (List Int)) : Prop := D a 1 = (S.length : Int) ∧ D (a + 1) 1 = (S.flatten.length : Int) ∧ atL D (a + 2) 0 S.flatten ∧ ∀ x ∈ S, lbl x
theorem onm_ncmp {a b : Int} : ∀ (x y : List Int) {s t r : Int}, onm D a s b t r → atL D (a + 1) s x → atL D (b + 1) t y → 1 ∈ x → 1 ∈ y → s + (x.length : Int) ≤ D a 1 → t + (y.length : Int) ≤ D b 1 → r = ncmp x y := by
  intro x
  induction x with
  | nil => intro y s t r _ _ _ h; exact absurd h (by simp)
  | cons u x ih =>
    intro y s t r ho hx hy h1 h2 hs ht
    cases y with
    | nil => exact absurd h2 (by simp)
    | cons v y =>
      rw [List.length_cons] at hs ht
      obtain ⟨k, k0, kj, kx⟩ := ho
      obtain ⟨eu, hx⟩ := hx
      obtain ⟨ev, hy⟩ := hy
      by_cases e : k = 0
      · subst e
        rw [show s + 0 = s from by omega, show t + 0 = t from by omega, eu, ev] at kx
        unfold ncmp
        rcases kx with ⟨_, h | h⟩ | ⟨_, _, ⟨p, q, w⟩ | ⟨p, w⟩ | ⟨p, w⟩⟩
        · omega
        · omega
        · rw [if_neg (by omega), if_neg (by omega), if_pos q]; exact w
        · rw [if_pos p]; exact w
        · rw [if_neg (by omega), if_pos p]; exact w
      · have h0 := kj 0 (by omega) (by omega)
        rw [show s + 0 = s from by omega, show t + 0 = t from by omega, eu, ev] at h0
        unfold ncmp
        rw [if_neg (by omega), if_neg (by omega), if_neg h0.2.2.2]
        refine ih y (s := s + 1) (t := t + 1) ⟨k - 1, by omega, fun j p q => ?_, ?_⟩ hx hy ?_ ?_ (by omega) (by omega)
        · have := kj (j + 1) (by omega) (by omega)
          rw [show s + 1 + j = s + (j + 1) from by omega, show t + 1 + j = t + (j + 1) from by omega]
          exact this
        · rw [show s + 1 + (k - 1) = s + k from by omega, show t + 1 + (k - 1) = t + k from by omega]
          exact kx
        · rcases List.mem_cons.mp h1 with h | h
          · exact absurd h.symm h0.2.2.2
          · exact h
        · rcases List.mem_cons.mp h2 with h | h
          · exact absurd (by omega) h0.2.2.2
          · exact h
/-- what else a set is put in with -/
def insC (D : tD) (a0 a1 s e : Int) (x : List Int) (S : List (List Int)) : Prop := lsIs D a0 S ∧ lbl x ∧ atL D (a1 + 1) s x ∧ (0 ≤ s ∧ e = s + (x.length : Int) ∧ e ≤ D a1 1 ∧ D a1 1 ≤ ln (a1 + 1) ∧ D a1 1 ≤ 20000) ∧ ((S.flatten.length : Int) + (x.length : Int) ≤ ln (a0 + 2) ∧ ln (a0 + 2) ≤ 20000 ∧ S.length ≤ 1000) ∧ (a1 ≠ a0 ∧ a1 ≠ a0 + 1 ∧ a1 ≠ a0 + 2 ∧ a1 + 1 ≠ a0)
theorem c_insat {a0 a1 s e : Int} {x : List Int} {S : List (List Int)} (hc : insC D a0 a1 s e x S) (pre suf : List (List Int)) (hS : S = pre ++ suf) {R : tD → Prop} (hR : ∀ D', lsIs D' a0 (pre ++ x :: suf) → (∀ a j, a ≠ a0 → a ≠ a0 + 1 → a ≠ a0 + 2 → D' a j = D a j) → D' (a0 + 1) 2 = D (a0 + 1) 2 → R D') : WP sc 94 0 D [(0, (1207, a0 + 1)), (1, (0, (pre.flatten.length : Int))), (2, (1207, a1)), (3, (0, s)), (4, (0, e))] [] (fun D4 _ => R (wr D4 a0 1 (w32 ((D4 a0 1) + 1)))) E := by
  obtain ⟨⟨l1, l2, l3, l4⟩, hx, hxa, hs, hcap, hne⟩ := hc
  have fl : S.flatten.length = pre.flatten.length + suf.flatten.length := by rw [hS, List.flatten_append, List.length_append]
  have sl : S.length = pre.length + suf.length := by rw [hS, List.length_append]
  rw [show a0 + 2 = a0 + 1 + 1 from by omega] at *
  refine c_ins (by omega) (by omega) hs.2.2.2.1 hcap.2.1 hs.2.2.2.2 (by omega) (fun _ => ?_) (fun hn => absurd (by unfold rinsOk; omega) hn)
  have ga : ∀ j, (rins D (a0 + 1) (pre.flatten.length : Int) a1 s e) (a0 + 1 + 1) j = if (pre.flatten.length : Int) ≤ j ∧ j < (pre.flatten.length : Int) + (e - s) then D (a1 + 1) (s + (j - (pre.flatten.length : Int))) else if (pre.flatten.length : Int) + (e - s) ≤ j ∧ j < (S.flatten.length : Int) + (e - s) then D (a0 + 1 + 1) (j - (e - s)) else D (a0 + 1 + 1) j := fun j => by
    unfold rins
    rw [wr_ne (by omega)]
    unfold tcy
    by_cases c1 : (pre.flatten.length : Int) ≤ j ∧ j < (pre.flatten.length : Int) + (e - s)
    · rw [if_pos ⟨rfl, c1⟩, if_pos c1, if_neg (by omega)]
    · rw [if_neg (fun w => c1 w.2), if_neg c1]
      by_cases c2 : (pre.flatten.length : Int) + (e - s) ≤ j ∧ j < (S.flatten.length : Int) + (e - s)
      · rw [if_pos ⟨rfl, by omega, by omega⟩, if_pos c2, show (pre.flatten.length : Int) + (j - ((pre.flatten.length : Int) + (e - s))) = j - (e - s) from by omega]
      · rw [if_neg (fun w => c2 ⟨by omega, by omega⟩), if_neg c2]
  have gb : ∀ a j, a ≠ a0 + 1 → a ≠ a0 + 1 + 1 → (rins D (a0 + 1) (pre.flatten.length : Int) a1 s e) a j = D a j := fun a j u v => by
    unfold rins
    rw [wr_ne u, tcy_ne v, tcy_ne v]
  have gc : ∀ j, j ≠ 1 → (rins D (a0 + 1) (pre.flatten.length : Int) a1 s e) (a0 + 1) j = D (a0 + 1) j := fun j u => by
    unfold rins
    rw [wr_ni u, tcy_ne (by omega), tcy_ne (by omega)]
  have gd : (rins D (a0 + 1) (pre.flatten.length : Int) a1 s e) (a0 + 1) 1 = D (a0 + 1) 1 + (e - s) := by
    unfold rins
    rw [wr_self]
  rw [gb a0 1 (by omega) (by omega), l1, w32_id (by omega) (by omega)]
  generalize rins D (a0 + 1) (pre.flatten.length : Int) a1 s e = D1 at *
  refine hR _ ⟨?_, ?_, ?_, ?_⟩ (fun a j u v w => ?_) ?_
  · rw [wr_self]; simp; omega
  · rw [wr_ne (by omega), gd, l2, List.flatten_append, List.flatten_cons, List.length_append, List.length_append]; omega
  · have hl : (pre ++ x :: suf).flatten = pre.flatten ++ (x ++ suf.flatten) := by simp
    rw [hl, atL_app, atL_app]
    rw [hS, List.flatten_append, atL_app] at l3
    have fr : ∀ j, (wr D1 a0 1 ((S.length : Int) + 1)) (a0 + 1 + 1) j = D1 (a0 + 1 + 1) j := fun j => wr_ne (by omega)
    rw [show a0 + 2 = a0 + 1 + 1 from by omega]
    refine ⟨atL_fr (fun j u v => ?_) l3.1, atL_mov (fun j u v => ?_) hxa, atL_mov (fun j u v => ?_) l3.2⟩
    · rw [fr, ga, if_neg (by omega), if_neg (by omega)]
    · rw [fr, ga, if_pos (by omega), show s + (0 + (pre.flatten.length : Int) + j - (pre.flatten.length : Int)) = s + j from by omega]
    · rw [fr, ga, if_neg (by omega), if_pos (by omega), show 0 + (pre.flatten.length : Int) + (x.length : Int) + j - (e - s) = 0 + (pre.flatten.length : Int) + j from by omega]
  · intro y hy
    rcases List.mem_append.mp hy with h | h
    · exact l4 y (by rw [hS]; exact List.mem_append_left _ h)
    · rcases List.mem_cons.mp h with h | h
      · rw [h]; exact hx
      · exact l4 y (by rw [hS]; exact List.mem_append_right _ h)
  · rw [wr_ne u, gb a j v (by omega)]
  · rw [wr_ne (by omega), gc 2 (by omega)]
theorem c_insert1 {a0 a1 s e : Int} {x : List Int} {S : List (List Int)} (hc : insC D a0 a1 s e x S) (hT : ∀ S' D', insL x S = some S' → lsIs D' a0 S' → (∀ a j, a ≠ a0 → a ≠ a0 + 1 → a ≠ a0 + 2 → D' a j = D a j) → D' (a0 + 1) 2 = D (a0 + 1) 2 → K D' (plcL x S)) (hF : insL x S = none → K D (-1)) : ∀ (suf pre : List (List Int)), S = pre ++ suf → insL x S = (insL x suf).map (pre ++ ·) → plcL x S = (pre.flatten.length : Int) + plcL x suf → WP sc 80 6 D [(0, (1205, a0)), (1, (1207, a1)), (2, (0, s)), (3, (0, e)), (4, (0, (pre.flatten.length : Int))), (5, (0, (pre.length : Int)))] [] K E := by
  intro suf
  have hc0 := hc
  obtain ⟨⟨l1, l2, l3, l4⟩, hx, hxa, hs, hcap, hne⟩ := hc
  induction suf with
  | nil =>
    intro pre hS h1 h2
    have sl : S.length = pre.length := by rw [hS]; simp
    refine v80_6 ?_
    rw [if_neg (by omega)]
    refine c_insat hc0 pre [] hS (R := fun D' => K D' (pre.flatten.length : Int)) (fun D' u v w => ?_)
    have := hT _ D' (by rw [h1]; rfl) u v w
    rw [h2] at this
    simpa [plcL] using this
  | cons y suf ih =>
    intro pre hS h1 h2
    have sl : S.length = pre.length + (suf.length + 1) := by rw [hS, List.length_append, List.length_cons]
    have fl : S.flatten.length = pre.flatten.length + (y.length + suf.flatten.length) := by rw [hS, List.flatten_append, List.length_append, List.flatten_cons, List.length_append]
    have hy : lbl y := l4 y (by rw [hS]; simp)
    have hya : atL D (a0 + 2) (pre.flatten.length : Int) y := by
      rw [hS, List.flatten_append, List.flatten_cons, atL_app, atL_app] at l3
      rw [show (0 : Int) + (pre.flatten.length : Int) = (pre.flatten.length : Int) from by omega] at l3
      exact l3.2.1
    have hya' : atL D (a0 + 1 + 1) (pre.flatten.length : Int) y := by rw [show a0 + 1 + 1 = a0 + 2 from by omega]; exact hya
    refine v80_6 ?_
    rw [if_pos (by omega)]
    refine c_onm hs.2.2.2.1 (by rw [show a0 + 1 + 1 = a0 + 2 from by omega]; omega) hs.2.2.2.2 (by omega) (by omega) (by omega) (fun r hr => ?_)
    have er := onm_ncmp x y hr hxa hya' (lbl_1 hx) (lbl_1 hy) (by omega) (by omega)
    subst er
    have nv := ncmp_vals x y
    by_cases c0 : ncmp x y = 0
    · rw [if_pos c0]
      refine hF ?_
      rw [h1]
      unfold insL
      rw [if_pos c0]; rfl
    · rw [if_neg c0]
      by_cases c1 : ncmp x y < 0
      · rw [if_pos c1]
        refine c_insat hc0 pre (y :: suf) hS (R := fun D' => K D' (pre.flatten.length : Int)) (fun D' u v w => ?_)
        have := hT (pre ++ x :: y :: suf) D' (by rw [h1]; unfold insL; rw [if_neg c0, if_pos c1]; rfl) u v w
        rw [h2] at this
        unfold plcL at this
        rw [if_pos c1] at this
        simpa using this
      · rw [if_neg c1]
        refine c_find (by rw [show a0 + 1 + 1 = a0 + 2 from by omega]; omega) (by omega) (by omega) (fun q hq => ?_)
        obtain ⟨y0, e0, n2⟩ := lbl_2 hy
        have ey : (y.length : Int) = (y0.length : Int) + 1 := by rw [e0]; simp
        have hq2 : q = (pre.flatten.length : Int) + (y0.length : Int) := by
          rw [e0, atL_app] at hya'
          have g2 := hya'.2.1
          have gn : ∀ j, (pre.flatten.length : Int) ≤ j → j < (pre.flatten.length : Int) + (y0.length : Int) → D (a0 + 1 + 1) j ≠ 2 := fun j u v => by
            have := atL_mem hya'.1 (j - (pre.flatten.length : Int)) (by omega) (by omega)
            rw [show (pre.flatten.length : Int) + (j - (pre.flatten.length : Int)) = j from by omega] at this
            exact n2 _ this
          rcases hq with ⟨_, w⟩ | ⟨w1, w2, w3, w4⟩
          · exact absurd g2 (w _ (by omega) (by omega))
          · rcases Int.lt_trichotomy q ((pre.flatten.length : Int) + (y0.length : Int)) with h | h | h
            · exact absurd w3 (gn q w1 h)
            · exact h
            · exact absurd g2 (w4 _ (by omega) h)
        rw [hq2, w32_id (by omega) (by omega), w32_id (by omega) (by omega)]
        have := ih (pre ++ [y]) (by rw [hS]; simp) (by
          have iy : insL x (y :: suf) = (insL x suf).map (y :: ·) := by rw [insL, if_neg c0, if_neg c1]
          rw [h1, iy]
          cases insL x suf <;> simp) (by
          have iy : plcL x (y :: suf) = (y.length : Int) + plcL x suf := by rw [plcL, if_neg c1]
          rw [h2, iy, List.flatten_append, List.flatten_cons, List.flatten_nil, List.length_append, List.append_nil]
          omega)
        have e1 : (((pre ++ [y]).flatten.length : Nat) : Int) = (pre.flatten.length : Int) + (y0.length : Int) + 1 := by rw [List.flatten_append, List.flatten_cons, List.flatten_nil, List.length_append, List.append_nil]; omega
        have e2 : (((pre ++ [y]).length : Nat) : Int) = (pre.length : Int) + 1 := by simp
        rw [e1, e2] at this
        exact this
theorem c_insert {a0 a1 s e : Int} {x : List Int} {S : List (List Int)} (hc : insC D a0 a1 s e x S) (hT : ∀ S' D', insL x S = some S' → lsIs D' a0 S' → (∀ a j, a ≠ a0 → a ≠ a0 + 1 → a ≠ a0 + 2 → D' a j = D a j) → D' (a0 + 1) 2 = D (a0 + 1) 2 → K D' (plcL x S)) (hF : insL x S = none → K D (-1)) : WP sc 80 0 D [(0, (1205, a0)), (1, (1207, a1)), (2, (0, s)), (3, (0, e))] [] K E := by
  refine v80_0 ?_
  have := c_insert1 (sc := sc) (E := E) hc hT hF S [] (by simp) (by simp) (by simp)
  exact this
end INS
