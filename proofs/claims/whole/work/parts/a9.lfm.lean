/-! family in the law's loop, the end -/
section LFB
variable {sc : Nat × (Nat → Int32)} {D D' : tD} {K : tD → Int → Prop} {E : tD → Nat → Prop} {c c' s i : Int}
theorem chR_fr3 {k : Int} (hc : c ≤ c') (hS : D (5 + 975 * s) 4 ≤ D' (5 + 975 * s) 4) (hK : D' (aF s (D (aC s k) 4)) 5 = D (aF s (D (aC s k) 4)) 5 ∧ D (aF s (D (aC s k) 4)) 6 ≤ D' (aF s (D (aC s k) 4)) 6) (h : ∀ a j, cdep s k a j → D' a j = D a j) (hx : chR c D s k) : chR c' D' s k := by
  have h1 : ∀ a j, aC s k ≤ a → a ≤ aC s k + 33 → D' a j = D a j := fun a j u v => h _ _ (Or.inl ⟨u, v⟩)
  have hr : ∀ p, rat D' (aC s k + 2) p = rat D (aC s k + 2) p := rat_fr (h1 _ _ (by omega) (by omega)) (fun j => h1 _ _ (by omega) (by omega))
  have hm : ∀ a, (a = 1995 ∨ a = 1998 ∨ a = 1999 ∨ a = 2000 ∨ a = 2001) → D' a (24 * s + k) = D a (24 * s + k) := fun a u => h _ _ (Or.inr (Or.inl ⟨u, rfl⟩))
  obtain ⟨a1, ⟨a2, a3⟩, a4, a5, a6, a7, a8⟩ := hx
  refine ⟨by rw [h1 _ _ (by omega) (by omega), hm 1995 (by omega)]; exact ⟨a1.1, by omega, a1.2.2⟩, ⟨rowm_fr2 (fun j => h1 _ _ (by omega) (by omega)) (fun j => h1 _ _ (by omega) (by omega)) (fun j u v => h _ _ (Or.inr (Or.inr (Or.inl ⟨rfl, u, v⟩)))) (hm 1998 (by omega)) a2, lsW_fr (h1 _ _ (by omega) (by omega)) hr (h1 _ _ (by omega) (by omega)) a3⟩, by rw [h1 _ _ (by omega) (by omega), hm 1999 (by omega)]; exact a4, by rw [h1 _ _ (by omega) (by omega), hm 2000 (by omega)]; exact a5, by rw [h1 _ _ (by omega) (by omega), hm 2001 (by omega)]; exact a6, fun b x y => ?_, fun b x y => ?_⟩
  · rw [h1 (aC s k + 4) b (by omega) (by omega), h 2002 _ (Or.inr (Or.inr (Or.inr (Or.inl ⟨Or.inl rfl, by omega, by omega⟩)))), h1 (aC s k) 4 (by omega) (by omega), hK.1]
    obtain ⟨u1, u2, u3, u4⟩ := a7 b x y
    exact ⟨u1, u2, by omega, fun w => u4 (w.imp id (fun z => Int.lt_of_le_of_lt hK.2 z))⟩
  · refine exR_fr2 (fun a j u => h _ _ ?_) (a8 b x y)
    rcases u with u | u | u
    · exact Or.inl (by unfold aX at u; unfold aC; omega)
    · exact Or.inr (Or.inr (Or.inr (Or.inl (by omega))))
    · exact Or.inr (Or.inr (Or.inr (Or.inr (by omega))))
/-- a sheet with a spare family other than before, or with one family more -/
theorem shR_add {f : Int} (hs : s = 0 ∨ s = 1) (hf : D (5 + 975 * s) 4 = f) (hc : c ≤ c') (hn : (D' (5 + 975 * s) 4 = f ∧ D' 1979 s = f) ∨ (f < 8 ∧ D' (5 + 975 * s) 4 = f + 1 ∧ D' 1979 s = f + 1 ∧ faR D' s f)) (h5 : D' (5 + 975 * s) 5 = D (5 + 975 * s) 5) (h : ∀ a j, sdep s a j → ¬ fdep s f a j → a ≠ 5 + 975 * s → a ≠ 1979 → a ≠ 978 + 975 * s → a ≠ 979 + 975 * s → D' a j = D a j) (hx : shR c D s) : shR c' D' s := by
  obtain ⟨a1, a2, a3, a4⟩ := hx
  have f9 : 0 ≤ f ∧ f < 9 := by omega
  have nf : ∀ a j, a < 1980 → ¬ (aF s f ≤ a ∧ a ≤ aF s f + 16) → ¬ fdep s f a j := fun a j x y z => y (fdep_lo z x)
  have nh : ∀ a j, 1993 < a → ¬ fdep s f a j := fun a j x z => by have := fdep_hi hs f9 z (by omega); omega
  have h2 : ∀ a j, 5 + 975 * s ≤ a → a ≤ 979 + 975 * s → ¬ (aF s f ≤ a ∧ a ≤ aF s f + 16) → a ≠ 5 + 975 * s → a ≠ 978 + 975 * s → a ≠ 979 + 975 * s → D' a j = D a j := fun a j x y z w1 w2 w3 => h a j (Or.inl ⟨x, y⟩) (nf a j (by omega) z) w1 (by omega) w2 w3
  have h94 : ∀ a j, a = 1994 ∨ a = 1996 → 24 * s ≤ j → j < 24 * s + 24 → D' a j = D a j := fun a j x y z => h a j (Or.inr (Or.inr (Or.inr (Or.inr (Or.inl ⟨x, y, z⟩))))) (nh _ _ (by omega)) (by omega) (by omega) (by omega) (by omega)
  have h22 : D' 1977 22 = D 1977 22 := h _ _ (Or.inr (Or.inr (Or.inr (Or.inr (Or.inr (Or.inr ⟨rfl, rfl⟩)))))) (nf _ _ (by omega) (by unfold aF; omega)) (by omega) (by omega) (by omega) (by omega)
  refine ⟨by rcases hn with q | q <;> omega, fun g x y => ?_, fun k x y => ?_, orR_fr2 hs h5 (fun j => h2 _ _ (by omega) (by omega) (by unfold aF; omega) (by omega) (by omega) (by omega)) (fun k x y => h2 _ _ (by unfold aC; omega) (by unfold aC; omega) (by unfold aC aF; omega) (by unfold aC; omega) (by unfold aC; omega) (by unfold aC; omega)) (fun j x y => h94 _ _ (Or.inr rfl) x y) h22 a4⟩
  · by_cases e : g = f
    · rcases hn with q | q
      · omega
      · rw [e]; exact q.2.2.2
    · have gf : g < f := by rcases hn with q | q <;> omega
      refine faR_fr2 (fun a j u => ?_) (a2 g x (by omega))
      have nz : a ≠ 5 + 975 * s ∧ a ≠ 1979 ∧ a ≠ 978 + 975 * s ∧ a ≠ 979 + 975 * s := by
        by_cases hl : a < 1980
        · have := fdep_lo u hl
          unfold aF at this
          omega
        · omega
      exact h a j (sdep_f hs (by omega) u) (fun w => e (fdep_ne hs (by omega) f9 u w)) nz.1 nz.2.1 nz.2.2.1 nz.2.2.2
  · obtain ⟨b1, b2, b3⟩ := a3 k x y
    have e : D' (aC s k) 3 = D (aC s k) 3 := h2 _ _ (by unfold aC; omega) (by unfold aC; omega) (by unfold aC aF; omega) (by unfold aC; omega) (by unfold aC; omega) (by unfold aC; omega)
    rw [e, h94 1994 _ (Or.inl rfl) (by omega) (by omega)]
    refine ⟨b1, b2, fun z => ?_⟩
    have hp := (b3 z).1
    refine chR_fr3 hc (by rcases hn with q | q <;> omega) (kfR (fun j => h2 _ _ (by unfold aF; omega) (by unfold aF; omega) (by unfold aF; omega) (by unfold aF; omega) (by unfold aF; omega) (by unfold aF; omega))) (fun a j u => ?_) (b3 z)
    have nz : a ≠ 5 + 975 * s ∧ a ≠ 1979 ∧ a ≠ 978 + 975 * s ∧ a ≠ 979 + 975 * s ∧ ¬ fdep s f a j := by
      by_cases hl : a < 1980
      · have v1 := cdep_lo u hl
        unfold aC at v1
        refine ⟨by omega, by omega, by omega, by omega, fun w => ?_⟩
        have v2 := fdep_lo w hl
        unfold aF at v2
        omega
      · have v1 := cdep_hi hs ⟨x, y⟩ u hl
        refine ⟨by omega, by omega, by omega, by omega, fun w => ?_⟩
        have v2 := fdep_hi hs f9 w hl
        omega
    exact h a j (sdep_c hs ⟨x, y⟩ u) nz.2.2.2.2 nz.1 nz.2.1 nz.2.2.1 nz.2.2.2.1
theorem mfd_fdep {f a j : Int} (h : mfd f a j) : fdep 0 f a j := by
  rcases h with ⟨h, e⟩ | h | h | h
  · by_cases q : a = 1992 ∨ a = 1993
    · exact Or.inr (Or.inr (Or.inr (Or.inr (Or.inr (Or.inr (Or.inr (Or.inr ⟨rfl, q, e⟩)))))))
    · exact Or.inr (Or.inl ⟨by omega, by omega⟩)
  · exact Or.inr (Or.inr (Or.inl ⟨h.1, by omega, by omega⟩))
  · exact Or.inr (Or.inr (Or.inr (Or.inl ⟨h.1, by omega, by omega⟩)))
  · exact Or.inr (Or.inr (Or.inr (Or.inr (Or.inl ⟨h.1, by omega, by omega⟩))))
theorem mfd_f1 {f g a j : Int} (hf : 0 ≤ f ∧ f < 8) (hg : 0 ≤ g ∧ g < 8) (h : mfd f a j) (u : fdep 1 g a j) (ha : 1980 ≤ a) : False := by
  rcases h with ⟨h, e⟩ | h | h | h
  all_goals
    rcases u with u | u | u | u | u | u | u | u | u
    · unfold aF at u; omega
    all_goals omega
theorem mfd_c1 {f k a j : Int} (hk : 0 ≤ k ∧ k < 24) (h : mfd f a j) (u : cdep s k a j) (hs : s = 0 ∨ s = 1) : False := by
  have ha : 1980 ≤ a ∧ a ≤ 1993 := by rcases h with ⟨h, e⟩ | h | h | h <;> omega
  have := cdep_hi hs hk u (by omega)
  omega
/-- what holds between two calls, behind a call of family -/
theorem RL_famx {f : Int} {D2 : tD} (hR : RL RSc D c) (hc : c < 600) (hf : D 5 4 = f) (h1 : D2 (-1) 0 = D (-1) 0 ∨ D2 (-1) 0 = D (-1) 0 + 1) (ht : D2 1 1 = 0 ∧ D2 1977 2 = 0) (hlo : ∀ x j, 0 ≤ x → x < 1977 → x ≠ 1 → x ≠ 5 → x < aF 0 f ∨ aF 0 f + 6 < x → x ≠ 978 → x ≠ 979 → D2 x j = D x j) (h5 : ∀ j, j ≠ 4 → D2 5 j = D 5 j) (hhi : ∀ x j, 1977 < x → x ≠ 1979 → x ≠ 2017 → ¬ (f < 8 ∧ mfd f x j) → D2 x j = D x j) (h77 : ∀ j, j ≠ 0 → j ≠ 2 → D2 1977 j = D 1977 j) (h79 : ∀ j, j ≠ 0 → D2 1979 j = D 1979 j) (hn : (D2 5 4 = f ∧ D2 1979 0 = f) ∨ (f < 8 ∧ D2 5 4 = f + 1 ∧ D2 1979 0 = f + 1 ∧ faR D2 0 f ∧ ∀ k, 0 ≤ k → k < f → ¬ (D2 1982 k = D2 1982 f ∧ ∀ j, 0 ≤ j → j < D2 1982 k → D2 1981 (24 * k + j) = D2 1981 (24 * f + j)))) : RL RSc D2 (c + 1) := by
  have r8 := hR.2.2.2.2.2.2.2
  have a1 := r8.1.1
  rw [show (5 : Int) + 975 * 0 = 5 from rfl] at a1
  have eF : aF 0 f = 7 + 17 * f := by unfold aF; omega
  have nm : ∀ x j, ¬ fdep 0 f x j → ¬ (f < 8 ∧ mfd f x j) := fun x j u w => u (mfd_fdep w.2)
  have sh0 : shR (c + 1) D2 0 := by
    refine shR_add (f := f) (Or.inl rfl) (by rw [show (5 : Int) + 975 * 0 = 5 from rfl]; exact hf) (by omega) ?_ (by rw [show (5 : Int) + 975 * 0 = 5 from rfl]; exact h5 _ (by omega)) (fun a j u v w1 w2 w3 w4 => ?_) r8.1
    · rw [show (5 : Int) + 975 * 0 = 5 from rfl]
      rcases hn with q | q
      · exact Or.inl q
      · exact Or.inr ⟨q.1, q.2.1, q.2.2.1, q.2.2.2.1⟩
    · have key : (5 ≤ a ∧ a ≤ 979) ∨ (1979 ≤ a ∧ a ≤ 2007) ∨ (a = 1977 ∧ j = 22) := by
        rcases u with z | z | z | z | z | z | z <;> omega
      rcases key with z | z | z
      · refine hlo a j (by omega) (by omega) (by omega) (by omega) ?_ (by omega) (by omega)
        by_cases q : a < aF 0 f
        · exact Or.inl q
        · by_cases q2 : aF 0 f + 6 < a
          · exact Or.inr q2
          · exact absurd (Or.inl ⟨by omega, by omega⟩) v
      · exact hhi a j (by omega) (by omega) (by omega) (nm a j v)
      · rw [z.1, z.2]; exact h77 _ (by omega) (by omega)
  have sh1 : shR (c + 1) D2 1 := by
    refine shR_fr2 (Or.inr rfl) (by omega) (fun a j u => ?_) r8.2.1
    rcases u with z | z | z | z | z | z | z
    · exact hlo a j (by omega) (by omega) (by omega) (by omega) (by omega) (by omega) (by omega)
    · rw [z.1, z.2]; exact h79 _ (by omega)
    · obtain ⟨z1, g, g1, g2, g3⟩ := z
      exact hhi a j (by omega) (by omega) (by omega) (fun w => mfd_f1 (by omega) ⟨g1, g2⟩ w.2 g3 (by omega))
    · omega
    · exact hhi a j (by omega) (by omega) (by omega) (fun w => by rcases w.2 with q | q | q | q <;> omega)
    · obtain ⟨z1, g, g1, g2, g3⟩ := z
      exact hhi a j (by omega) (by omega) (by omega) (fun w => mfd_c1 ⟨g1, g2⟩ w.2 g3 (Or.inr rfl))
    · rw [z.1, z.2]; exact h77 _ (by omega) (by omega)
  have lw : ∀ a j, 1971 ≤ a → a ≤ 1973 → D2 a j = D a j := fun a j u v => hlo a j (by omega) (by omega) (by omega) (by omega) (by omega) (by omega) (by omega)
  have co : coR D2 := by
    obtain ⟨g1, g2, g3⟩ := r8.2.2.1
    exact ⟨rowm_fr (fun j => lw _ _ (by omega) (by omega)) (fun j => lw _ _ (by omega) (by omega)) (fun j => hhi _ _ (by omega) (by omega) (by omega) (fun w => by rcases w.2 with q | q | q | q <;> omega)) (h77 _ (by omega) (by omega)) g1, lsW_fr (lw _ _ (by omega) (by omega)) (rat_fr (lw _ _ (by omega) (by omega)) (fun j => lw _ _ (by omega) (by omega))) (lw _ _ (by omega) (by omega)) g2, by rw [lw _ _ (by omega) (by omega)]; exact g3⟩
  have n22 := r8.2.2.2
  have fh : ∀ x j, x = 1981 ∨ x = 1982 → (x = 1982 → 0 ≤ j ∧ j < f) → (x = 1981 → 0 ≤ j ∧ j < 24 * f) → D2 x j = D x j := fun x j u v w => hhi x j (by omega) (by omega) (by omega) (fun z => by rcases z.2 with q | q | q | q <;> omega)
  have zl : ∀ k, 0 ≤ k → k < f → 0 ≤ D 1982 k ∧ D 1982 k ≤ 24 := fun k u v => by
    have := (r8.1.2.1 k u (by rw [show (5 : Int) + 975 * 0 = 5 from rfl]; omega)).2.1.1
    rw [show 8 * (0 : Int) + k = k from by omega] at this
    exact ⟨this.2.1, this.2.2.1⟩
  have uq : unq D2 := fun x y u v w => by
    have yf : y ≤ f ∧ (y = f → f < 8 ∧ ∀ k, 0 ≤ k → k < f → ¬ (D2 1982 k = D2 1982 f ∧ ∀ j, 0 ≤ j → j < D2 1982 k → D2 1981 (24 * k + j) = D2 1981 (24 * f + j))) := by
      rcases hn with q | q
      · exact ⟨by omega, fun e => by omega⟩
      · exact ⟨by omega, fun _ => ⟨q.1, q.2.2.2.2⟩⟩
    by_cases e : y = f
    · rw [e]; exact (yf.2 e).2 x u (by omega)
    · rw [fh 1982 x (by omega) (by omega) (by omega), fh 1982 y (by omega) (by omega) (by omega)]
      rintro ⟨q1, q2⟩
      refine n22.2.2 x y u v (by omega) ⟨q1, fun j j1 j2 => ?_⟩
      have := q2 j j1 j2
      have zx := zl x u (by omega)
      rw [fh 1981 _ (by omega) (by omega) (by omega), fh 1981 _ (by omega) (by omega) (by omega)] at this
      exact this
  refine RL_clr hR hc h1 ht (fun a j u => ?_) ⟨sh0, sh1, co, by rw [h77 _ (by omega) (by omega)]; omega, by rw [h77 _ (by omega) (by omega)]; omega, uq⟩
  by_cases e : a = 1977
  · rw [e]; exact h77 _ (by omega) (by omega)
  · by_cases e2 : a = 2013
    · rw [e2]; exact hhi _ _ (by omega) (by omega) (by omega) (fun w => by rcases w.2 with q | q | q | q <;> omega)
    · exact hlo a j (by omega) (by omega) (by omega) (by omega) (by omega) (by omega) (by omega)
theorem faR_new {D2 : tD} {f kd a b n : Int} (hT : ∀ j, 0 ≤ j → j < n → D 2 j % 256 = D 1978 j ∧ -128 ≤ D 2 j ∧ D 2 j ≤ 127) (hk : 0 ≤ kd ∧ kd ≤ 4) (hfam : famT (D 1978) n kd a b) (hQ : nfQ D D2 (aF 0 f) kd a b n) (hM : (D2 1980 f = kd ∧ D2 1988 f = 0 ∧ D2 1991 f = 0 ∧ D2 1992 f = 0 ∧ D2 1993 f = 24) ∧ (D2 1982 f = a ∧ ∀ j, 0 ≤ j → j < a → D2 1981 (24 * f + j) = D 1978 j) ∧ (D2 1984 f = b - a - 1 ∧ ∀ j, 0 ≤ j → j < b - a - 1 → D2 1983 (8 * f + j) = D 1978 (a + 1 + j)) ∧ (D2 1986 f = n - b - 1 ∧ ∀ j, 0 ≤ j → j < n - b - 1 → D2 1985 (40 * f + j) = D 1978 (b + 1 + j))) : faR D2 0 f := by
  obtain ⟨⟨q1, q2, q3, q4, q5⟩, ⟨q6, q7⟩, ⟨q8, q9⟩, q10, q11⟩ := hQ
  obtain ⟨⟨m1, m2, m3, m4, m5⟩, ⟨m6, m7⟩, ⟨m8, m9⟩, m10, m11⟩ := hM
  have fh := hfam.1
  obtain ⟨fn1, fn2, fn3, fn4⟩ := hfam.2.2.2.2.2.1
  obtain ⟨fx1, fx2, fx3⟩ := hfam.2.2.2.2.2.2.1
  have fu : b - a - 1 ≤ 8 := by
    rcases hfam.2.2.2.2.2.2.2 with w | w
    · omega
    · have := w.1; omega
  have e0 : 8 * (0 : Int) + f = f := by omega
  unfold faR
  rw [e0, q1, q2, q3, q4, q5, m1, m2, m3, m4, m5, m6, m8, m10]
  have rN : ∀ j, 0 ≤ j → j < a → rat D2 (aF 0 f + 1) j = D 1978 j := fun j u v => by
    unfold rat
    rw [q6, if_pos ⟨u, v⟩, show aF 0 f + 1 + 1 = aF 0 f + 2 from by omega, q7 j u v]
    exact (hT j u (by omega)).1
  refine ⟨by omega, ⟨⟨q6, by omega, by omega, fun j u v => ?_⟩, ⟨by omega, by rw [if_pos rfl]; omega, by rw [rN 0 (by omega) (by omega)]; exact fn3, fun j u v => ?_, Or.inl rfl⟩⟩, ⟨q8, by omega, by omega, fun j u v => ?_⟩, ⟨⟨q10, by omega, by omega, fun j u v => ?_⟩, ⟨by omega, by omega, fun j u v => ?_⟩⟩, ⟨rfl, by omega, by omega, fun _ => rfl, fun k u v => by omega, fun k u v => by omega⟩, ⟨rfl, by omega, by omega, fun _ => rfl, fun k u v => by omega⟩, fun _ => ⟨rfl, by omega, by omega, rfl⟩⟩
  · rw [show aF 0 f + 1 + 1 = aF 0 f + 2 from by omega, q7 j u v, m7 j u v]
    exact (hT j u (by omega)).1
  · rw [if_pos rfl, rN j u (by omega)]
    exact fn4 j u (by omega)
  · rw [show aF 0 f + 3 + 1 = aF 0 f + 4 from by omega, q9 j u v, m9 j u v]
    exact (hT _ (by omega) (by omega)).1
  · rw [show aF 0 f + 5 + 1 = aF 0 f + 6 from by omega, q11 j u v, m11 j u v]
    exact (hT _ (by omega) (by omega)).1
  · have e : rat D2 (aF 0 f + 5) j = D 1978 (b + 1 + j) := by
      unfold rat
      rw [q10, if_pos ⟨u, by omega⟩, show aF 0 f + 5 + 1 = aF 0 f + 6 from by omega, q11 j u (by omega)]
      exact (hT _ (by omega) (by omega)).1
    rw [e]
    exact fx3 _ (by omega) (by omega)
theorem l_family (hR : RL RSc D c) (hc : c < 600) (hi : 0 ≤ i ∧ i + 5 ≤ (sc.1 : Int) ∧ (sc.1 : Int) ≤ 2560) (hgo : ∀ D', RL RSc D' (c + 1) → WP sc 317 1610 D' (LV i) [] K E) : WP sc 317 327 D (LV i) [] K E := by
  refine wp_ok (fun hok => ?_)
  have r8 := hR.2.2.2.2.2.2.2
  have a1 := r8.1.1
  rw [show (5 : Int) + 975 * 0 = 5 from rfl] at a1
  obtain ⟨⟨t1, t2, t3⟩, tb⟩ := tape_b hok hR
  have tb2 : ∀ j, 0 ≤ j → j < D 1977 2 → D 2 j % 256 = D 1978 j ∧ -128 ≤ D 2 j ∧ D 2 j ≤ 127 := fun j u v => by
    obtain ⟨q1, q2, q3⟩ := tb j u v
    refine ⟨?_, q2⟩
    rw [← q1]
    unfold rat
    rw [if_pos ⟨u, by omega⟩]
    rfl
  refine v317_327 ?_
  rw [w32_id (x := i + 1) (by omega) (by omega)]
  refine ⟨by omega, fun hx => ?_⟩
  generalize tsv sc (i + 1) = kd at hx ⊢
  have eF : aF 0 (D 5 4) = 7 + 17 * D 5 4 := by unfold aF; omega
  /- the other side over any memory that has its part -/
  have mside : ∀ {K2 : tD → Int → Prop} {E2 : tD → Nat → Prop} (W : tD), msm D W →
      (¬ ((0 ≤ kd ∧ kd ≤ 4) ∧ ∃ a b, famT (D 1978) (D 1977 2) kd a b) → ∀ D', mfl (wr W 1977 2 0) D' (D 5 4) 1 → K2 D' 0) →
      (∀ a b r D', (0 ≤ kd ∧ kd ≤ 4) → famT (D 1978) (D 1977 2) kd a b → (0 ≤ r ∧ r < D 5 4) → mlk D kd a b (D 1977 2) r → mfl (wr W 1977 2 0) D' (D 5 4) 0 → K2 D' r) →
      (∀ a b, (0 ≤ kd ∧ kd ≤ 4) → famT (D 1978) (D 1977 2) kd a b → (∀ k, 0 ≤ k → k < D 5 4 → ¬ mlk D kd a b (D 1977 2) k) → (∃ k, (0 ≤ k ∧ k < D 5 4) ∧ clM D kd a k) → ∀ D', mfl (wr W 1977 2 0) D' (D 5 4) 2 → K2 D' 0) →
      (∀ a b, (0 ≤ kd ∧ kd ≤ 4) → famT (D 1978) (D 1977 2) kd a b → (∀ k, 0 ≤ k → k < D 5 4 → ¬ mlk D kd a b (D 1977 2) k) → (¬ ∃ k, (0 ≤ k ∧ k < D 5 4) ∧ clM D kd a k) → D 5 4 = 8 → ∀ D', mfl (wr W 1977 2 0) D' (D 5 4) 3 → K2 D' 0) →
      (∀ a b, (0 ≤ kd ∧ kd ≤ 4) → famT (D 1978) (D 1977 2) kd a b → (∀ k, 0 ≤ k → k < D 5 4 → ¬ mlk D kd a b (D 1977 2) k) → (¬ ∃ k, (0 ≤ k ∧ k < D 5 4) ∧ clM D kd a k) → D 5 4 < 8 → ∀ D', mnP (wr (wr W 1977 2 0) 1977 0 0) D' (D 5 4) kd a b (D 1977 2) → K2 D' (D 5 4)) →
      WP sc 209 0 W [(0, (1211, 1977)), (1, (0, kd))] [] K2 E2 := by
    intro K2 E2 W hW gB gL gU gS gG
    have w : ∀ a j, 1977 ≤ a → a ≤ 2016 → W a j = D a j := fun a j u v => hW a j u v
    have e78 : W 1978 = D 1978 := funext (fun j => w _ _ (by omega) (by omega))
    have ml : ∀ a b n k, mlk W kd a b n k ↔ mlk D kd a b n k := fun a b n k => by
      unfold mlk msmP
      rw [show W 1980 = D 1980 from funext (fun j => w _ _ (by omega) (by omega)), show W 1981 = D 1981 from funext (fun j => w _ _ (by omega) (by omega)), show W 1982 = D 1982 from funext (fun j => w _ _ (by omega) (by omega)), show W 1983 = D 1983 from funext (fun j => w _ _ (by omega) (by omega)), show W 1984 = D 1984 from funext (fun j => w _ _ (by omega) (by omega)), show W 1985 = D 1985 from funext (fun j => w _ _ (by omega) (by omega)), show W 1986 = D 1986 from funext (fun j => w _ _ (by omega) (by omega)), e78]
    have cl : ∀ a k, clM W kd a k ↔ clM D kd a k := fun a k => by
      unfold clM nmf
      rw [e78, show W 1980 = D 1980 from funext (fun j => w _ _ (by omega) (by omega)), show W 1981 = D 1981 from funext (fun j => w _ _ (by omega) (by omega)), show W 1982 = D 1982 from funext (fun j => w _ _ (by omega) (by omega))]
    have cle : ∀ a, (∃ k, (0 ≤ k ∧ k < D 5 4) ∧ clM W kd a k) ↔ ∃ k, (0 ≤ k ∧ k < D 5 4) ∧ clM D kd a k := fun a => ⟨fun ⟨k, k1, k2⟩ => ⟨k, k1, (cl a k).mp k2⟩, fun ⟨k, k1, k2⟩ => ⟨k, k1, (cl a k).mpr k2⟩⟩
    refine m_family (n := D 1977 2) (f := D 5 4) (w _ _ (by omega) (by omega)) ⟨t1, t2⟩ ⟨by rw [w _ _ (by omega) (by omega)]; exact a1.1.symm, a1.2⟩ (fun k u v => ?_) (unq_fr (fun x j u => w _ _ (by omega) (by omega)) r8.2.2.2.2.2) (by rw [e78]; exact gB) (fun a b r D' u1 u2 u3 u4 u5 => gL a b r D' u1 (by rw [e78] at u2; exact u2) u3 ((ml _ _ _ _).mp u4) u5) (fun a b u1 u2 u3 u4 D' u5 => gU a b u1 (by rw [e78] at u2; exact u2) (fun k x y z => u3 k x y ((ml _ _ _ _).mpr z)) ((cle a).mp u4) D' u5) (fun a b u1 u2 u3 u4 u6 D' u5 => gS a b u1 (by rw [e78] at u2; exact u2) (fun k x y z => u3 k x y ((ml _ _ _ _).mpr z)) (fun z => u4 ((cle a).mpr z)) u6 D' u5) (fun a b u1 u2 u3 u4 u6 D' u5 => gG a b u1 (by rw [e78] at u2; exact u2) (fun k x y z => u3 k x y ((ml _ _ _ _).mpr z)) (fun z => u4 ((cle a).mpr z)) u6 D' u5)
    obtain ⟨_, ⟨g1, _⟩, g2, ⟨g3, _⟩, _⟩ := r8.1.2.1 k u (by rw [show (5 : Int) + 975 * 0 = 5 from rfl]; exact v)
    rw [show 8 * (0 : Int) + k = k from by omega] at g1 g2 g3
    unfold nzP
    rw [w 1982 _ (by omega) (by omega), w 1984 _ (by omega) (by omega), w 1986 _ (by omega) (by omega)]
    exact ⟨⟨by omega, g1.2.1, g1.2.2.1⟩, ⟨g2.2.1, g2.2.2.1⟩, g3.2.1, g3.2.2.1⟩
  have RLf : ∀ {W D1 D2 : tD} {t : Int}, CF D D1 (aF 0 (D 5 4)) → (W (-1) 0 = D1 (-1) 0 ∨ W (-1) 0 = D1 (-1) 0 + 1) → (∀ x j, 0 ≤ x → x ≠ 2017 → W x j = D1 x j) → mfl (wr W 1977 2 0) D2 (D 5 4) t → RL RSc D2 (c + 1) := fun {W D1 D2 t} hC hW1 hW2 hm => by
    have m3 : ∀ x j, x ≠ 1977 → ¬ (D 5 4 < 8 ∧ mfd (D 5 4) x j) → D2 x j = W x j := fun x j u v => by rw [hm.2.2 x j u v, wr_ne u]
    have nl : ∀ x j, x < 1977 → ¬ (D 5 4 < 8 ∧ mfd (D 5 4) x j) := fun x j u w => by rcases w.2 with q | q | q | q <;> omega
    have cl : ∀ x j, x < 1977 → 0 ≤ x → D2 x j = D1 x j := fun x j u v => by rw [m3 x j (by omega) (nl x j u), hW2 x j v (by omega)]
    refine RL_famx (f := D 5 4) hR hc rfl ?_ ⟨by rw [cl _ _ (by omega) (by omega)]; exact hC.1, by rw [hm.2.1 _ (by omega), wr_self]⟩ (fun x j u1 u2 u3 u4 u5 u6 u7 => by rw [cl _ _ u2 u1]; exact hC.2 x j u3 u5 u6 u7) (fun j u => by rw [cl _ _ (by omega) (by omega)]; exact hC.2 _ _ (by omega) (by omega) (by omega) (by omega)) (fun x j u1 u2 u3 u4 => by rw [m3 x j (by omega) u4, hW2 x j (by omega) u3]; exact hC.2 _ _ (by omega) (by omega) (by omega) (by omega)) (fun j u1 u2 => by rw [hm.2.1 _ u1, wr_ni u2, hW2 _ _ (by omega) (by omega)]; exact hC.2 _ _ (by omega) (by omega) (by omega) (by omega)) (fun j u => ?_) (Or.inl ⟨?_, ?_⟩)
    · rw [m3 _ _ (by omega) (nl _ _ (by omega))]
      have := hC.2 (-1) 0 (by omega) (by omega) (by omega) (by omega)
      rcases hW1 with q | q
      · left; omega
      · right; omega
    · rw [m3 _ _ (by omega) (fun w => by rcases w.2 with q | q | q | q <;> omega), hW2 _ _ (by omega) (by omega)]; exact hC.2 _ _ (by omega) (by omega) (by omega) (by omega)
    · rw [cl _ _ (by omega) (by omega)]; exact hC.2 _ _ (by omega) (by omega) (by omega) (by omega)
    · rw [m3 _ _ (by omega) (fun w => by rcases w.2 with q | q | q | q <;> omega), hW2 _ _ (by omega) (by omega), hC.2 _ _ (by omega) (by omega) (by omega) (by omega)]; exact a1.1.symm
  have msb : ∀ D1, CF D D1 (aF 0 (D 5 4)) → msm D (bump D1) := fun D1 h a j u w => by rw [bump_ne (by omega), h.2 _ _ (by omega) (by omega) (by omega) (by omega)]
  have bW1 : ∀ D1 : tD, (bump D1) (-1) 0 = D1 (-1) 0 ∨ (bump D1) (-1) 0 = D1 (-1) 0 + 1 := fun D1 => Or.inr wr_self
  have bW2 : ∀ (D1 : tD) x j, 0 ≤ x → x ≠ 2017 → (bump D1) x j = D1 x j := fun D1 x j u _ => wr_ne (by omega)
  have mlc : ∀ {a b a' b' r}, famT (D 1978) (D 1977 2) kd a b → famT (D 1978) (D 1977 2) kd a' b' → (∀ k, 0 ≤ k → k < D 5 4 → ¬ mlk D kd a b (D 1977 2) k) → (0 ≤ r ∧ r < D 5 4) → mlk D kd a' b' (D 1977 2) r → False := fun {a b a' b' r} h1 h2 h3 h4 h5 => by
    obtain ⟨e1, e2⟩ := famT_uni h1 h2
    rw [← e1, ← e2] at h5
    exact h3 r h4.1 h4.2 h5
  refine v299_0 (c_family hok hR hc (fun h D1 g => ?_) (fun a b r D1 g1 g2 g3 g4 g5 => ?_) (fun a b D1 g1 g2 g3 g4 g5 => ?_) (fun a b D1 g1 g2 g3 g4 g5 g6 => ?_) (fun a b D1 g1 g2 g3 g4 g5 g6 g7 => ?_))
  · rw [if_pos rfl]
    exact ⟨by omega, fun _ => mside _ (msb D1 g) (fun _ D2 q => tail_r q.1 (by omega) (hgo _ (RLf g (bW1 D1) (bW2 D1) q))) (fun a b r D2 q1 q2 => absurd ⟨q1, a, b, q2⟩ h) (fun a b q1 q2 => absurd ⟨q1, a, b, q2⟩ h) (fun a b q1 q2 => absurd ⟨q1, a, b, q2⟩ h) (fun a b q1 q2 => absurd ⟨q1, a, b, q2⟩ h)⟩
  · refine ⟨⟨by omega, by decide +kernel⟩, by omega, fun _ => mside _ (fun x j u v => by rw [wr_ne (by omega)]; exact g5.2 _ _ (by omega) (by omega) (by omega) (by omega)) (fun q => absurd ⟨g1, a, b, g2⟩ q) (fun a' b' r' D2 q1 q2 q3 q4 q5 => ?_) (fun a' b' q1 q2 q3 q4 => (mlc q2 g2 q3 g3 g4).elim) (fun a' b' q1 q2 q3 q4 => (mlc q2 g2 q3 g3 g4).elim) (fun a' b' q1 q2 q3 q4 => (mlc q2 g2 q3 g3 g4).elim)⟩
    obtain ⟨e1, e2⟩ := famT_uni g2 q2
    subst e1
    subst e2
    have er := nmE_uni r8.2.2.2.2.2 g4.2.1 q4.2.1 (by omega) (by omega)
    subst er
    refine tail_r q5.1 (fun _ => ?_) (hgo _ (RLf (W := wr D1 2017 0 r) g5 (Or.inl (wr_ne (by omega))) (fun x j u v => wr_ne v) q5))
    rw [q5.2.2 _ _ (by omega) (fun w => by rcases w.2 with q | q | q | q <;> omega), wr_ne (by omega), wr_self]
  · rw [if_neg (by omega), if_pos rfl]
    refine ⟨by omega, fun _ => mside _ (msb D1 g5) (fun q => absurd ⟨g1, a, b, g2⟩ q) (fun a' b' r' D2 q1 q2 q3 q4 q5 => (mlc g2 q2 g3 q3 q4).elim) (fun a' b' q1 q2 q3 q4 D2 q5 => tail_r q5.1 (by omega) (hgo _ (RLf g5 (bW1 D1) (bW2 D1) q5))) (fun a' b' q1 q2 q3 q4 => ?_) (fun a' b' q1 q2 q3 q4 => ?_)⟩
    all_goals
      obtain ⟨e1, e2⟩ := famT_uni g2 q2
      rw [← e1] at q4
      exact absurd g4 q4
  · rw [if_neg (by omega), if_neg (by omega), if_pos rfl]
    refine ⟨by omega, fun _ => mside _ (msb D1 g6) (fun q => absurd ⟨g1, a, b, g2⟩ q) (fun a' b' r' D2 q1 q2 q3 q4 q5 => (mlc g2 q2 g3 q3 q4).elim) (fun a' b' q1 q2 q3 q4 => ?_) (fun a' b' q1 q2 q3 q4 _ D2 q5 => tail_r q5.1 (by omega) (hgo _ (RLf g6 (bW1 D1) (bW2 D1) q5))) (fun a' b' q1 q2 q3 q4 q5 => absurd g5 (by omega))⟩
    obtain ⟨e1, e2⟩ := famT_uni g2 q2
    rw [← e1] at q4
    exact absurd q4 g4
  · refine ⟨⟨by omega, by decide +kernel⟩, by omega, fun _ => mside _ (fun x j u v => by rw [wr_ne (by omega), wr_ne (by omega)]; exact g6.2 _ _ (by omega) (by omega) (by omega) (by omega)) (fun q => absurd ⟨g1, a, b, g2⟩ q) (fun a' b' r' D2 q1 q2 q3 q4 q5 => (mlc g2 q2 g3 q3 q4).elim) (fun a' b' q1 q2 q3 q4 => ?_) (fun a' b' q1 q2 q3 q4 q5 => absurd g5 (by omega)) (fun a' b' q1 q2 q3 q4 _ D2 q5 => ?_)⟩
    · obtain ⟨e1, e2⟩ := famT_uni g2 q2
      rw [← e1] at q4
      exact absurd q4 g4
    · obtain ⟨e1, e2⟩ := famT_uni g2 q2
      subst e1
      subst e2
      obtain ⟨n1, ⟨n2, n3⟩, ⟨n4, n5⟩, ⟨n6, n7⟩, n8, n9, n10⟩ := q5
      have nl : ∀ x j, x < 1977 → ¬ mfd (D 5 4) x j := fun x j u w => by rcases w with q | q | q | q <;> omega
      have W2 : ∀ x j, x ≠ 1977 → x ≠ 2017 → x ≠ 5 → (wr (wr (wr (wr D1 5 4 (D 5 4 + 1)) 2017 0 (D 5 4)) 1977 2 0) 1977 0 0) x j = D1 x j := fun x j u v w => by rw [wr_ne u, wr_ne u, wr_ne v, wr_ne w]
      have cl : ∀ x j, x < 1977 → x ≠ 5 → D2 x j = D1 x j := fun x j u v => by rw [n10 x j (by omega) (nl x j u), W2 x j (by omega) (by omega) v]
      have t78 : ∀ j, (wr (wr (wr (wr D1 5 4 (D 5 4 + 1)) 2017 0 (D 5 4)) 1977 2 0) 1977 0 0) 1978 j = D 1978 j := fun j => by rw [W2 _ _ (by omega) (by omega) (by omega)]; exact g6.2 _ _ (by omega) (by omega) (by omega) (by omega)
      simp only [t78] at n3 n5 n7
      have j77 : ∀ j, (1977 : Int) ≠ 1979 → D2 1977 j = (wr (wr (wr (wr D1 5 4 (D 5 4 + 1)) 2017 0 (D 5 4)) 1977 2 0) 1977 0 0) 1977 j := fun j u => n10 _ _ u (fun w => by rcases w with q | q | q | q <;> omega)
      refine tail_r ?_ (fun _ => ?_) (hgo _ (RL_famx (f := D 5 4) hR hc rfl (Or.inl ?_) ⟨?_, ?_⟩ (fun x j u1 u2 u3 u4 u5 u6 u7 => ?_) (fun j u => ?_) (fun x j u1 u2 u3 u4 => ?_) (fun j u1 u2 => ?_) (fun j u => ?_) (Or.inr ⟨g5, ?_, n8, ?_, fun k u v => ?_⟩)))
      · rw [j77 _ (by omega), wr_self]
      · rw [n10 _ _ (by omega) (fun w => by rcases w with q | q | q | q <;> omega), wr_ne (by omega), wr_ne (by omega), wr_self]
      · rw [cl _ _ (by omega) (by omega)]; exact g6.2 _ _ (by omega) (by omega) (by omega) (by omega)
      · rw [cl _ _ (by omega) (by omega)]; exact g6.1
      · rw [j77 _ (by omega), wr_ni (by omega), wr_self]
      · rw [cl _ _ u2 u4]; exact g6.2 x j u3 u5 u6 u7
      · rw [n10 _ _ (by omega) (nl _ _ (by omega)), wr_ne (by omega), wr_ne (by omega), wr_ne (by omega), wr_ni u]; exact g6.2 _ _ (by omega) (by omega) (by omega) (by omega)
      · rw [n10 x j u2 (fun w => u4 ⟨g5, w⟩), W2 x j (by omega) u3 (by omega)]; exact g6.2 _ _ (by omega) (by omega) (by omega) (by omega)
      · rw [j77 _ (by omega), wr_ni u1, wr_ni u2, wr_ne (by omega), wr_ne (by omega)]; exact g6.2 _ _ (by omega) (by omega) (by omega) (by omega)
      · rw [n9 j u, W2 _ _ (by omega) (by omega) (by omega)]; exact g6.2 _ _ (by omega) (by omega) (by omega) (by omega)
      · rw [n10 _ _ (by omega) (nl _ _ (by omega)), wr_ne (by omega), wr_ne (by omega), wr_ne (by omega), wr_self]
      · refine faR_new tb2 g1 g2 ?_ ⟨n1, ⟨n2, n3⟩, ⟨n4, n5⟩, n6, n7⟩
        obtain ⟨⟨p1, p2, p3, p4, p5⟩, ⟨p6, p7⟩, ⟨p8, p9⟩, p10, p11⟩ := g7
        refine ⟨⟨?_, ?_, ?_, ?_, ?_⟩, ⟨?_, fun j u v => ?_⟩, ⟨?_, fun j u v => ?_⟩, ?_, fun j u v => ?_⟩ <;> rw [cl _ _ (by omega) (by omega)]
        · exact p1
        · exact p2
        · exact p3
        · exact p4
        · exact p5
        · exact p6
        · exact p7 j u v
        · exact p8
        · exact p9 j u v
        · exact p10
        · exact p11 j u v
      · rintro ⟨z1, z2⟩
        have e82 : D2 1982 k = D 1982 k := by
          rw [n10 _ _ (by omega) (fun w => by rcases w with q | q | q | q <;> omega), W2 _ _ (by omega) (by omega) (by omega)]; exact g6.2 _ _ (by omega) (by omega) (by omega) (by omega)
        have zk := (r8.1.2.1 k u (by rw [show (5 : Int) + 975 * 0 = 5 from rfl]; exact v)).2.1.1
        rw [show 8 * (0 : Int) + k = k from by omega] at zk
        have zk2 := zk.2.2.1
        refine g4 ⟨k, ⟨u, v⟩, nmE_clM ⟨by omega, fun j j1 j2 => ?_⟩⟩
        have := z2 j j1 (by omega)
        rw [n3 j j1 (by omega), n10 _ _ (by omega) (fun w => by rcases w with q | q | q | q <;> omega), W2 _ _ (by omega) (by omega) (by omega), g6.2 _ _ (by omega) (by omega) (by omega) (by omega)] at this
        rw [this, show (0 : Int) + j = j from by omega]
end LFB
