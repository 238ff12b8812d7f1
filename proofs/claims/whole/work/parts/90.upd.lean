/-! sheets: what a change leaves -/
section UPD
variable {D D' : tD} {s c c' : Int}
theorem rowm_fr2 {r cap arr off n n' : Int} (h1 : ∀ j, D' r j = D r j) (h2 : ∀ j, D' (r + 1) j = D (r + 1) j) (h3 : ∀ j, off ≤ j → j < off + cap → D' arr j = D arr j) (hn : n' = n) (h : rowm D r cap arr off n) : rowm D' r cap arr off n' := by
  subst hn
  obtain ⟨a, b, d, e⟩ := h
  exact ⟨by rw [h1]; exact a, b, d, fun j x y => by rw [h2, h3 _ (by omega) (by omega)]; exact e j x y⟩
/-- on what an exemplar, a child, a family depend -/
def xdep (e q a j : Int) : Prop := (e ≤ a ∧ a ≤ e + 3) ∨ ((a = 2003 ∨ a = 2004 ∨ a = 2005 ∨ a = 2007) ∧ j = q) ∨ (a = 2006 ∧ 44 * q ≤ j ∧ j < 44 * q + 44)
def cdep (s k a j : Int) : Prop := (aC s k ≤ a ∧ a ≤ aC s k + 33) ∨ ((a = 1995 ∨ a = 1998 ∨ a = 1999 ∨ a = 2000 ∨ a = 2001) ∧ j = 24 * s + k) ∨ (a = 1997 ∧ 66 * (24 * s + k) ≤ j ∧ j < 66 * (24 * s + k) + 66) ∨ ((a = 2002 ∨ a = 2003 ∨ a = 2004 ∨ a = 2005 ∨ a = 2007) ∧ 7 * (24 * s + k) ≤ j ∧ j < 7 * (24 * s + k) + 7) ∨ (a = 2006 ∧ 308 * (24 * s + k) ≤ j ∧ j < 308 * (24 * s + k) + 308)
def fdep (s f a j : Int) : Prop := (aF s f ≤ a ∧ a ≤ aF s f + 16) ∨ ((a = 1980 ∨ a = 1982 ∨ a = 1984 ∨ a = 1986 ∨ a = 1988 ∨ a = 1991) ∧ j = 8 * s + f) ∨ (a = 1981 ∧ 24 * (8 * s + f) ≤ j ∧ j < 24 * (8 * s + f) + 24) ∨ (a = 1983 ∧ 8 * (8 * s + f) ≤ j ∧ j < 8 * (8 * s + f) + 8) ∨ (a = 1985 ∧ 40 * (8 * s + f) ≤ j ∧ j < 40 * (8 * s + f) + 40) ∨ (a = 1987 ∧ 6 * (8 * s + f) ≤ j ∧ j < 6 * (8 * s + f) + 6) ∨ (a = 1989 ∧ 48 * (8 * s + f) ≤ j ∧ j < 48 * (8 * s + f) + 48) ∨ (a = 1990 ∧ 4 * (8 * s + f) ≤ j ∧ j < 4 * (8 * s + f) + 4) ∨ (s = 0 ∧ (a = 1992 ∨ a = 1993) ∧ j = f)
theorem fdep_lo {f a j : Int} (u : fdep s f a j) (h : a < 1980) : aF s f ≤ a ∧ a ≤ aF s f + 16 := by
  rcases u with u | u | u | u | u | u | u | u | u <;> omega
theorem fdep_hi {f a j : Int} (hs : s = 0 ∨ s = 1) (hf : 0 ≤ f ∧ f < 9) (u : fdep s f a j) (h : ¬ a < 1980) : a ≤ 1993 ∧ (a ≤ 1991 ∨ s = 0) := by
  rcases u with u | u | u | u | u | u | u | u | u
  · unfold aF at u; omega
  all_goals omega
theorem fdep_ne {f g a j : Int} (hs : s = 0 ∨ s = 1) (hf : 0 ≤ f ∧ f < 9) (hg : 0 ≤ g ∧ g < 9) (u : fdep s f a j) (v : fdep s g a j) : f = g := by
  by_cases h : a < 1980
  · have h1 := fdep_lo u h
    have h2 := fdep_lo v h
    unfold aF at h1 h2
    omega
  · rcases u with u | u | u | u | u | u | u | u | u
    · unfold aF at u; omega
    all_goals
      rcases v with v | v | v | v | v | v | v | v | v
      · unfold aF at v; omega
      all_goals omega
theorem cdep_lo {k a j : Int} (u : cdep s k a j) (h : a < 1980) : aC s k ≤ a ∧ a ≤ aC s k + 33 := by
  rcases u with u | u | u | u | u <;> omega
theorem cdep_hi {k a j : Int} (hs : s = 0 ∨ s = 1) (hk : 0 ≤ k ∧ k < 24) (u : cdep s k a j) (h : ¬ a < 1980) : 1995 ≤ a ∧ a ≤ 2007 ∧ a ≠ 1996 := by
  rcases u with u | u | u | u | u
  · unfold aC at u; omega
  all_goals omega
theorem orR_fr2 (hs : s = 0 ∨ s = 1) (hS : D' (5 + 975 * s) 5 = D (5 + 975 * s) 5) (hI : ∀ j, D' (977 + 975 * s) j = D (977 + 975 * s) j) (hC : ∀ k, 0 ≤ k → k < 24 → D' (aC s k) 3 = D (aC s k) 3) (hm : ∀ j, 24 * s ≤ j → j < 24 * s + 24 → D' 1996 j = D 1996 j) (ho : D' 1977 22 = D 1977 22) (hx : orR D s) : orR D' s := by
  obtain ⟨d1, d2, d3, d4⟩ := hx
  unfold orR
  simp only [hS, hI, ho]
  refine ⟨⟨d1.1, d1.2.1, ?_⟩, fun p x y => ?_, fun p q x y z => ?_, fun k x y z => ?_⟩
  · rw [sm_ext (fun k x y => hC k x (by omega))]; exact d1.2.2
  · obtain ⟨e1, e2, e3, e4, e5⟩ := d2 p x y
    rw [hm _ (by omega) (by omega), hC _ e1 e2]
    exact ⟨e1, e2, e3, e4, e5⟩
  · have e1 := d2 p x (by omega)
    have e2 := d2 q (by omega) z
    rw [hm _ (by omega) (by omega), hm _ (by omega) (by omega)]
    exact d3 p q x y z
  · rw [hC k x y] at z
    exact d4 k x y z
theorem exR_fr2 {e q : Int} (h : ∀ a j, xdep e q a j → D' a j = D a j) (hx : exR D e q) : exR D' e q := by
  have h1 : ∀ a j, e ≤ a → a ≤ e + 3 → D' a j = D a j := fun a j u v => h _ _ (Or.inl ⟨u, v⟩)
  have hr : ∀ p, rat D' (e + 2) p = rat D (e + 2) p := rat_fr (h1 _ _ (by omega) (by omega)) (fun j => h1 _ _ (by omega) (by omega))
  have m3 : D' 2003 q = D 2003 q := h _ _ (Or.inr (Or.inl ⟨Or.inl rfl, rfl⟩))
  have m4 : D' 2004 q = D 2004 q := h _ _ (Or.inr (Or.inl ⟨Or.inr (Or.inl rfl), rfl⟩))
  have m5 : D' 2005 q = D 2005 q := h _ _ (Or.inr (Or.inl ⟨Or.inr (Or.inr (Or.inl rfl)), rfl⟩))
  have m7 : D' 2007 q = D 2007 q := h _ _ (Or.inr (Or.inl ⟨Or.inr (Or.inr (Or.inr rfl)), rfl⟩))
  obtain ⟨a, b, d⟩ := hx
  refine ⟨by rw [h1 _ _ (by omega) (by omega), m3]; exact a, fun y => ?_, fun y => ?_⟩
  · rw [h1 _ _ (by omega) (by omega)] at y
    obtain ⟨b1, b2, b3, b4⟩ := b y
    refine ⟨by rw [h1 _ _ (by omega) (by omega), m4]; exact b1, by rw [h1 _ _ (by omega) (by omega), m5]; exact b2, rowm_fr2 (fun j => h1 _ _ (by omega) (by omega)) (fun j => h1 _ _ (by omega) (by omega)) (fun j u v => h _ _ (Or.inr (Or.inr ⟨rfl, u, v⟩))) m7 b3, lsW_fr (h1 _ _ (by omega) (by omega)) hr (h1 _ _ (by omega) (by omega)) b4⟩
  · rw [h1 _ _ (by omega) (by omega)] at y
    rw [h1 _ _ (by omega) (by omega), h1 _ _ (by omega) (by omega), h1 _ _ (by omega) (by omega)]
    exact d y
theorem chR_fr2 {k : Int} (hc : c ≤ c') (hS : D' (5 + 975 * s) 4 = D (5 + 975 * s) 4) (hK : D' (aF s (D (aC s k) 4)) 5 = D (aF s (D (aC s k) 4)) 5 ∧ D (aF s (D (aC s k) 4)) 6 ≤ D' (aF s (D (aC s k) 4)) 6) (h : ∀ a j, cdep s k a j → D' a j = D a j) (hx : chR c D s k) : chR c' D' s k := by
  have h1 : ∀ a j, aC s k ≤ a → a ≤ aC s k + 33 → D' a j = D a j := fun a j u v => h _ _ (Or.inl ⟨u, v⟩)
  have hr : ∀ p, rat D' (aC s k + 2) p = rat D (aC s k + 2) p := rat_fr (h1 _ _ (by omega) (by omega)) (fun j => h1 _ _ (by omega) (by omega))
  have hm : ∀ a, (a = 1995 ∨ a = 1998 ∨ a = 1999 ∨ a = 2000 ∨ a = 2001) → D' a (24 * s + k) = D a (24 * s + k) := fun a u => h _ _ (Or.inr (Or.inl ⟨u, rfl⟩))
  obtain ⟨a1, ⟨a2, a3⟩, a4, a5, a6, a7, a8⟩ := hx
  refine ⟨by rw [hS, h1 _ _ (by omega) (by omega), hm 1995 (by omega)]; exact a1, ⟨rowm_fr2 (fun j => h1 _ _ (by omega) (by omega)) (fun j => h1 _ _ (by omega) (by omega)) (fun j u v => h _ _ (Or.inr (Or.inr (Or.inl ⟨rfl, u, v⟩)))) (hm 1998 (by omega)) a2, lsW_fr (h1 _ _ (by omega) (by omega)) hr (h1 _ _ (by omega) (by omega)) a3⟩, by rw [h1 _ _ (by omega) (by omega), hm 1999 (by omega)]; exact a4, by rw [h1 _ _ (by omega) (by omega), hm 2000 (by omega)]; exact a5, by rw [h1 _ _ (by omega) (by omega), hm 2001 (by omega)]; exact a6, fun b x y => ?_, fun b x y => ?_⟩
  · rw [h1 (aC s k + 4) b (by omega) (by omega), h 2002 _ (Or.inr (Or.inr (Or.inr (Or.inl ⟨Or.inl rfl, by omega, by omega⟩)))), h1 (aC s k) 4 (by omega) (by omega), hK.1]
    obtain ⟨u1, u2, u3, u4⟩ := a7 b x y
    exact ⟨u1, u2, by omega, fun w => u4 (w.imp id (fun z => Int.lt_of_le_of_lt hK.2 z))⟩
  · refine exR_fr2 (fun a j u => h _ _ ?_) (a8 b x y)
    rcases u with u | u | u
    · exact Or.inl (by unfold aX at u; unfold aC; omega)
    · exact Or.inr (Or.inr (Or.inr (Or.inl (by omega))))
    · exact Or.inr (Or.inr (Or.inr (Or.inr (by omega))))
theorem faR_fr2 {f : Int} (h : ∀ a j, fdep s f a j → D' a j = D a j) (hx : faR D s f) : faR D' s f := by
  have h1 : ∀ a j, aF s f ≤ a → a ≤ aF s f + 16 → D' a j = D a j := fun a j u v => h _ _ (Or.inl ⟨u, v⟩)
  have hr : ∀ q, 1 ≤ q → q ≤ 15 → ∀ p, rat D' (aF s f + q) p = rat D (aF s f + q) p := fun q u v => rat_fr (h1 _ _ (by omega) (by omega)) (fun j => h1 _ _ (by omega) (by omega))
  have hm : ∀ a, (a = 1980 ∨ a = 1982 ∨ a = 1984 ∨ a = 1986 ∨ a = 1988 ∨ a = 1991) → D' a (8 * s + f) = D a (8 * s + f) := fun a u => h _ _ (Or.inr (Or.inl ⟨u, rfl⟩))
  obtain ⟨a1, ⟨a2, a3⟩, a4, ⟨a5, a6⟩, a7, a8, a9⟩ := hx
  refine ⟨by rw [h1 _ _ (by omega) (by omega), hm 1980 (by omega)]; exact a1, ⟨rowm_fr2 (fun j => h1 _ _ (by omega) (by omega)) (fun j => h1 _ _ (by omega) (by omega)) (fun j u v => h _ _ (Or.inr (Or.inr (Or.inl ⟨rfl, by omega, by omega⟩)))) (hm 1982 (by omega)) a2, ?_⟩, rowm_fr2 (fun j => h1 _ _ (by omega) (by omega)) (fun j => h1 _ _ (by omega) (by omega)) (fun j u v => h _ _ (Or.inr (Or.inr (Or.inr (Or.inl ⟨rfl, by omega, by omega⟩))))) (hm 1984 (by omega)) a4, ⟨rowm_fr2 (fun j => h1 _ _ (by omega) (by omega)) (fun j => h1 _ _ (by omega) (by omega)) (fun j u v => h _ _ (Or.inr (Or.inr (Or.inr (Or.inr (Or.inl ⟨rfl, by omega, by omega⟩)))))) (hm 1986 (by omega)) a5, ?_⟩, ?_, ?_, fun z => ?_⟩
  · rw [h1 _ _ (by omega) (by omega)]; exact namP_fr (hr 1 (by omega) (by omega)) a3
  · rw [h1 _ _ (by omega) (by omega)]; exact txtP_fr (hr 5 (by omega) (by omega)) a6
  · rw [h1 (aF s f) 6 (by omega) (by omega), h1 (aF s f) 5 (by omega) (by omega), hm 1988 (by omega)]
    obtain ⟨b1, b2, b3, b4, b5, b6⟩ := a7
    refine ⟨b1, b2, b3, b4, fun k x y => ?_, fun k x y => ?_⟩
    · rw [h1 _ _ (by omega) (by omega), h 1987 _ (Or.inr (Or.inr (Or.inr (Or.inr (Or.inr (Or.inl ⟨rfl, by omega, by omega⟩))))))]; exact b5 k x y
    · rw [h1 _ _ (by omega) (by omega), h1 _ _ (by omega) (by omega)]; exact b6 k x y
  · rw [h1 (aF s f) 7 (by omega) (by omega), h1 (aF s f) 5 (by omega) (by omega), hm 1991 (by omega)]
    obtain ⟨b1, b2, b3, b4, b5⟩ := a8
    refine ⟨b1, b2, b3, b4, fun k x y => ?_⟩
    obtain ⟨b6, b7⟩ := b5 k x y
    refine ⟨rowm_fr2 (fun j => h1 _ _ (by omega) (by omega)) (fun j => h1 _ _ (by omega) (by omega)) (fun j u v => h _ _ (Or.inr (Or.inr (Or.inr (Or.inr (Or.inr (Or.inr (Or.inl ⟨rfl, by omega, by omega⟩)))))))) (h 1990 _ (Or.inr (Or.inr (Or.inr (Or.inr (Or.inr (Or.inr (Or.inr (Or.inl ⟨rfl, by omega, by omega⟩))))))))) b6, ?_⟩
    rw [h1 _ _ (by omega) (by omega)]
    refine txtP_fr (fun p => ?_) b7
    have := hr (9 + 2 * k) (by omega) (by omega) p
    rw [show aF s f + (9 + 2 * k) = aF s f + 9 + 2 * k from by omega] at this
    exact this
  · rw [h1 (aF s f) 8 (by omega) (by omega), h1 (aF s f) 9 (by omega) (by omega), h 1993 _ (Or.inr (Or.inr (Or.inr (Or.inr (Or.inr (Or.inr (Or.inr (Or.inr (⟨z, Or.inr rfl, rfl⟩))))))))), h 1992 _ (Or.inr (Or.inr (Or.inr (Or.inr (Or.inr (Or.inr (Or.inr (Or.inr (⟨z, Or.inl rfl, rfl⟩)))))))))]
    exact a9 z
/-- on what a sheet depends -/
def sdep (s a j : Int) : Prop := (5 + 975 * s ≤ a ∧ a ≤ 979 + 975 * s) ∨ (a = 1979 ∧ j = s) ∨ ((1980 ≤ a ∧ a ≤ 1991) ∧ ∃ f, 0 ≤ f ∧ f < 8 ∧ fdep s f a j) ∨ (s = 0 ∧ (a = 1992 ∨ a = 1993)) ∨ ((a = 1994 ∨ a = 1996) ∧ 24 * s ≤ j ∧ j < 24 * s + 24) ∨ ((1995 ≤ a ∧ a ≤ 2007) ∧ ∃ k, 0 ≤ k ∧ k < 24 ∧ cdep s k a j) ∨ (a = 1977 ∧ j = 22)
theorem sdep_f {f a j : Int} (hs : s = 0 ∨ s = 1) (hf : 0 ≤ f ∧ f < 8) (u : fdep s f a j) : sdep s a j := by
  by_cases hl : a < 1980
  · have := fdep_lo u hl
    unfold aF at this
    exact Or.inl (by omega)
  · have h2 := fdep_hi hs (by omega) u hl
    by_cases h9 : a ≤ 1991
    · exact Or.inr (Or.inr (Or.inl ⟨by omega, f, hf.1, hf.2, u⟩))
    · exact Or.inr (Or.inr (Or.inr (Or.inl (by omega))))
theorem sdep_c {k a j : Int} (hs : s = 0 ∨ s = 1) (hk : 0 ≤ k ∧ k < 24) (u : cdep s k a j) : sdep s a j := by
  by_cases hl : a < 1980
  · have := cdep_lo u hl
    unfold aC at this
    exact Or.inl (by omega)
  · have h2 := cdep_hi hs hk u hl
    exact Or.inr (Or.inr (Or.inr (Or.inr (Or.inr (Or.inl ⟨by omega, k, hk.1, hk.2, u⟩)))))
theorem shR_fr2 (hs : s = 0 ∨ s = 1) (hc : c ≤ c') (h : ∀ a j, sdep s a j → D' a j = D a j) (hx : shR c D s) : shR c' D' s := by
  have h1 : ∀ a j, 5 + 975 * s ≤ a → a ≤ 979 + 975 * s → D' a j = D a j := fun a j x y => h a j (Or.inl ⟨x, y⟩)
  have h94 : ∀ a j, a = 1994 ∨ a = 1996 → 24 * s ≤ j → j < 24 * s + 24 → D' a j = D a j := fun a j x y z => h a j (Or.inr (Or.inr (Or.inr (Or.inr (Or.inl ⟨x, y, z⟩)))))
  have h22 : D' 1977 22 = D 1977 22 := h _ _ (Or.inr (Or.inr (Or.inr (Or.inr (Or.inr (Or.inr ⟨rfl, rfl⟩))))))
  obtain ⟨a1, a2, a3, a4⟩ := hx
  refine ⟨by rw [h1 _ _ (by omega) (by omega), h 1979 s (Or.inr (Or.inl ⟨rfl, rfl⟩))]; exact a1, fun f x y => ?_, fun k x y => ?_, orR_fr2 hs (h1 _ _ (by omega) (by omega)) (fun j => h1 _ _ (by omega) (by omega)) (fun k x y => h1 _ _ (by unfold aC; omega) (by unfold aC; omega)) (fun j x y => h94 _ _ (Or.inr rfl) x y) h22 a4⟩
  · rw [h1 _ _ (by omega) (by omega)] at y
    exact faR_fr2 (fun a j u => h _ _ (sdep_f hs (by omega) u)) (a2 f x y)
  · obtain ⟨b1, b2, b3⟩ := a3 k x y
    have e : D' (aC s k) 3 = D (aC s k) 3 := h1 _ _ (by unfold aC; omega) (by unfold aC; omega)
    rw [e, h94 1994 _ (Or.inl rfl) (by omega) (by omega)]
    exact ⟨b1, b2, fun z => chR_fr2 hc (h1 _ _ (by omega) (by omega)) (kfR (fun j => h1 _ _ (by have := (b3 z).1; unfold aF; omega) (by have := (b3 z).1; unfold aF; omega))) (fun a j u => h _ _ (sdep_c hs ⟨x, y⟩ u)) (b3 z)⟩
/-- a sheet with one family other than before -/
theorem shR_fam {f : Int} (hs : s = 0 ∨ s = 1) (hf : 0 ≤ f ∧ f < 9) (hc : c ≤ c') (hF : f < D (5 + 975 * s) 4 → faR D' s f) (hk : D' (aF s f) 5 = D (aF s f) 5 ∧ D (aF s f) 6 ≤ D' (aF s f) 6) (h : ∀ a j, sdep s a j → ¬ fdep s f a j → D' a j = D a j) (hx : shR c D s) : shR c' D' s := by
  have nf : ∀ a j, a < 1980 → ¬ (aF s f ≤ a ∧ a ≤ aF s f + 16) → ¬ fdep s f a j := fun a j x y z => y (fdep_lo z x)
  have nh : ∀ a j, 1993 < a → ¬ fdep s f a j := fun a j x z => by have := fdep_hi hs hf z (by omega); omega
  have h2 : ∀ a j, 5 + 975 * s ≤ a → a ≤ 979 + 975 * s → ¬ (aF s f ≤ a ∧ a ≤ aF s f + 16) → D' a j = D a j := fun a j x y z => h a j (Or.inl ⟨x, y⟩) (nf a j (by omega) z)
  have h94 : ∀ a j, a = 1994 ∨ a = 1996 → 24 * s ≤ j → j < 24 * s + 24 → D' a j = D a j := fun a j x y z => h a j (Or.inr (Or.inr (Or.inr (Or.inr (Or.inl ⟨x, y, z⟩))))) (nh _ _ (by omega))
  have h22 : D' 1977 22 = D 1977 22 := h _ _ (Or.inr (Or.inr (Or.inr (Or.inr (Or.inr (Or.inr ⟨rfl, rfl⟩)))))) (nf _ _ (by omega) (by unfold aF; omega))
  have hS : ∀ j, D' (5 + 975 * s) j = D (5 + 975 * s) j := fun j => h2 _ _ (by omega) (by omega) (by unfold aF; omega)
  obtain ⟨a1, a2, a3, a4⟩ := hx
  refine ⟨by rw [hS, h 1979 s (Or.inr (Or.inl ⟨rfl, rfl⟩)) (nf _ _ (by omega) (by unfold aF; omega))]; exact a1, fun g x y => ?_, fun k x y => ?_, orR_fr2 hs (hS _) (fun j => h2 _ _ (by omega) (by omega) (by unfold aF; omega)) (fun k x y => h2 _ _ (by unfold aC; omega) (by unfold aC; omega) (by unfold aC aF; omega)) (fun j x y => h94 _ _ (Or.inr rfl) x y) h22 a4⟩
  · rw [hS] at y
    by_cases e : g = f
    · subst e
      exact hF y
    · exact faR_fr2 (fun a j u => h a j (sdep_f hs (by omega) u) (fun w => e (fdep_ne hs (by omega) hf u w))) (a2 g x y)
  · obtain ⟨b1, b2, b3⟩ := a3 k x y
    have e : D' (aC s k) 3 = D (aC s k) 3 := h2 _ _ (by unfold aC; omega) (by unfold aC; omega) (by unfold aC aF; omega)
    rw [e, h94 1994 _ (Or.inl rfl) (by omega) (by omega)]
    refine ⟨b1, b2, fun z => ?_⟩
    have hp := (b3 z).1
    refine chR_fr2 hc (hS _) ?_ (fun a j u => h a j (sdep_c hs ⟨x, y⟩ u) (fun w => ?_)) (b3 z)
    · by_cases e2 : D (aC s k) 4 = f
      · rw [e2]; exact hk
      · exact kfR (fun j => h2 _ _ (by unfold aF; omega) (by unfold aF; omega) (by unfold aF; omega))
    · by_cases hl : a < 1980
      · have v1 := cdep_lo u hl
        have v2 := fdep_lo w hl
        unfold aC at v1
        unfold aF at v2
        omega
      · have v1 := cdep_hi hs ⟨x, y⟩ u hl
        have v2 := fdep_hi hs hf w hl
        omega
end UPD
