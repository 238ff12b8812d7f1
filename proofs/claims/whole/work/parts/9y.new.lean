/-! a sheet with one child more -/
section NEWC
variable {D D' : tD} {c c' s : Int}
theorem orR_up (hs : s = 0 ∨ s = 1) (hS : D' (5 + 975 * s) 5 = D (5 + 975 * s) 5) (hI : ∀ j, D' (977 + 975 * s) j = D (977 + 975 * s) j) (hC : ∀ k, 0 ≤ k → k < 24 → D' (aC s k) 3 = D (aC s k) 3) (hm : ∀ j, 24 * s ≤ j → j < 24 * s + 24 → D' 1996 j = D 1996 j) (ho : D 1977 22 ≤ D' 1977 22) (hx : orR D s) : orR D' s := by
  obtain ⟨d1, d2, d3, d4⟩ := hx
  unfold orR
  simp only [hS, hI]
  refine ⟨⟨d1.1, d1.2.1, ?_⟩, fun p x y => ?_, fun p q x y z => ?_, fun k x y z => ?_⟩
  · rw [sm_ext (fun k x y => hC k x (by omega))]; exact d1.2.2
  · obtain ⟨e1, e2, e3, e4, e5⟩ := d2 p x y
    rw [hm _ (by omega) (by omega), hC _ e1 e2]
    exact ⟨e1, e2, e3, e4, by omega⟩
  · have e1 := d2 p x (by omega)
    have e2 := d2 q (by omega) z
    rw [hm _ (by omega) (by omega), hm _ (by omega) (by omega)]
    exact d3 p q x y z
  · rw [hC k x y] at z
    exact d4 k x y z
/-- the other sheet: only the count of orders is higher -/
theorem shR_up (hs : s = 0 ∨ s = 1) (hc : c ≤ c') (h22 : D 1977 22 ≤ D' 1977 22) (h : ∀ a j, sdep s a j → a ≠ 1977 → D' a j = D a j) (hx : shR c D s) : shR c' D' s := by
  have h1 : ∀ a j, 5 + 975 * s ≤ a → a ≤ 979 + 975 * s → D' a j = D a j := fun a j x y => h a j (Or.inl ⟨x, y⟩) (by omega)
  have h94 : ∀ a j, a = 1994 ∨ a = 1996 → 24 * s ≤ j → j < 24 * s + 24 → D' a j = D a j := fun a j x y z => h a j (Or.inr (Or.inr (Or.inr (Or.inr (Or.inl ⟨x, y, z⟩))))) (by omega)
  have ff : ∀ f a j, 0 ≤ f → f < 8 → fdep s f a j → D' a j = D a j := fun f a j u v w => h _ _ (sdep_f hs ⟨u, v⟩ w) (by
    by_cases hl : a < 1980
    · have := fdep_lo w hl
      unfold aF at this
      omega
    · omega)
  have fc : ∀ k a j, 0 ≤ k → k < 24 → cdep s k a j → D' a j = D a j := fun k a j u v w => h _ _ (sdep_c hs ⟨u, v⟩ w) (by
    by_cases hl : a < 1980
    · have := cdep_lo w hl
      unfold aC at this
      omega
    · omega)
  obtain ⟨a1, a2, a3, a4⟩ := hx
  refine ⟨by rw [h1 _ _ (by omega) (by omega), h 1979 s (Or.inr (Or.inl ⟨rfl, rfl⟩)) (by omega)]; exact a1, fun f x y => ?_, fun k x y => ?_, orR_up hs (h1 _ _ (by omega) (by omega)) (fun j => h1 _ _ (by omega) (by omega)) (fun k x y => h1 _ _ (by unfold aC; omega) (by unfold aC; omega)) (fun j x y => h94 _ _ (Or.inr rfl) x y) h22 a4⟩
  · rw [h1 _ _ (by omega) (by omega)] at y
    exact faR_fr2 (fun a j u => ff f a j x (by omega) u) (a2 f x y)
  · obtain ⟨b1, b2, b3⟩ := a3 k x y
    have e : D' (aC s k) 3 = D (aC s k) 3 := h1 _ _ (by unfold aC; omega) (by unfold aC; omega)
    rw [e, h94 1994 _ (Or.inl rfl) (by omega) (by omega)]
    exact ⟨b1, b2, fun z => chR_fr2 hc (h1 _ _ (by omega) (by omega)) (kfR (fun j => h1 _ _ (by have := (b3 z).1; unfold aF; omega) (by have := (b3 z).1; unfold aF; omega))) (fun a j u => fc k a j x y u) (b3 z)⟩
/-- a row that both have just laid -/
theorem rowm_new {r cap arr off : Int} {l : List Int} (h1 : D' r 1 = (l.length : Int)) (h2 : atL D' (r + 1) 0 l) (h3 : atL D' arr off l) (hl : (l.length : Int) ≤ cap) (hr : ∀ b ∈ l, 0 ≤ b ∧ b ≤ 127) : rowm D' r cap arr off (l.length : Int) := by
  refine ⟨h1, by omega, hl, fun j u w => ?_⟩
  have e := atL_eq h2 h3 j u w
  have m := hr _ (atL_mem h3 j u w)
  rw [show (0 : Int) + j = j from by omega] at e
  omega
theorem lbs_rng {S : List (List Int)} (h : ∀ x ∈ S, lbl x) : ∀ b ∈ S.flatten, 0 ≤ b ∧ b ≤ 127 := fun b hb => by
  obtain ⟨y, y1, y2⟩ := List.mem_flatten.mp hb
  have := lbl_rng (h y y1) b y2
  omega
/-- what both have of a new child -/
def nwR (D' : tD) (s k f t : Int) (S : List (List Int)) : Prop := (D' (aC s k) 3 = 1 ∧ D' (aC s k) 4 = f ∧ D' (aC s k) 5 = 0 ∧ D' (aC s k) 6 = t ∧ D' (aC s k) 7 = 0) ∧ lsIs D' (aC s k + 1) S ∧ (∀ b, 0 ≤ b → b < 7 → D' (aC s k + 4) b = 0 ∧ D' (aX s k b) 1 = 0 ∧ D' (aX s k b) 2 = 0 ∧ D' (aX s k b) 3 = 0 ∧ D' (aX s k b + 2) 1 = 0) ∧ (D' 1994 (24 * s + k) = 1 ∧ D' 1995 (24 * s + k) = f + 8 * s) ∧ (D' 1998 (24 * s + k) = (S.flatten.length : Int) ∧ atL D' 1997 (66 * (24 * s + k)) S.flatten) ∧ (D' 1999 (24 * s + k) = 0 ∧ D' 2001 (24 * s + k) = 0 ∧ D' 2000 (24 * s + k) = t) ∧ ∀ b, 0 ≤ b → b < 7 → D' 2002 (7 * (24 * s + k) + b) = 0 ∧ D' 2003 (7 * (24 * s + k) + b) = 0
theorem chR_new {k f t : Int} {S : List (List Int)} (h : nwR D' s k f t S) (hf : 0 ≤ f ∧ f < D' (5 + 975 * s) 4) (hS : srtL S) (hl : S.flatten.length ≤ 66) (ht : -1 ≤ t ∧ t ≤ 2000000000000000) (hc : 0 ≤ c) : chR c D' s k := by
  have mN : mostN = 999999999999999 := rfl
  obtain ⟨⟨b3, b4, b5, b6, b7⟩, hls, hcx, ⟨m4, m5⟩, ⟨m8, m7⟩, ⟨m9, m1, m0⟩, hmx⟩ := h
  have hls0 := hls
  obtain ⟨l1, l2, l3, l4⟩ := hls
  rw [show aC s k + 1 + 1 = aC s k + 2 from by omega] at l2
  rw [show aC s k + 1 + 2 = aC s k + 3 from by omega] at l3
  refine ⟨by rw [b4, m5]; omega, ⟨?_, ?_⟩, by rw [b5, m9]; omega, by rw [b6, m0]; omega, by rw [b7, m1]; omega, fun b u v => ?_, fun b u v => ?_⟩
  · rw [m8]
    exact rowm_new l2 (by rw [show aC s k + 2 + 1 = aC s k + 3 from by omega]; exact l3) m7 (by omega) (lbs_rng l4)
  · have := lsIs_lsW hls0 hS
    rw [show aC s k + 1 + 1 = aC s k + 2 from by omega] at this
    exact this
  · rw [(hcx b u v).1, (hmx b u v).1]
    exact ⟨rfl, by omega, by omega, fun _ => rfl⟩
  · obtain ⟨_, x1, x2, x3, x4⟩ := hcx b u v
    refine ⟨by rw [x1, (hmx b u v).2], fun w => by omega, fun _ => ⟨x2, x3, x4⟩⟩
theorem shR_new {k f t n : Int} {S : List (List Int)} (hs : s = 0 ∨ s = 1) (hk : 0 ≤ k ∧ k < 24) (hk3 : D (aC s k) 3 = 0) (hc : c ≤ c') (hc0 : 0 ≤ c) (hf : 0 ≤ f ∧ f < D (5 + 975 * s) 4) (hS : srtL S) (hl : S.flatten.length ≤ 66) (ht : -1 ≤ t ∧ t ≤ 2000000000000000)
    (hn : D (5 + 975 * s) 5 = n) (hN : nwR D' s k f t S) (h5 : D' (5 + 975 * s) 5 = n + 1) (hI : D' (977 + 975 * s) n = k) (h96 : D' 1996 (24 * s + k) = D 1977 22) (h22 : D' 1977 22 = D 1977 22 + 1) (h220 : 0 ≤ D 1977 22) (h9 : s = 0 → D' (aF s f) 9 = 1 ∧ D' 1992 f = 1)
    (h : ∀ a j, sdep s a j → ¬ cdep s k a j → ¬ (a = 977 + 975 * s ∧ j = n) → ¬ (a = 5 + 975 * s ∧ j = 5) → ¬ (a = aF s f ∧ j = 9) → ¬ (a = 1992 ∧ j = f) → ¬ ((a = 1994 ∨ a = 1996) ∧ j = 24 * s + k) → a ≠ 1977 → D' a j = D a j) (hx : shR c D s) : shR c' D' s := by
  have eK : aC s k = 161 + 975 * s + 34 * k := rfl
  have eF : aF s f = 7 + 975 * s + 17 * f := rfl
  obtain ⟨a1, a2, a3, ⟨o1, o2, o3, o4⟩⟩ := hx
  have nc : ∀ a j, a < 1980 → ¬ (aC s k ≤ a ∧ a ≤ aC s k + 33) → ¬ cdep s k a j := fun a j x y z => y (cdep_lo z x)
  have nh : ∀ a j, ¬ a < 1980 → ¬ (1995 ≤ a ∧ a ≤ 2007 ∧ a ≠ 1996) → ¬ cdep s k a j := fun a j x y z => y (cdep_hi hs hk z x)
  have h2 : ∀ a j, 5 + 975 * s ≤ a → a ≤ 979 + 975 * s → ¬ (aC s k ≤ a ∧ a ≤ aC s k + 33) → ¬ (a = 977 + 975 * s ∧ j = n) → ¬ (a = 5 + 975 * s ∧ j = 5) → ¬ (a = aF s f ∧ j = 9) → D' a j = D a j := fun a j x y z w1 w2 w3 => h a j (Or.inl ⟨x, y⟩) (nc a j (by omega) z) w1 w2 w3 (by omega) (by omega) (by omega)
  have h94 : ∀ a j, a = 1994 ∨ a = 1996 → 24 * s ≤ j → j < 24 * s + 24 → j ≠ 24 * s + k → D' a j = D a j := fun a j x y z w => h a j (Or.inr (Or.inr (Or.inr (Or.inr (Or.inl ⟨x, y, z⟩))))) (nh _ _ (by omega) (by omega)) (by omega) (by omega) (by omega) (by omega) (by omega) (by omega)
  have h4 : D' (5 + 975 * s) 4 = D (5 + 975 * s) 4 := h2 _ _ (by omega) (by omega) (by omega) (by omega) (by omega) (by omega)
  have n3 : ∀ g, 0 ≤ g → g < 24 → g ≠ k → D' (aC s g) 3 = D (aC s g) 3 := fun g u v w => h2 _ _ (by unfold aC; omega) (by unfold aC; omega) (by unfold aC; omega) (by unfold aC; omega) (by unfold aC; omega) (by unfold aC; omega)
  have k3 : D' (aC s k) 3 = 1 := hN.1.1
  have hIj : ∀ j, j ≠ n → D' (977 + 975 * s) j = D (977 + 975 * s) j := fun j u => h2 _ _ (by omega) (by omega) (by omega) (by omega) (by omega) (by omega)
  refine ⟨by rw [h4, h 1979 s (Or.inr (Or.inl ⟨rfl, rfl⟩)) (nc _ _ (by omega) (by omega)) (by omega) (by omega) (by omega) (by omega) (by omega) (by omega)]; exact a1, fun g u v => ?_, fun g u v => ?_, ⟨?_, fun p u v => ?_, fun p q u v w => ?_, fun g u v w => ?_⟩⟩
  · rw [h4] at v
    have nf : ∀ a j, fdep s g a j → ¬ (a = aF s f ∧ j = 9) → ¬ (a = 1992 ∧ j = f) → D' a j = D a j := fun a j w z1 z2 => by
      refine h a j (sdep_f hs (by omega) w) (fun y => cdep_fdep hs hk (by omega) y w) ?_ ?_ z1 z2 ?_ ?_
      all_goals
        by_cases hl : a < 1980
        · have := fdep_lo w hl
          unfold aF at this
          omega
        · have := fdep_hi hs (by omega) w hl
          omega
    by_cases e : g = f
    · subst e
      have fg := a2 g u v
      have lo : ∀ a j, aF s g ≤ a → a ≤ aF s g + 16 → ¬ (a = aF s g ∧ j = 9) → D' a j = D a j := fun a j w1 w2 w3 => nf a j (Or.inl ⟨w1, w2⟩) w3 (by omega)
      have hi : ∀ a j, (a = 1980 ∨ a = 1982 ∨ a = 1984 ∨ a = 1986 ∨ a = 1988 ∨ a = 1991) → j = 8 * s + g → D' a j = D a j := fun a j w1 w2 => nf a j (Or.inr (Or.inl ⟨w1, w2⟩)) (by omega) (by omega)
      obtain ⟨f1, ⟨f2, f3⟩, f4, ⟨f5, f6⟩, f7, f8, f9⟩ := fg
      have hr : ∀ q, 1 ≤ q → q ≤ 15 → ∀ p, rat D' (aF s g + q) p = rat D (aF s g + q) p := fun q u v => rat_fr (lo _ _ (by omega) (by omega) (by omega)) (fun j => lo _ _ (by omega) (by omega) (by omega))
      refine ⟨by rw [lo _ _ (by omega) (by omega) (by omega), hi 1980 _ (by omega) rfl]; exact f1, ⟨rowm_fr2 (fun j => lo _ _ (by omega) (by omega) (by omega)) (fun j => lo _ _ (by omega) (by omega) (by omega)) (fun j w1 w2 => nf _ _ (Or.inr (Or.inr (Or.inl ⟨rfl, w1, w2⟩))) (by omega) (by omega)) (hi _ _ (by omega) rfl) f2, ?_⟩, rowm_fr2 (fun j => lo _ _ (by omega) (by omega) (by omega)) (fun j => lo _ _ (by omega) (by omega) (by omega)) (fun j w1 w2 => nf _ _ (Or.inr (Or.inr (Or.inr (Or.inl ⟨rfl, w1, w2⟩)))) (by omega) (by omega)) (hi _ _ (by omega) rfl) f4, ⟨rowm_fr2 (fun j => lo _ _ (by omega) (by omega) (by omega)) (fun j => lo _ _ (by omega) (by omega) (by omega)) (fun j w1 w2 => nf _ _ (Or.inr (Or.inr (Or.inr (Or.inr (Or.inl ⟨rfl, w1, w2⟩))))) (by omega) (by omega)) (hi _ _ (by omega) rfl) f5, ?_⟩, ?_, ?_, fun z => ?_⟩
      · rw [lo _ _ (by omega) (by omega) (by omega)]; exact namP_fr (hr 1 (by omega) (by omega)) f3
      · rw [lo _ _ (by omega) (by omega) (by omega)]; exact txtP_fr (hr 5 (by omega) (by omega)) f6
      · obtain ⟨p1, p2, p3, p4, p5, p6⟩ := f7
        rw [lo (aF s g) 6 (by omega) (by omega) (by omega), lo (aF s g) 5 (by omega) (by omega) (by omega), hi 1988 _ (by omega) rfl]
        refine ⟨p1, p2, p3, p4, fun q x y => ?_, fun q x y => ?_⟩
        · rw [lo _ _ (by omega) (by omega) (by omega), nf 1987 _ (Or.inr (Or.inr (Or.inr (Or.inr (Or.inr (Or.inl ⟨rfl, by omega, by omega⟩)))))) (by omega) (by omega)]; exact p5 q x y
        · rw [lo _ _ (by omega) (by omega) (by omega), lo _ _ (by omega) (by omega) (by omega)]; exact p6 q x y
      · obtain ⟨p1, p2, p3, p4, p5⟩ := f8
        rw [lo (aF s g) 7 (by omega) (by omega) (by omega), lo (aF s g) 5 (by omega) (by omega) (by omega), hi 1991 _ (by omega) rfl]
        refine ⟨p1, p2, p3, p4, fun q x y => ?_⟩
        obtain ⟨q1, q2⟩ := p5 q x y
        refine ⟨rowm_fr2 (fun j => lo _ _ (by omega) (by omega) (by omega)) (fun j => lo _ _ (by omega) (by omega) (by omega)) (fun j w1 w2 => nf 1989 _ (Or.inr (Or.inr (Or.inr (Or.inr (Or.inr (Or.inr (Or.inl ⟨rfl, by omega, by omega⟩))))))) (by omega) (by omega)) (nf 1990 _ (Or.inr (Or.inr (Or.inr (Or.inr (Or.inr (Or.inr (Or.inr (Or.inl ⟨rfl, by omega, by omega⟩)))))))) (by omega) (by omega)) q1, ?_⟩
        rw [lo _ _ (by omega) (by omega) (by omega)]
        refine txtP_fr (fun p => ?_) q2
        have := hr (9 + 2 * q) (by omega) (by omega) p
        rw [show aF s g + (9 + 2 * q) = aF s g + 9 + 2 * q from by omega] at this
        exact this
      · have g9 := f9 z
        obtain ⟨z1, z2⟩ := h9 z
        rw [lo (aF s g) 8 (by omega) (by omega) (by omega), nf 1993 _ (Or.inr (Or.inr (Or.inr (Or.inr (Or.inr (Or.inr (Or.inr (Or.inr ⟨z, Or.inr rfl, rfl⟩)))))))) (by omega) (by omega), z1, z2]
        exact ⟨g9.1, g9.2.1, g9.2.2.1, rfl⟩
    · refine faR_fr2 (fun a j w => nf a j w (fun y => ?_) (fun y => ?_)) (a2 g u v)
      · refine e (fdep_ne hs (by omega) (by omega) w (Or.inl ⟨by omega, by omega⟩))
      · by_cases z : s = 0
        · refine e (fdep_ne hs (by omega) (by omega) w ?_)
          rw [y.1, y.2]
          exact Or.inr (Or.inr (Or.inr (Or.inr (Or.inr (Or.inr (Or.inr (Or.inr ⟨z, Or.inl rfl, rfl⟩)))))))
        · have := fdep_hi hs (by omega) w (by omega)
          omega
  · by_cases e : g = k
    · subst e
      rw [k3, hN.2.2.2.1.1]
      exact ⟨rfl, Or.inr rfl, fun _ => chR_new hN (by rw [h4]; exact hf) hS hl ht (by omega)⟩
    · obtain ⟨b1, b2, b3⟩ := a3 g u v
      rw [n3 g u v e, h94 1994 _ (Or.inl rfl) (by omega) (by omega) (by omega)]
      refine ⟨b1, b2, fun z => ?_⟩
      have hp := (b3 z).1
      refine chR_fr2 hc h4 ⟨h2 _ _ (by unfold aF; omega) (by unfold aF; omega) (by unfold aF; omega) (by unfold aF; omega) (by unfold aF; omega) (by omega), Int.le_of_eq (h2 _ _ (by unfold aF; omega) (by unfold aF; omega) (by unfold aF; omega) (by unfold aF; omega) (by unfold aF; omega) (by omega)).symm⟩ (fun a j w => ?_) (b3 z)
      refine h a j (sdep_c hs ⟨u, v⟩ w) (fun y => e (cdep_ne hs ⟨u, v⟩ hk w y)) ?_ ?_ ?_ ?_ ?_ ?_
      all_goals
        by_cases hl : a < 1980
        · have := cdep_lo w hl
          unfold aC at this
          omega
        · have := cdep_hi hs ⟨u, v⟩ w hl
          omega
  · rw [h5]
    have key := sm_one (g := fun k => D (aC s k) 3) (h := fun k => D' (aC s k) 3) (k := k) (n := 24) hk.1 (by omega) (fun j z1 z2 e => n3 j z1 (by omega) e)
    have bd := sm_bound (g := fun j => D' (aC s j) 3) (a := 0) (b := 1) (n := 24) (fun j u v => by
      by_cases e : j = k
      · show 0 ≤ D' (aC s j) 3 ∧ D' (aC s j) 3 ≤ 1
        rw [e, k3]; omega
      · show 0 ≤ D' (aC s j) 3 ∧ D' (aC s j) 3 ≤ 1
        rw [n3 j u (by omega) e]
        have := (a3 j u (by omega)).2.1
        omega)
    have key' : sm (fun k => D' (aC s k) 3) 24 = n + 1 := by
      rw [key]
      show sm (fun k => D (aC s k) 3) 24 + (D' (aC s k) 3 - D (aC s k) 3) = n + 1
      rw [k3, hk3, o1.2.2]
      omega
    rw [key'] at bd
    exact ⟨by omega, by omega, key'⟩
  · rw [h5] at v
    rw [h22]
    by_cases e : p = n
    · rw [e, hI, k3, h96]
      exact ⟨hk.1, hk.2, rfl, h220, by omega⟩
    · rw [hIj p e]
      have := o2 p u (by omega)
      have nk : D (977 + 975 * s) p ≠ k := fun y => by rw [y, hk3] at this; omega
      rw [n3 _ this.1 this.2.1 nk, h94 1996 _ (Or.inr rfl) (by omega) (by omega) (by omega)]
      exact ⟨this.1, this.2.1, this.2.2.1, this.2.2.2.1, by omega⟩
  · rw [h5] at w
    have t1 := o2 p u (by omega)
    have nk1 : D (977 + 975 * s) p ≠ k := fun y => by rw [y, hk3] at t1; omega
    rw [hIj p (by omega), h94 1996 _ (Or.inr rfl) (by omega) (by omega) (by omega)]
    by_cases e : q = n
    · rw [e, hI, h96]
      exact t1.2.2.2.2
    · have t2 := o2 q (by omega) (by omega)
      have nk2 : D (977 + 975 * s) q ≠ k := fun y => by rw [y, hk3] at t2; omega
      rw [hIj q e, h94 1996 _ (Or.inr rfl) (by omega) (by omega) (by omega)]
      exact o3 p q u v (by omega)
  · by_cases e : g = k
    · exact ⟨n, by omega, by rw [h5]; omega, by rw [hI, e]⟩
    · rw [n3 g u v e] at w
      obtain ⟨p, p1, p2, p3⟩ := o4 g u v w
      exact ⟨p, p1, by rw [h5]; omega, by rw [hIj p (by omega)]; exact p3⟩
end NEWC
