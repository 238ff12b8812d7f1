/-! the law's loop: read -/
section RED
variable {sc : Nat × (Nat → Int32)} {D D' D1 A A' A1 A0 F : tD} {K : tD → Int → Prop} {E : tD → Nat → Prop} {T : Int → Int} {n c c' i : Int}
theorem fdep_cap {f x j : Int} (hf : 0 ≤ f ∧ f < 8) (h : fdep 0 f x j) : (5 ≤ x ∧ x ≤ 979) ∨ (1980 ≤ x ∧ x ≤ 2007 ∧ j < cap0 x) := by
  rcases h with w | w | w | w | w | w | w | w | w
  · unfold aF at w; omega
  · have e : cap0 x = 8 := by rcases w.1 with y | y | y | y | y | y <;> rw [y] <;> rfl
    omega
  · have e : cap0 1981 = 192 := rfl
    rw [w.1]; omega
  · have e : cap0 1983 = 64 := rfl
    rw [w.1]; omega
  · have e : cap0 1985 = 320 := rfl
    rw [w.1]; omega
  · have e : cap0 1987 = 48 := rfl
    rw [w.1]; omega
  · have e : cap0 1989 = 384 := rfl
    rw [w.1]; omega
  · have e : cap0 1990 = 32 := rfl
    rw [w.1]; omega
  · have e : cap0 x = 8 := by rcases w.2.1 with y | y <;> rw [y] <;> rfl
    omega
theorem cdep_cap {k x j : Int} (hk : 0 ≤ k ∧ k < 24) (h : cdep 0 k x j) : (5 ≤ x ∧ x ≤ 979) ∨ (1980 ≤ x ∧ x ≤ 2007 ∧ j < cap0 x) := by
  rcases h with w | w | w | w | w
  · unfold aC at w; omega
  · have e : cap0 x = 24 := by rcases w.1 with y | y | y | y | y <;> rw [y] <;> rfl
    omega
  · have e : cap0 1997 = 1584 := rfl
    rw [w.1]; omega
  · have e : cap0 x = 168 := by rcases w.1 with y | y | y | y | y <;> rw [y] <;> rfl
    omega
  · have e : cap0 2006 = 7392 := rfl
    rw [w.1]; omega
/-- the kept sheet stands where its cells stand -/
theorem shR_kp (hc : c ≤ c') (h22 : D 1977 22 ≤ D' 1977 22) (h : ∀ x j, (5 ≤ x ∧ x ≤ 979) ∨ (x = 1979 ∧ j = 0) ∨ (1980 ≤ x ∧ x ≤ 2007 ∧ j < cap0 x) → D' x j = D x j) (hx : shR c D 0) : shR c' D' 0 := by
  have h1 : ∀ a j, 5 + 975 * 0 ≤ a → a ≤ 979 + 975 * 0 → D' a j = D a j := fun a j x y => h a j (Or.inl (by omega))
  have h94 : ∀ a j, a = 1994 ∨ a = 1996 → 24 * 0 ≤ j → j < 24 * 0 + 24 → D' a j = D a j := fun a j x y z => by
    have e : cap0 a = 24 := by rcases x with y | y <;> rw [y] <;> rfl
    exact h a j (Or.inr (Or.inr (by omega)))
  have ff : ∀ f a j, 0 ≤ f → f < 8 → fdep 0 f a j → D' a j = D a j := fun f a j u v w => by
    rcases fdep_cap ⟨u, v⟩ w with y | y
    · exact h a j (Or.inl y)
    · exact h a j (Or.inr (Or.inr y))
  have fc : ∀ k a j, 0 ≤ k → k < 24 → cdep 0 k a j → D' a j = D a j := fun k a j u v w => by
    rcases cdep_cap ⟨u, v⟩ w with y | y
    · exact h a j (Or.inl y)
    · exact h a j (Or.inr (Or.inr y))
  obtain ⟨a1, a2, a3, a4⟩ := hx
  refine ⟨by rw [h1 _ _ (by omega) (by omega), h 1979 0 (Or.inr (Or.inl ⟨rfl, rfl⟩))]; exact a1, fun f x y => ?_, fun k x y => ?_, orR_up (Or.inl rfl) (h1 _ _ (by omega) (by omega)) (fun j => h1 _ _ (by omega) (by omega)) (fun k x y => h1 _ _ (by unfold aC; omega) (by unfold aC; omega)) (fun j x y => h94 _ _ (Or.inr rfl) x y) h22 a4⟩
  · rw [h1 _ _ (by omega) (by omega)] at y
    have a18 := a1.2.2
    exact faR_fr2 (fun a j u => ff f a j x (by omega) u) (a2 f x y)
  · obtain ⟨b1, b2, b3⟩ := a3 k x y
    have e : D' (aC 0 k) 3 = D (aC 0 k) 3 := h1 _ _ (by unfold aC; omega) (by unfold aC; omega)
    rw [e, h94 1994 _ (Or.inl rfl) (by omega) (by omega)]
    have a18 := a1.2.2
    exact ⟨b1, b2, fun z => chR_fr2 hc (h1 _ _ (by omega) (by omega)) (kfR (fun j => h1 _ _ (by have := (b3 z).1; unfold aF; omega) (by have := (b3 z).1; unfold aF; omega))) (fun a j u => fc k a j x y u) (b3 z)⟩
theorem unq_kp (h8 : D 1979 0 ≤ 8 ∧ ∀ f, 0 ≤ f → f < D 1979 0 → D 1982 f ≤ 24) (h : ∀ x j, (x = 1979 ∧ j = 0) ∨ (1980 ≤ x ∧ x ≤ 2007 ∧ j < cap0 x) → D' x j = D x j) (hx : unq D) : unq D' := fun f g u v w q => by
  have e1 : cap0 1981 = 192 := rfl
  have e2 : cap0 1982 = 8 := rfl
  rw [h 1979 0 (Or.inl ⟨rfl, rfl⟩)] at w
  rw [h 1982 f (by omega), h 1982 g (by omega)] at q
  refine hx f g u v w ⟨q.1, fun j y z => ?_⟩
  have := h8.2 f u (by omega)
  rw [← h 1981 (24 * f + j) (by omega), ← h 1981 (24 * g + j) (by omega)]
  exact q.2 j y z
/-- the other side begins to read -/
def preP (F A' : tD) : Prop := (A' 1979 1 = 0 ∧ ∀ k, 0 ≤ k → k < 24 → A' 1994 (24 + k) = 0) ∧ (A' 1977 45 = 0 ∧ A' 1977 46 = -1 ∧ A' 1977 47 = 0 ∧ A' 1977 49 = 0 ∧ A' 1977 50 = -1 ∧ A' 1977 51 = 0 ∧ A' 1977 52 = 0 ∧ A' 1977 61 = 0) ∧ (∀ j, j ≠ 0 → (j < 45 ∨ 52 < j ∨ j = 48) → j ≠ 61 → A' 1977 j = F 1977 j) ∧ ∀ x i, x ≠ 1977 → ¬ (x = 1979 ∧ i = 1) → ¬ (x = 1994 ∧ 24 ≤ i ∧ i < 48) → A' x i = F x i
theorem u_pre (hK : ∀ A', preP F A' → WP sc 284 51 A' [(0, (1211, 1977)), (1, (0, 1))] [] K E) : WP sc 284 0 F [(0, (1211, 1977))] [] K E := by
  refine v284_0 (u_clear (fun A1 cl => hK _ ?_))
  obtain ⟨c1, c2, c3⟩ := cl
  have w7 : ∀ j, j ≠ 0 → A1 1977 j = F 1977 j := fun j u => by rw [c3 _ _ (by omega) (by omega), wr_ni u]
  have wn : ∀ x i, x ≠ 1977 → ¬ (x = 1979 ∧ i = 1) → ¬ (x = 1994 ∧ 24 ≤ i ∧ i < 48) → A1 x i = F x i := fun x i u v y => by rw [c3 _ _ v y, wr_ne u]
  refine ⟨⟨?_, fun k u v => ?_⟩, ⟨?_, ?_, ?_, ?_, ?_, ?_, ?_, ?_⟩, fun j u v y => ?_, fun x i u v y => ?_⟩
  · rw [wr_ne (by omega), wr_ne (by omega), wr_ne (by omega), wr_ne (by omega), wr_ne (by omega), wr_ne (by omega), wr_ne (by omega), wr_ne (by omega)]; exact c1
  · rw [wr_ne (by omega), wr_ne (by omega), wr_ne (by omega), wr_ne (by omega), wr_ne (by omega), wr_ne (by omega), wr_ne (by omega), wr_ne (by omega)]; exact c2 k u v
  · rw [wr_ni (by omega), wr_ni (by omega), wr_ni (by omega), wr_ni (by omega), wr_ni (by omega), wr_ni (by omega), wr_ni (by omega), wr_self]
  · rw [wr_ni (by omega), wr_ni (by omega), wr_ni (by omega), wr_ni (by omega), wr_ni (by omega), wr_ni (by omega), wr_self]
  · rw [wr_ni (by omega), wr_ni (by omega), wr_ni (by omega), wr_ni (by omega), wr_ni (by omega), wr_self]
  · rw [wr_ni (by omega), wr_ni (by omega), wr_ni (by omega), wr_ni (by omega), wr_self]
  · rw [wr_ni (by omega), wr_ni (by omega), wr_ni (by omega), wr_self]
  · rw [wr_ni (by omega), wr_ni (by omega), wr_self]
  · rw [wr_ni (by omega), wr_self]
  · rw [wr_self]
  · rw [wr_ni (by omega), wr_ni (by omega), wr_ni (by omega), wr_ni (by omega), wr_ni (by omega), wr_ni (by omega), wr_ni (by omega), wr_ni (by omega)]; exact w7 j u
  · rw [wr_ne u, wr_ne u, wr_ne u, wr_ne u, wr_ne u, wr_ne u, wr_ne u, wr_ne u]; exact wn x i u v y
theorem preP_frV (h : preP F A') : frV F A' := fun x j u => by
  by_cases y : x = 1977
  · subst y; exact h.2.2.1 j (by omega) (by omega) (by omega)
  by_cases y4 : x = 1994
  · subst y4
    have e : cap0 1994 = 24 := rfl
    exact h.2.2.2 _ _ (by omega) (by omega) (by omega)
  · exact h.2.2.2 _ _ y (by omega) (by omega)
theorem l_read (hR : RL RSc D c) (hc : c < 600) (hgo : ∀ D', RL RSc D' (c + 1) → WP sc 317 1610 D' (LV i) [] K E) : WP sc 317 1253 D (LV i) [] K E := by
  refine wp_sc (fun hsc => wp_ok (fun hok => ?_))
  obtain ⟨r1, r2, r3, r4, r5, r6, r7, r8⟩ := hR
  obtain ⟨s0, s1, s2, s3, s4, s5⟩ := r8
  obtain ⟨q1, q2, q3, q4⟩ := r1
  refine v317_1253 (v19_0 (v124_0 (v41_0 (t_clear (fun D4 cl => ?_)))))
  have d4 : ∀ x j, x < 980 ∨ 1957 < x → D4 x j = D x j := fun x j u => by rw [cl.2.2 _ _ (by omega), wr_ne (by omega), wr_ne (by omega), wr_ne (by omega)]
  have c0 : D4 1957 0 = 1 := by rw [cl.2.2 _ _ (by omega), wr_ni (by omega), wr_ni (by omega), wr_ni (by omega)]; exact r5.1
  have c1 : D4 1957 1 = 0 := by rw [cl.2.2 _ _ (by omega), wr_ni (by omega), wr_ni (by omega), wr_self]
  have c2 : D4 1957 2 = 0 := by rw [cl.2.2 _ _ (by omega), wr_ni (by omega), wr_self]
  have c3 : D4 1957 3 = -1 := by rw [cl.2.2 _ _ (by omega), wr_self]
  generalize hD5 : wr (wr (wr (wr D4 1956 5 (-1)) 1956 11 1) 1956 17 0) 1956 18 0 = D5
  have o5 : ∀ x j, x ≠ 1956 → D5 x j = D4 x j := fun x j u => by rw [← hD5, wr_ne u, wr_ne u, wr_ne u, wr_ne u]
  have e5 : D5 1956 5 = -1 := by rw [← hD5, wr_ni (by omega), wr_ni (by omega), wr_ni (by omega), wr_self]
  have e11 : D5 1956 11 = 1 := by rw [← hD5, wr_ni (by omega), wr_ni (by omega), wr_self]
  have e17 : D5 1956 17 = 0 := by rw [← hD5, wr_ni (by omega), wr_self]
  have e18 : D5 1956 18 = 0 := by rw [← hD5, wr_self]
  have T8 : ∀ j, 0 ≤ j → j < D 1977 2 → D 2 j % 256 = D 1978 j := fun j u v => by
    have := q4 j u v
    rw [show (1 : Int) + 1 = 2 from rfl, show (0 : Int) + j = j from by omega] at this
    exact this
  have z5 : ∀ x j, (x < 980 ∨ x = 1955 ∨ 1970 < x ∨ (x = 1957 ∧ j = 0) ∨ (x = 1968 ∧ j = 0)) → D5 x j = D x j := fun x j u => by
    rw [o5 x j (by omega)]
    by_cases y : x = 1957
    · subst y
      have : j = 0 := by omega
      rw [this, c0]; exact r5.1.symm
    · by_cases y2 : x = 1955
      · subst y2
        rw [cl.2.2 _ _ (by omega), wr_ne (by omega), wr_ne (by omega), wr_ne (by omega)]
      · exact d4 x j (by omega)
  /- how both stand at the beginning -/
  have start : ∀ F A', (∀ x j, 1977 ≤ x → F x j = D x j) → preP F A' → RC c (D 1978) (D 1977 2) 0 (D 1977 22) D5 A' := fun F A' hF hp => by
    obtain ⟨⟨a1, a2⟩, ⟨b45, b46, b47, b49, b50, b51, b52, b61⟩, b7, bn⟩ := hp
    refine ⟨⟨⟨⟨by rw [o5 _ _ (by omega)]; exact c0, by rw [o5 _ _ (by omega)]; exact c1⟩, ⟨by rw [z5 _ _ (by omega)]; exact q1, by show D 1977 2 ≤ (4000 : Int); exact q3, q2, q3⟩, ⟨by omega, q2⟩, ⟨by omega, by omega⟩, fun j u v => ?_⟩, ⟨b47, by rw [b7 _ (by omega) (by omega) (by omega)]; exact hF _ _ (by omega), b45⟩, ⟨by omega, q2, q3⟩, fun j u v => ?_⟩, ⟨shR_emp ⟨by rw [o5 _ _ (by omega)]; exact cl.1.1, by rw [o5 _ _ (by omega)]; exact cl.1.2⟩ (fun k u v => by have := aC1 k; rw [o5 _ _ (by omega)]; exact cl.2.1 k u v) a1 a2, by omega⟩, ⟨⟨by rw [o5 _ _ (by omega)]; exact c2, by rw [o5 _ _ (by omega)]; exact c3, b46⟩, e18, b61⟩, ⟨⟨by omega, by omega⟩, by omega, by omega⟩, ⟨Or.inr e11, by rw [b51, e11]; omega⟩, ⟨⟨s3, ?_⟩, ?_⟩, fun k u v => ?_, Or.inl ⟨?_, ?_, e5, e17, b51⟩⟩
    · unfold rat
      rw [z5 1 1 (by omega), q1, if_pos ⟨u, v⟩, show (1 : Int) + 1 = 2 from rfl, z5 2 j (by omega), T8 j u v]
      have := T8 j u v
      exact ⟨rfl, by omega, by omega⟩
    · have := T8 j u v
      refine ⟨?_, by omega, by omega⟩
      rw [bn _ _ (by omega) (by omega) (by omega)]; exact hF _ _ (by omega)
    · rw [b7 _ (by omega) (by omega) (by omega), hF _ _ (by omega)]; exact Int.le_refl _
    · rw [b7 _ (by omega) (by omega) (by omega), hF _ _ (by omega), o5 _ _ (by omega), cl.1.2]; omega
    · have := aC1 k
      rw [o5 _ _ (by omega), cl.2.1 k u v, o5 _ _ (by omega), cl.1.2]; omega
    · rw [o5 _ _ (by omega)]; exact cl.1.1
    · rw [o5 _ _ (by omega)]; exact cl.1.2
  obtain ⟨A0, okA, hp0⟩ : ∃ A0, okD A0 ∧ preP D A0 := by
    refine Classical.byContradiction (fun no => ?_)
    obtain ⟨_, _, _, f⟩ := WP_ex (K := fun _ _ => False) hsc hok lr_m (u_pre (F := D) (fun A1 p => wp_ok (fun ho => absurd ⟨A1, ho, p⟩ no)))
    exact f
  refine l_lines (T := D 1978) (n := D 1977 2) (c := c) hsc (D 1977 2 + 1).toNat 0 0 D5 A0 (D 1977 22) _ (by omega) (start D A0 (fun _ _ _ => rfl) hp0) okA (by omega) (by rw [z5 _ _ (by omega)]; exact r5.2) ⟨by omega, by omega⟩ (fun D' r z' hr sim => ?_)
  have dD : ∀ x j, (x < 980 ∨ x = 1955 ∨ 1970 < x ∨ (x = 1957 ∧ j = 0) ∨ (x = 1968 ∧ j = 0)) → D' x j = D x j := fun x j u => by rw [z' x j u, z5 x j u]
  refine u_pre (fun A1 p1 => sim A1 (start D' A1 (fun x j u => dD x j (by omega)) p1) _ _ (fun A2 he => ?_))
  rw [if_pos rfl]
  obtain ⟨v2, sh1, e3, ⟨e45, e2⟩, e22a, e22b⟩ := he
  have v1 := preP_frV p1
  have V : frV D' A2 := frV_tr v1 v2
  have lo : ∀ x j, x < 1977 → A2 x j = D' x j := fun x j u => V x j (Or.inl u)
  have aD : ∀ x j, (x < 980 ∨ (1970 < x ∧ x < 1977) ∨ (x = 1957 ∧ j = 0) ∨ (x = 1968 ∧ j = 0) ∨ x = 1978 ∨ x = 2008 ∨ x = 2013 ∨ (x = 1977 ∧ (j = 2 ∨ j = 3 ∨ j = 35 ∨ j = 43)) ∨ (x = 1979 ∧ j = 0) ∨ (1980 ≤ x ∧ x ≤ 2007 ∧ j < cap0 x)) → A2 x j = D x j := fun x j u => by rw [V x j (by omega)]; exact dD x j (by omega)
  refine hgo A2 ⟨?_, ?_, ?_, ?_, ?_, ?_, ⟨by omega, by omega⟩, ?_, ?_, ?_, ?_, ?_, ?_⟩
  · rw [aD 1977 2 (by omega)]
    exact rowm_fr (fun j => aD _ _ (by omega)) (fun j => aD _ _ (by omega)) (fun j => aD _ _ (by omega)) rfl ⟨q1, q2, q3, q4⟩
  · rw [aD 1977 43 (by omega)]
    exact rowm_fr (fun j => aD _ _ (by omega)) (fun j => aD _ _ (by omega)) (fun j => aD _ _ (by omega)) rfl r2
  · rw [aD 0 8 (by omega), aD 1977 3 (by omega)]; omega
  · rw [lo _ _ (by omega)]; exact e3
  · rw [aD 1957 0 (by omega), aD 1968 0 (by omega)]; exact r5
  · rw [aD (-1) 0 (by omega)]; omega
  · exact shR_kp (c := c) (by omega) e22a.2 (fun x j u => aD x j (by omega)) s0
  · have em : mx D' A2 = A2 := funext (fun x => funext (fun j => by
      by_cases y : x < 1977
      · rw [mx_lo y]; exact (lo x j y).symm
      · exact mx_hi (by omega)))
    rw [em] at sh1
    exact shR_fr2 (D := A2) (Or.inr rfl) (by omega) (fun _ _ _ => rfl) sh1
  · obtain ⟨g1, g2, g3⟩ := s2
    exact ⟨rowm_fr (fun j => aD _ _ (by omega)) (fun j => aD _ _ (by omega)) (fun j => aD _ _ (by omega)) (aD _ _ (by omega)) g1, lsW_fr (aD _ _ (by omega)) (rat_fr (aD _ _ (by omega)) (fun j => aD _ _ (by omega))) (aD _ _ (by omega)) g2, by rw [aD _ _ (by omega)]; exact g3⟩
  · omega
  · omega
  · have a1 := s0.1
    rw [show (5 : Int) + 975 * 0 = 5 from rfl] at a1
    refine unq_kp ⟨by omega, fun f u v => ?_⟩ (fun x j u => aD x j (by omega)) s5
    have fa := (s0.2.1 f u (by rw [show (5 : Int) + 975 * 0 = 5 from rfl]; omega)).2.1.1.2.2.1
    rw [show (8 : Int) * 0 + f = f from by omega] at fa
    exact fa
end RED
