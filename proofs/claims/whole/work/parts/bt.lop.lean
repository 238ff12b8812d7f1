/-! reading: line after line, both sides -/
section LOP
variable {sc : Nat × (Nat → Int32)} {D D' D1 A A' A1 A0 D0 : tD} {K : tD → Int → Prop} {E : tD → Nat → Prop} {T : Int → Int} {n c : Int}
/-- the found sheet is cleared, the class -/
def emC (D D' : tD) : Prop := (D' 980 4 = 0 ∧ D' 980 5 = 0) ∧ (∀ k, 0 ≤ k → k < 24 → D' (aC 1 k) 3 = 0) ∧ ∀ x i, (x < 980 ∨ 1954 < x) → D' x i = D x i
theorem t_clear (hK : ∀ D', emC D D' → K D' 0) : WP sc 104 0 D [(0, (1208, 980))] [] K E := by
  have go : ∀ (m : Nat) (k : Int) (D2 : tD), 24 - k = (m : Int) → 0 ≤ k → (D2 980 4 = 0 ∧ D2 980 5 = 0) → (∀ q, 0 ≤ q → q < k → D2 (aC 1 q) 3 = 0) → (∀ x i, (x < 980 ∨ 1954 < x) → D2 x i = D x i) → WP sc 104 12 D2 [(0, (1208, 980)), (1, (0, k))] [] K E := by
    intro m
    induction m with
    | zero =>
      intro k D2 hm hk h1 h2 h3
      refine v104_12 ?_
      rw [if_neg (by omega)]
      exact hK D2 ⟨h1, fun q u v => h2 q u (by omega), h3⟩
    | succ m ih =>
      intro k D2 hm hk h1 h2 h3
      have aCb := aC1 k
      refine v104_12 ?_
      rw [if_pos (by omega), show (980 : Int) + 155 + 1 + 34 * k = aC 1 k from by omega, w32_id (x := k + 1) (by omega) (by omega)]
      refine ⟨⟨hk, by show k < (24 : Int); omega⟩, ?_⟩
      refine ih (k + 1) _ (by omega) (by omega) ⟨by rw [wr_ne (by omega)]; exact h1.1, by rw [wr_ne (by omega)]; exact h1.2⟩ (fun q u v => ?_) (fun x i u => by rw [wr_ne (by omega)]; exact h3 x i u)
      by_cases z : q = k
      · rw [z, wr_self]
      · have := aC1 q
        rw [wr_ne (by omega)]; exact h2 q u (by omega)
  refine v104_0 (go 24 0 _ (by omega) (by omega) ⟨?_, wr_self⟩ (fun q u v => by omega) (fun x i u => ?_))
  · rw [wr_ni (by omega), wr_self]
  · rw [wr_ne (by omega), wr_ne (by omega)]
/-- the found sheet is cleared, the other side -/
def emM (A A' : tD) : Prop := A' 1979 1 = 0 ∧ (∀ k, 0 ≤ k → k < 24 → A' 1994 (24 + k) = 0) ∧ ∀ x i, ¬ (x = 1979 ∧ i = 1) → ¬ (x = 1994 ∧ 24 ≤ i ∧ i < 48) → A' x i = A x i
theorem u_clear (hK : ∀ A', emM A A' → K A' 0) : WP sc 283 0 A [(0, (1211, 1977))] [] K E := by
  have go : ∀ (m : Nat) (k : Int) (A2 : tD), 24 - k = (m : Int) → 0 ≤ k → A2 1979 1 = 0 → (∀ q, 0 ≤ q → q < k → A2 1994 (24 + q) = 0) → (∀ x i, ¬ (x = 1979 ∧ i = 1) → ¬ (x = 1994 ∧ 24 ≤ i ∧ i < 48) → A2 x i = A x i) → WP sc 283 10 A2 [(0, (1211, 1977)), (1, (0, 24 + k))] [] K E := by
    intro m
    induction m with
    | zero =>
      intro k A2 hm hk h1 h2 h3
      refine v283_10 ?_
      rw [if_neg (by omega)]
      exact hK A2 ⟨h1, fun q u v => h2 q u (by omega), h3⟩
    | succ m ih =>
      intro k A2 hm hk h1 h2 h3
      refine v283_10 ?_
      rw [if_pos (by omega), w32_id (x := 24 + k + 1) (by omega) (by omega), show 24 + k + 1 = 24 + (k + 1) from by omega]
      refine ⟨⟨by omega, by omega⟩, ?_⟩
      refine ih (k + 1) _ (by omega) (by omega) (by rw [wr_ne (by omega)]; exact h1) (fun q u v => ?_) (fun x i u v => ?_)
      · by_cases z : q = k
        · rw [z, wr_self]
        · rw [wr_ni (by omega)]; exact h2 q u (by omega)
      · by_cases y : x = 1994
        · subst y; rw [wr_ni (by omega)]; exact h3 _ i u v
        · rw [wr_ne y]; exact h3 x i u v
  refine v283_0 ⟨⟨by omega, by decide⟩, go 24 0 _ (by omega) (by omega) wr_self (fun q u v => by omega) (fun x i u v => ?_)⟩
  by_cases y : x = 1979
  · subst y; exact wr_ni (by omega)
  · exact wr_ne y
theorem shR_emp (h1 : D 980 4 = 0 ∧ D 980 5 = 0) (h2 : ∀ k, 0 ≤ k → k < 24 → D (aC 1 k) 3 = 0) (h3 : A 1979 1 = 0) (h4 : ∀ k, 0 ≤ k → k < 24 → A 1994 (24 + k) = 0) : shR c (mx D A) 1 := by
  have l : ∀ j, mx D A (5 + 975 * 1) j = D 980 j := fun j => mx_lo (by omega)
  have lc : ∀ k j, 0 ≤ k → k < 24 → mx D A (aC 1 k) j = D (aC 1 k) j := fun k j u v => mx_lo (by have := aC1 k; omega)
  refine ⟨?_, fun f u v => ?_, fun k u v => ?_, ⟨?_, ?_, ?_⟩, fun p u v => ?_, fun p q u v w => ?_, fun k u v w => ?_⟩
  · rw [l, mx_hi (by omega), h1.1, h3]; omega
  · rw [l, h1.1] at v; omega
  · rw [lc k 3 u v, mx_hi (by omega), show (24 : Int) * 1 + k = 24 + k from by omega, h2 k u v, h4 k u v]
    exact ⟨rfl, Or.inl rfl, fun w => by omega⟩
  · rw [l, h1.2]; omega
  · rw [l, h1.2]; omega
  · rw [l, h1.2]
    exact sm_z (fun k u v => by rw [lc k 3 u (by omega)]; exact h2 k u (by omega))
  · rw [l, h1.2] at v; omega
  · rw [l, h1.2] at w; omega
  · rw [lc k 3 u v, h2 k u v] at w; omega
/-- the end of reading, the other side -/
def enP (c B r : Int) (D' A A' : tD) : Prop := frV A A' ∧ shR c (mx D' A') 1 ∧ D' 1957 3 = A' 1977 46 ∧ (A' 1977 45 = r ∧ D' 1957 2 = r) ∧ (0 ≤ B ∧ B ≤ A' 1977 22) ∧ A' 1977 22 ≤ B + 24
def SimR (sc : Nat × (Nat → Int32)) (c : Int) (T : Int → Int) (n a B r : Int) (D D' : tD) : Prop := ∀ A, RC c T n a B D A → ∀ (K' : tD → Int → Prop) (E' : tD → Nat → Prop), (∀ A', enP c B r D' A A' → K' A' r) → WP sc 284 51 A [(0, (1211, 1977)), (1, (0, 1))] [] K' E'
/-- one line of the other side -/
def StR (sc : Nat × (Nat → Int32)) (c : Int) (T : Int → Int) (n a B r : Int) (D D1 : tD) : Prop := ∀ A, RC c T n a B D A → ∀ (K' : tD → Int → Prop) (E' : tD → Nat → Prop), (∀ A', lnP c T n a B r D1 A A' → WP sc 284 51 A' [(0, (1211, 1977)), (1, (0, r))] [] K' E') → WP sc 284 51 A [(0, (1211, 1977)), (1, (0, 1))] [] K' E'
theorem lr_m2 : lr [(0, (1211, 1977)), (1, (0, 1))] [(0, .ref 1977), (1, .int 1)] := by
  intro i t ht
  rcases i with _ | _ | i
  · cases ht; exact ⟨_, rfl, vnp' (by omega) ⟨by omega, by omega, rfl, by decide +kernel⟩⟩
  · cases ht; exact ⟨_, rfl, vi' rfl⟩
  · exact absurd ht (by simp [tget, nbne (show (0 : Nat) ≠ i + 2 by omega), nbne (show (1 : Nat) ≠ i + 2 by omega)])
theorem StR_ex {a B r : Int} (h : StR sc c T n a B r D D1) (hR : RC c T n a B D A) (hok : okD A) (hsc : sc.1 ≤ 2560) : ∃ A1, okD A1 ∧ lnP c T n a B r D1 A A1 := by
  refine Classical.byContradiction (fun no => ?_)
  obtain ⟨_, _, _, f⟩ := WP_ex hsc hok lr_m2 (h A hR (fun _ _ => False) (fun _ _ => False) (fun A1 p => wp_ok (fun ho => absurd ⟨A1, ho, p⟩ no)))
  exact f
theorem lbE_iff {a : Int} (ha : a ≤ n) : srt 5 (pb T n a) = true ↔ lbE T n a ≠ a := by
  rw [srt_pb]
  unfold lbE
  by_cases z : a < n ∧ srt 5 (T a) = true
  · have := ru_b (s := 5) (T := T) (n := n) (a := a + 1) (by omega)
    rw [ru_go z]
    exact ⟨fun _ => by omega, fun _ => z⟩
  · rw [ru_stop z]
    exact ⟨fun w => absurd w z, fun w => absurd rfl w⟩
/-- a line of the other side begins -/
theorem StR_h {a B r : Int} (h35 : pb T n a = 35) (h : Sim sc 259 c T n a B r D D1) : StR sc c T n a B r D D1 := fun A hA K' E' hC => by
  refine v284_51 ?_
  rw [if_neg (show ¬ (1 : Int) = 0 by decide), hA.2.2.1.2.2]
  intro _
  rw [if_pos rfl]
  refine u_peek hA.1.2 ?_
  rw [if_pos h35]
  exact h A hA _ _ (fun A' hl => hC A' hl)
theorem StR_s {a B r : Int} (h35 : pb T n a ≠ 35) (h5 : lbE T n a ≠ a) (h : Sim sc 271 c T n a B r D D1) : StR sc c T n a B r D D1 := fun A hA K' E' hC => by
  refine v284_51 ?_
  rw [if_neg (show ¬ (1 : Int) = 0 by decide), hA.2.2.1.2.2]
  intro _
  rw [if_pos rfl]
  refine u_peek hA.1.2 ?_
  rw [if_neg h35]
  refine u_peek hA.1.2 (m_nb (fun _ => ?_) (fun y => absurd ((lbE_iff hA.1.2.2.1.2.1).mpr h5) y))
  rw [if_neg (show ¬ (1 : Int) = 0 by decide)]
  exact h A hA _ _ (fun A' hl => hC A' hl)
theorem StR_n {a B : Int} (h35 : pb T n a ≠ 35) (h5 : lbE T n a = a) (hd : D1 1957 2 = 1 ∧ D1 1957 3 = a) : StR sc c T n a B 0 D D1 := fun A hA K' E' hC => by
  refine v284_51 ?_
  rw [if_neg (show ¬ (1 : Int) = 0 by decide), hA.2.2.1.2.2]
  intro _
  rw [if_pos rfl]
  refine u_peek hA.1.2 ?_
  rw [if_neg h35]
  refine u_peek hA.1.2 (m_nb (fun y => absurd h5 ((lbE_iff hA.1.2.2.1.2.1).mp y)) (fun _ => ?_))
  rw [if_pos rfl, hA.1.2.1.1]
  refine u_finds hA.1.2.1.2.2 (hC _ (lnP_bd frV_fl ⟨by rw [hd.1, fl_45], by rw [hd.2, fl_46]⟩ (by rw [fl_45]; omega) ?_))
  have e22 : (fl A 1 a) 1977 22 = A 1977 22 := by
    unfold fl
    rw [wr_ni (by omega), wr_ni (by omega)]
  rw [e22]; exact RC_22 hA
theorem emM_frV (h : emM A A') : frV A A' := fun x j u => by
  by_cases y : x = 1994
  · subst y
    have e : cap0 1994 = 24 := rfl
    exact h.2.2 _ _ (by omega) (by omega)
  · exact h.2.2 _ _ (by omega) (by omega)
/-- the lines, one after the other -/
theorem l_lines (hsc : sc.1 ≤ 2560) : ∀ (m : Nat) (a x2 : Int) (D A0 : tD) (B : Int) (K : tD → Int → Prop), n - a < (m : Int) → RC c T n a B D A0 → okD A0 → B ≤ 90000 → D 1968 0 = 1966 → 0 ≤ x2 ∧ x2 ≤ a → (∀ D' r, frZ D D' → D' 1957 2 = r → SimR sc c T n a B r D D' → K D' r) → WP sc 124 38 D [(0, (1209, 1956)), (1, (0, 1)), (2, (0, x2))] [] K E := by
  intro m
  induction m with
  | zero =>
    intro a x2 D A0 B K hm hR hok hB h68 hx hK
    have := hR.1.1.2.2.1
    omega
  | succ m ih =>
    intro a x2 D A0 B K hm hR hok hB h68 hx hK
    have hc := hR.1.1
    have cc := hc.2
    have after : ∀ (D1 : tD) (r : Int), (r = 0 ∨ r = 1) → frZ D D1 → StR sc c T n a B r D D1 → WP sc 124 38 D1 [(0, (1209, 1956)), (1, (0, r)), (2, (0, w32 (x2 + 1)))] [] K E := fun D1 r hr z1 st => by
      obtain ⟨A1, ok1, v1, l1⟩ := StR_ex st hR hok hsc
      rw [w32_id (x := x2 + 1) (by omega) (by omega)]
      rcases l1 with ⟨e1, b, hb, hR1⟩ | ⟨e1, g⟩ | ⟨e0, g⟩
      · subst e1
        refine ih b (x2 + 1) D1 A1 B K (by omega) hR1 ok1 hB (by rw [z1 _ _ (by omega)]; exact h68) ⟨by omega, by omega⟩ (fun D' r' z' hr' sim => hK D' r' (frZ_tr z1 z') hr' (fun A hA K' E' hE => st A hA K' E' (fun A' hl => ?_)))
        obtain ⟨v', l'⟩ := hl
        rcases l' with ⟨_, b', _, hR'⟩ | ⟨_, g, _⟩ | ⟨e0, _⟩
        · have eb : b' = b := by
            have q1 := hR1.1.1.1.2
            have q2 := hR'.1.1.1.2
            omega
          subst eb
          exact sim A' hR' K' E' (fun A2 he => hE A2 ⟨frV_tr v' he.1, he.2⟩)
        · have := hR1.2.2.1.2.1
          omega
        · omega
      · subst e1
        obtain ⟨g1, g2, g3, ⟨g4, g5⟩, ⟨g6, g7⟩, g8, g9⟩ := g
        refine v124_38 ?_
        rw [if_neg (show ¬ (1 : Int) = 0 by decide), g1]
        intro _
        rw [if_neg (show ¬ (1 : Int) = 0 by decide), if_neg (show ¬ (1 : Int) = 0 by decide), g4]
        refine hK D1 0 z1 g4 (fun A hA K' E' hE => st A hA K' E' (fun A' hl => ?_))
        obtain ⟨v', l'⟩ := hl
        rcases l' with ⟨_, b', _, hR'⟩ | ⟨_, h1, h2, h3, ⟨h4, h5⟩, ⟨h6, h7⟩, h8, h9⟩ | ⟨e0, _⟩
        · have := hR'.2.2.1.2.1
          omega
        · refine v284_51 ?_
          rw [if_neg (show ¬ (1 : Int) = 0 by decide), h2]
          intro _
          rw [if_neg (show ¬ (1 : Int) = 0 by decide), h5, if_neg (by omega)]
          exact hE A' ⟨v', h3, by rw [h6, h7], ⟨h5, h4⟩, h8, h9⟩
        · omega
      · subst e0
        obtain ⟨g1, g2, g3, g4⟩ := g
        refine v124_38 ?_
        rw [if_pos rfl, if_pos rfl]
        refine t_clear (fun D2 cl => ?_)
        have e2 : D2 1957 2 = D1 1957 2 := cl.2.2 _ _ (by omega)
        rw [e2]
        refine hK D2 (D1 1957 2) (frZ_tr z1 (fun x i u => cl.2.2 x i (by omega))) e2 (fun A hA K' E' hE => st A hA K' E' (fun A' hl => ?_))
        obtain ⟨v', l'⟩ := hl
        rcases l' with ⟨e1, _⟩ | ⟨e1, _⟩ | ⟨_, h1, h2, h3, h4, h5⟩
        · omega
        · omega
        · refine v284_51 ?_
          rw [if_pos rfl, if_pos h3]
          refine u_clear (fun A2 clm => ?_)
          have e45 : A2 1977 45 = A' 1977 45 := clm.2.2 _ _ (by omega) (by omega)
          have e46 : A2 1977 46 = A' 1977 46 := clm.2.2 _ _ (by omega) (by omega)
          have e22 : A2 1977 22 = A' 1977 22 := clm.2.2 _ _ (by omega) (by omega)
          rw [e45, ← h1]
          exact hE A2 ⟨frV_tr v' (emM_frV clm), shR_emp cl.1 cl.2.1 clm.1 clm.2.1, by rw [cl.2.2 _ _ (by omega), e46]; exact h2, ⟨by rw [e45, h1], e2⟩, by rw [e22]; exact ⟨h4, h5⟩⟩
    refine v124_38 ?_
    rw [if_neg (show ¬ (1 : Int) = 0 by decide), hR.2.2.1.2.1]
    intro _
    rw [if_pos rfl, if_neg (by omega)]
    refine t_sees hc (fun h35 => ?_) (fun h35 => ?_)
    · rw [if_neg (show ¬ (1 : Int) = 0 by decide)]
      exact l_hline hR h35 (fun D1 r hr z1 sim => after D1 r hr z1 (StR_h h35 sim))
    · rw [if_pos rfl]
      by_cases h5 : lbE T n a = a
      · exact l_nline (K := fun D10 r => WP sc 124 38 D10 [(0, (1209, 1956)), (1, (0, r)), (2, (0, w32 (x2 + 1)))] [] K E) hR h5 (fun D1 z1 d1 d2 => after D1 0 (Or.inl rfl) z1 (StR_n h35 h5 ⟨d1, d2⟩))
      · exact l_sline (K := fun D10 r => WP sc 124 38 D10 [(0, (1209, 1956)), (1, (0, r)), (2, (0, w32 (x2 + 1)))] [] K E) hR hok hB h68 h5 (fun D1 r hr z1 sim => after D1 r hr z1 (StR_s h35 h5 sim))
end LOP
