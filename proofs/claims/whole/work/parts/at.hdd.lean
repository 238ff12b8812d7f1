/-! reading: head lines, the class's side: unit, help, the line -/
section HDD
variable {sc : Nat × (Nat → Int32)} {D D' : tD} {K : tD → Int → Prop} {E : tD → Nat → Prop} {T : Int → Int} {n : Int}
/-- a family's name, and a space on both sides -/
def nmZ (T : Int → Int) (n p : Int) : Int := ru 5 T n (p + 1)
def nmO (T : Int → Int) (n p : Int) (nF : List Int) : Int × Int := if pb T n p ≠ 32 then (1, p) else if lbL T (p + 1) (nmZ T n p) ≠ nF then (2, p + 1) else if pb T n (nmZ T n p) ≠ 32 then (1, nmZ T n p) else (0, nmZ T n p + 1)
theorem nmO_0 {p : Int} {nF : List Int} (h : (nmO T n p nF).1 = 0) : pb T n p = 32 ∧ lbL T (p + 1) (nmZ T n p) = nF ∧ pb T n (nmZ T n p) = 32 ∧ (nmO T n p nF).2 = nmZ T n p + 1 := by
  unfold nmO at h ⊢
  by_cases e1 : pb T n p = 32
  · rw [if_neg (fun w => w e1)] at h ⊢
    by_cases e2 : lbL T (p + 1) (nmZ T n p) = nF
    · rw [if_neg (fun w => w e2)] at h ⊢
      by_cases e3 : pb T n (nmZ T n p) = 32
      · rw [if_neg (fun w => w e3)] at h ⊢
        exact ⟨e1, e2, e3, rfl⟩
      · rw [if_pos e3] at h; exact absurd (show (1 : Int) = 0 from h) (by decide)
    · rw [if_pos e2] at h; exact absurd (show (2 : Int) = 0 from h) (by decide)
  · rw [if_pos e1] at h; exact absurd (show (1 : Int) = 0 from h) (by decide)
theorem spj_lbL {s e F : Int} {nF : List Int} (hok : okD D) (h : ∃ p, cu D 1957 1 T n p) (hs : 0 ≤ s ∧ s ≤ e ∧ e ≤ n) (hin : ∀ j, s ≤ j → j < e → srt 5 (T j) = true) (hF : nmC D F nF) : spjn D 1 s e (F + 1) 45 ↔ lbL T s e = nF := by
  obtain ⟨p, hc⟩ := h
  have t0 : tsn 45 = 0 := by decide +kernel
  have by1 : ∀ j, s ≤ j → j < e → D 2 j = T j := fun j u v => cu_by hok hc ⟨by omega, by omega⟩ (by have := srt5_lt (hin j u v); omega)
  unfold spjn
  rw [t0, hF.1]
  refine ⟨fun ⟨_, _, h3, h4⟩ => ?_, fun h1 => ⟨hs.1, by rw [hc.2.1.1]; exact hs.2.2, ?_, fun j u v => ?_⟩⟩
  · have e1 : nF = spn (D (F + 2)) 0 nF.length := atL_spn hF.2.1
    rw [e1]
    unfold lbL
    rw [show (e - s).toNat = nF.length from by omega]
    refine spn_ext (fun j u v => ?_)
    have q := h4 (s + j) (by omega) (by omega)
    unfold jnb at q
    rw [show s + j - s = j from by omega, if_pos (by rw [hF.1]; omega)] at q
    rw [← by1 (s + j) (by omega) (by omega), show (0 : Int) + j = j from by omega]
    have q2 : D (1 + 1) (s + j) = D (F + 1 + 1) j := q
    rw [show F + 1 + 1 = F + 2 from by omega] at q2
    exact q2
  · have := congrArg List.length h1
    rw [lbL_len] at this
    omega
  · have hl := congrArg List.length h1
    rw [lbL_len] at hl
    unfold jnb
    rw [if_pos (by rw [hF.1]; omega)]
    have q : atL D 2 s nF := by
      rw [← h1]
      exact spn_at (fun j u v => by1 (s + j) (by omega) (by omega))
    have q2 := atL_eq q hF.2.1 (j - s) (by omega) (by omega)
    rw [show s + (j - s) = j from by omega, show (0 : Int) + (j - s) = j - s from by omega] at q2
    show D (1 + 1) j = D (F + 1 + 1) (j - s)
    rw [show F + 1 + 1 = F + 2 from by omega]
    exact q2
theorem t_named {p F : Int} {nF : List Int} (hc : cu D 1957 1 T n p) (hF5 : D 1956 5 = F) (hFb : 0 ≤ F ∧ F + 2 < 1956) (hF : nmC D F nF) (hT : (nmO T n p nF).1 = 0 → K (wr D 1957 1 (nmO T n p nF).2) 1) (hN : (nmO T n p nF).1 ≠ 0 → ∀ D', D' 1957 2 = (nmO T n p nF).1 → D' 1957 3 = (nmO T n p nF).2 → frZ D D' → K D' 0) : WP sc 132 0 D [(0, (1209, 1956))] [] (fun D1 r2 => if r2 = 0 then (K D1 0) else (WP sc 45 0 D1 [(0, (1202, 1957)), (1, (0, 32))] [] (fun D4 r5 => if r5 = 0 then (K D4 0) else K D4 1) E)) E := by
  refine wp_ok (fun hok => ?_)
  have c := hc.2
  refine v132_0 (t_expect hc (fun e => ?_) (fun e => ?_))
  rotate_left
  · rw [if_pos rfl, if_pos rfl]
    have en : nmO T n p nF = (1, p) := by unfold nmO; rw [if_pos e]
    rw [en] at hN
    exact hN (show (1 : Int) ≠ 0 from by decide) _ fc_2 fc_3 frZ_fc
  rw [if_neg (by omega)]
  have pn := pb_lt e (by omega)
  have h1 := cu_wr hc (b := p + 1) ⟨by omega, by omega⟩
  refine t_run (by omega) h1 ?_
  have rb := ru_b (s := 5) (T := T) (n := n) (a := p + 1) (by omega)
  have ri := ru_in (s := 5) (T := T) (n := n) (a := p + 1) (by omega)
  have eN : ru 5 T n (p + 1) = nmZ T n p := rfl
  rw [eN] at rb ri ⊢
  rw [wr_wr]
  have h2 := cu_wr hc (b := nmZ T n p) ⟨by omega, by omega⟩
  have w5 : (wr D 1957 1 (nmZ T n p)) 1956 5 = F := by rw [wr_ne (by omega)]; exact hF5
  have w0 : (wr D 1957 1 (nmZ T n p)) 1957 0 = 1 := by rw [wr_ni (by omega)]; exact hc.1.1
  rw [w5, w0, wr_self, if_neg (by omega), if_neg (by omega)]
  have hF2 : nmC (wr D 1957 1 (nmZ T n p)) F nF := by
    obtain ⟨f1, f2, f3, f4, f5⟩ := hF
    exact ⟨by rw [wr_ne (by omega)]; exact f1, atL_fr (fun j _ _ => wr_ne (by omega)) f2, f3, f4, f5⟩
  have f1 : frZ D (wr D 1957 1 (nmZ T n p)) := frZ_wr (by omega)
  refine wp_ok (fun hok2 => ?_)
  have key := spj_lbL (s := p + 1) (e := nmZ T n p) hok2 ⟨_, h2⟩ ⟨by omega, rb.1, rb.2⟩ ri hF2
  refine c_join (by rw [wr_ne (by omega), c.1.1]; exact c.1.2.1) (by rw [hF2.1, show F + 1 + 1 = F + 2 from by omega, hF.2.2.2.1]; have := hF.2.2.1; omega) (by rw [wr_ne (by omega), c.1.1]; omega) (by rw [hF2.1]; have := hF.2.2.1; omega) ⟨by omega, by omega, by omega, by omega⟩ (fun q => ?_) (fun q => ?_)
  · rw [if_neg (by omega), if_neg (by omega)]
    rw [key] at q
    refine t_expect h2 (fun e3 => ?_) (fun e3 => ?_)
    · rw [if_neg (by omega), wr_wr]
      have en : nmO T n p nF = (0, nmZ T n p + 1) := by unfold nmO; rw [if_neg (fun w => w e), if_neg (fun w => w q), if_neg (fun w => w e3)]
      rw [en] at hT
      exact hT rfl
    · rw [if_pos rfl]
      have en : nmO T n p nF = (1, nmZ T n p) := by unfold nmO; rw [if_neg (fun w => w e), if_neg (fun w => w q), if_pos e3]
      rw [en] at hN
      exact hN (show (1 : Int) ≠ 0 from by decide) _ fc_2 fc_3 (frZ_tr f1 frZ_fc)
  · rw [if_pos rfl]
    rw [key] at q
    have en : nmO T n p nF = (2, p + 1) := by unfold nmO; rw [if_neg (fun w => w e), if_pos q]
    rw [en] at hN
    refine v42_0 ?_
    rw [if_pos rfl, if_pos rfl]
    exact hN (show (2 : Int) ≠ 0 from by decide) _ fc_2 fc_3 (frZ_tr f1 frZ_fc)
theorem untN_ext {N M S : Int → Int} {z kd s e : Int} (h : ∀ j, s ≤ j → j < e → S j = M j) : untN N z S kd s e ↔ untN N z M kd s e := by
  unfold untN
  refine ⟨fun ⟨a1, a2, a3, a4, a5, a6⟩ => ⟨a1, a2, a3, a4, a5, fun j u v => ?_⟩, fun ⟨a1, a2, a3, a4, a5, a6⟩ => ⟨a1, a2, a3, a4, a5, fun j u v => ?_⟩⟩
  · rw [← h (s + j) (by omega) (by omega)]; exact a6 j u v
  · rw [h (s + j) (by omega) (by omega)]; exact a6 j u v
/-! a unit -/
def unE (T : Int → Int) (n p : Int) : Int := ru 3 T n p
noncomputable def unO (D : tD) (T : Int → Int) (n F h p : Int) (nF : List Int) : Int × Int :=
  if D 1956 17 ≠ 1 then (5, h) else if (nmO T n p nF).1 ≠ 0 then nmO T n p nF
  else if unE T n (nmO T n p nF).2 = (nmO T n p nF).2 then (1, (nmO T n p nF).2)
  else cif (¬ untN (rat D (F + 1)) (D (F + 1) 1) T (D F 5) (nmO T n p nF).2 (unE T n (nmO T n p nF).2)) (6, (nmO T n p nF).2)
    (if pb T n (unE T n (nmO T n p nF).2) ≠ 10 then (1, unE T n (nmO T n p nF).2) else (0, unE T n (nmO T n p nF).2 + 1))
def unR (D D' : tD) (T : Int → Int) (F u e : Int) : Prop := (D' (F + 3) 1 = e - u ∧ ∀ j, 0 ≤ j → j < e - u → D' (F + 4) j = T (u + j)) ∧ (D' 1956 17 = 2 ∧ D' 1957 1 = e + 1) ∧ ∀ x j, x ≠ F + 3 → x ≠ F + 4 → ¬ (x = 1956 ∧ j = 17) → ¬ (x = 1957 ∧ j = 1) → D' x j = D x j
theorem t_unit {h p F : Int} {nF : List Int} (hc : cu D 1957 1 T n p) (hF5 : D 1956 17 = 1 → D 1956 5 = F) (hFb : 980 ≤ F ∧ F + 6 < 1953 ∧ ln (F + 4) = 8) (hF : D 1956 17 = 1 → nmC D F nF) (hT : (unO D T n F h p nF).1 = 0 → untN (rat D (F + 1)) (D (F + 1) 1) T (D F 5) (nmO T n p nF).2 (unE T n (nmO T n p nF).2) → ∀ D', unR D D' T F (nmO T n p nF).2 (unE T n (nmO T n p nF).2) → K D' 1) (hN : (unO D T n F h p nF).1 ≠ 0 → ∀ D', D' 1957 2 = (unO D T n F h p nF).1 → D' 1957 3 = (unO D T n F h p nF).2 → frZ D D' → K D' 0) : WP sc 130 0 D [(0, (1209, 1956)), (1, (0, h))] [] K E := by
  refine wp_ok (fun hok => ?_)
  have c := hc.2
  refine v130_0 ?_
  unfold unO at hT hN
  by_cases z : D 1956 17 = 1
  rotate_left
  · rw [if_neg z]
    rw [if_pos z] at hN
    exact t_fc (hN (show (5 : Int) ≠ 0 from by decide) _ fc_2 fc_3 frZ_fc)
  rw [if_pos z]
  rw [if_neg (fun w => w z)] at hT hN
  have hFn := hF z
  have hF1 := hF5 z
  have fin : (nmO T n p nF).1 = 0 → WP sc 46 0 (wr D 1957 1 (nmO T n p nF).2) [(0, (1202, 1957)), (1, (0, 3))] [] (fun D7 r8 => if D7 1957 1 = r8 then (WP sc 42 0 D7 [(0, (1202, 1957)), (1, (0, 1)), (2, (0, r8))] [] (fun D10 r11 => tbl r11 (K D10 r11)) E) else (if D7 1956 5 = -1 then False else (WP sc 58 0 D7 [(0, (1204, D7 1956 5)), (1, (1207, D7 1957 0)), (2, (0, r8)), (3, (0, D7 1957 1))] [] (fun D13 r14 => if r14 = 0 then (WP sc 42 0 D13 [(0, (1202, 1957)), (1, (0, 6)), (2, (0, r8))] [] (fun D16 r17 => tbl r17 (K D16 r17)) E) else (WP sc 45 0 (wr D13 1956 17 2) [(0, (1202, 1957)), (1, (0, 10))] [] (fun D19 r20 => tbl r20 (K D19 r20)) E)) E))) E := fun e0 => by
    obtain ⟨m1, m2, m3, m4⟩ := nmO_0 e0
    have mn := pb_lt m3 (by omega)
    have mb := ru_b (s := 5) (T := T) (n := n) (a := p + 1) (by have := pb_lt m1 (by omega); omega)
    have eE : ru 5 T n (p + 1) = nmZ T n p := rfl
    rw [eE] at mb
    rw [if_neg (fun w => w e0)] at hT hN
    generalize (nmO T n p nF).2 = u at *
    have h1 := cu_wr hc (b := u) ⟨by omega, by omega⟩
    refine t_run (by omega) h1 ?_
    have rb := ru_b (s := 3) (T := T) (n := n) (a := u) (by omega)
    have ri := ru_in (s := 3) (T := T) (n := n) (a := u) (by omega)
    have eU : ru 3 T n u = unE T n u := rfl
    rw [eU] at rb ri ⊢
    rw [wr_wr, wr_self]
    have h2 := cu_wr hc (b := unE T n u) ⟨by omega, by omega⟩
    have w5 : (wr D 1957 1 (unE T n u)) 1956 5 = F := by rw [wr_ne (by omega)]; exact hF1
    have w0 : (wr D 1957 1 (unE T n u)) 1957 0 = 1 := by rw [wr_ni (by omega)]; exact hc.1.1
    have f1 : frZ D (wr D 1957 1 (unE T n u)) := frZ_wr (by omega)
    by_cases z2 : unE T n u = u
    · rw [if_pos z2]
      rw [if_pos z2] at hN
      exact t_fc (hN (show (1 : Int) ≠ 0 from by decide) _ fc_2 fc_3 (frZ_tr f1 frZ_fc))
    rw [if_neg z2, w5, w0, if_neg (by omega)]
    rw [if_neg z2] at hT hN
    have r2 : ∀ x, x ≠ 1957 → x + 1 ≠ 1957 → ∀ j, rat (wr D 1957 1 (unE T n u)) x j = rat D x j := fun x q1 q2 j => rat_fr (wr_ne q1) (fun j => wr_ne q2) j
    have key : untN (rat (wr D 1957 1 (unE T n u)) (F + 1)) (D (F + 1) 1) (rat (wr D 1957 1 (unE T n u)) 1) ((wr D 1957 1 (unE T n u)) F 5) u (unE T n u) ↔ untN (rat D (F + 1)) (D (F + 1) 1) T (D F 5) u (unE T n u) := by
      rw [wr_ne (by omega), show rat (wr D 1957 1 (unE T n u)) (F + 1) = rat D (F + 1) from funext (fun j => r2 _ (by omega) (by omega) j)]
      exact untN_ext (fun j a b => (h2.2.2.2.2 j (by omega) (by omega)).1)
    refine c_tunit (z := D (F + 1) 1) ⟨by rw [wr_ne (by omega)], by rw [hFn.1]; omega, by rw [hFn.1]; have := hFn.2.2.1; omega⟩ hFn.2.2.2.1 hFb.2.2 ⟨by rw [wr_ne (by omega), c.1.1]; exact c.1.2.1, by rw [wr_ne (by omega), c.1.1]; omega⟩ (by omega) ⟨by omega, by omega, by rw [wr_ne (by omega), c.1.1]; exact rb.2⟩ (fun q D3 hb => ?_) (fun q => ?_)
    · rw [if_neg (by omega)]
      rw [key] at q
      rw [cif_neg (fun w => w q)] at hT hN
      obtain ⟨b1, b2, b3, b4, b5⟩ := hb
      have g3 : ∀ x j, x ≠ F + 3 → x ≠ F + 4 → ¬ (x = 1957 ∧ j = 1) → D3 x j = D x j := fun x j u1 u2 u3 => by
        rw [b5 x j u1 (by omega)]
        by_cases y : x = 1957
        · subst y; exact wr_ni (by omega)
        · exact wr_ne y
      have f3 : frZ D (wr D3 1956 17 2) := frZ_tr (D1 := D3) (fun x j u => g3 x j (by omega) (by omega) (by omega)) (frZ_wr (by omega))
      have h3 := cu_frZ hc (D' := wr D3 1956 17 2) (b := unE T n u) ⟨by omega, by omega⟩ (by rw [wr_ne (by omega), b5 _ _ (by omega) (by omega), wr_self]) f3
      refine t_expect h3 (fun e3 => ?_) (fun e3 => ?_)
      · rw [if_neg (fun w => w e3)] at hT
        refine tbl_of (Or.inr rfl) (hT rfl q _ ⟨⟨?_, fun j a b => ?_⟩, ⟨?_, wr_self⟩, fun x j u1 u2 u3 u4 => ?_⟩)
        · rw [wr_ne (by omega), wr_ne (by omega)]; exact b1
        · rw [wr_ne (by omega), wr_ne (by omega)]
          have q3 := b4 j a b
          rw [show F + 3 + 1 = F + 4 from by omega] at q3
          rw [q3, wr_ne (by omega)]
          refine cu_by hok hc ⟨by omega, by omega⟩ ?_
          have := ri (u + j) (by omega) (by omega)
          rw [srt_iff] at this
          omega
        · rw [wr_ne (by omega), wr_self]
        · by_cases y7 : x = 1957
          · subst y7
            rw [wr_ni (by omega), wr_ne (by omega), g3 _ _ u1 u2 u4]
          · rw [wr_ne y7]
            by_cases y6 : x = 1956
            · subst y6
              rw [wr_ni (by omega), g3 _ _ u1 u2 u4]
            · rw [wr_ne y6, g3 _ _ u1 u2 u4]
      · rw [if_pos e3] at hN
        exact tbl_of (Or.inl rfl) (hN (show (1 : Int) ≠ 0 from by decide) _ fc_2 fc_3 (frZ_tr f3 frZ_fc))
    · rw [if_pos rfl]
      rw [key] at q
      rw [cif_pos q] at hN
      exact t_fc (hN (show (6 : Int) ≠ 0 from by decide) _ fc_2 fc_3 (frZ_tr f1 frZ_fc))
  have g := t_named (sc := sc) (E := E) (K := fun D4 r5 => if r5 = 0 then K D4 0 else WP sc 46 0 D4 [(0, (1202, 1957)), (1, (0, 3))] [] (fun D7 r8 => if D7 1957 1 = r8 then (WP sc 42 0 D7 [(0, (1202, 1957)), (1, (0, 1)), (2, (0, r8))] [] (fun D10 r11 => tbl r11 (K D10 r11)) E) else (if D7 1956 5 = -1 then False else (WP sc 58 0 D7 [(0, (1204, D7 1956 5)), (1, (1207, D7 1957 0)), (2, (0, r8)), (3, (0, D7 1957 1))] [] (fun D13 r14 => if r14 = 0 then (WP sc 42 0 D13 [(0, (1202, 1957)), (1, (0, 6)), (2, (0, r8))] [] (fun D16 r17 => tbl r17 (K D16 r17)) E) else (WP sc 45 0 (wr D13 1956 17 2) [(0, (1202, 1957)), (1, (0, 10))] [] (fun D19 r20 => tbl r20 (K D19 r20)) E)) E))) E) hc hF1 ⟨by omega, by omega⟩ hFn (fun e0 => by rw [if_neg (by omega)]; exact fin e0) (fun e0 D' q1 q2 q3 => by
    rw [if_pos rfl]
    rw [if_pos e0] at hN
    exact hN e0 D' q1 q2 q3)
  simp only [if_pos, show ((0 : Int) = 0) = True from eq_self 0, show ((1 : Int) = 0) = False from by decide, if_false, if_true] at g
  exact g
/-! a help text -/
def heO (D : tD) (T : Int → Int) (n h p : Int) (nF : List Int) : Int × Int :=
  if D 1956 17 = 0 then (5, h) else if (nmO T n p nF).1 ≠ 0 then nmO T n p nF
  else if ¬ ((es T n (nmO T n p nF).2).2.2 = true ∧ pb T n (es T n (nmO T n p nF).2).1 = 10) then (1, (es T n (nmO T n p nF).2).1)
  else if ((es T n (nmO T n p nF).2).2.1.length : Int) = 0 then (1, (nmO T n p nF).2)
  else if 40 < ((es T n (nmO T n p nF).2).2.1.length : Int) then (7, (nmO T n p nF).2)
  else (0, (es T n (nmO T n p nF).2).1 + 1)
def heR (D D' : tD) (F e : Int) (L : List Int) : Prop := (D' (F + 5) 1 = (L.length : Int) ∧ atL D' (F + 6) 0 L) ∧ (D' 1956 17 = 0 ∧ D' 1957 1 = e + 1) ∧ ∀ x j, x ≠ F + 5 → x ≠ F + 6 → ¬ (x = 1956 ∧ j = 17) → ¬ (x = 1957 ∧ j = 1) → D' x j = D x j
theorem t_help {h p F : Int} {nF : List Int} (hc : cu D 1957 1 T n p) (hF5 : D 1956 17 ≠ 0 → D 1956 5 = F) (hFb : 980 ≤ F ∧ F + 6 < 1953 ∧ ln (F + 6) = 40) (hF : D 1956 17 ≠ 0 → nmC D F nF) (hT : (heO D T n h p nF).1 = 0 → ∀ D', heR D D' F (es T n (nmO T n p nF).2).1 (es T n (nmO T n p nF).2).2.1 → K D' 1) (hN : (heO D T n h p nF).1 ≠ 0 → ∀ D', D' 1957 2 = (heO D T n h p nF).1 → D' 1957 3 = (heO D T n h p nF).2 → frZ D D' → K D' 0) : WP sc 131 0 D [(0, (1209, 1956)), (1, (0, h))] [] K E := by
  have c := hc.2
  refine v131_0 ?_
  unfold heO at hT hN
  by_cases z : D 1956 17 = 0
  · rw [if_pos z]
    rw [if_pos z] at hN
    exact t_fc (hN (show (5 : Int) ≠ 0 from by decide) _ fc_2 fc_3 frZ_fc)
  rw [if_neg z]
  rw [if_neg z] at hT hN
  have hFn := hF z
  have hF1 := hF5 z
  have fin : (nmO T n p nF).1 = 0 → ∀ D7, D7 = wr D 1957 1 (nmO T n p nF).2 → (if D7 1956 5 = -1 then False else (WP sc 49 0 D7 [(0, (1202, 1957)), (1, (0, 10)), (2, (1207, (D7 1956 5) + 5))] [] (fun D10 r11 => if r11 < 0 then (K D10 0) else (if r11 = 0 then (WP sc 42 0 D10 [(0, (1202, 1957)), (1, (0, 1)), (2, (0, D7 1957 1))] [] (fun D13 r14 => tbl r14 (K D13 r14)) E) else (if 40 < r11 then (WP sc 42 0 D10 [(0, (1202, 1957)), (1, (0, 7)), (2, (0, D7 1957 1))] [] (fun D16 r17 => tbl r17 (K D16 r17)) E) else (WP sc 45 0 (wr D10 1956 17 0) [(0, (1202, 1957)), (1, (0, 10))] [] (fun D19 r20 => tbl r20 (K D19 r20)) E)))) E)) := fun e0 D7 eD => by
    obtain ⟨m1, m2, m3, m4⟩ := nmO_0 e0
    have mn := pb_lt m3 (by omega)
    have mb := ru_b (s := 5) (T := T) (n := n) (a := p + 1) (by have := pb_lt m1 (by omega); omega)
    have eE : ru 5 T n (p + 1) = nmZ T n p := rfl
    rw [eE] at mb
    rw [if_neg (fun w => w e0)] at hT hN
    generalize (nmO T n p nF).2 = u at *
    have h1 := cu_wr hc (b := u) ⟨by omega, by omega⟩
    have w5 : D7 1956 5 = F := by rw [eD, wr_ne (by omega)]; exact hF1
    have w1 : D7 1957 1 = u := by rw [eD, wr_self]
    rw [w5, w1, if_neg (by omega), eD]
    have f1 : frZ D (wr D 1957 1 u) := frZ_wr (by omega)
    have eb := es_bnd (T := T) (n := n) (a := u) ⟨by omega, by omega⟩
    refine t_esc (q := F + 5) (Or.inr rfl) ⟨by omega, by omega, by omega, by omega, by omega⟩ (by rw [show F + 5 + 1 = F + 6 from by omega, hFb.2.2]; omega) h1 (fun t1 t2 D3 hw a1 hf => ?_) (fun t1 D3 a1 a2 hf => ?_)
    · rw [if_neg (by omega)]
      rw [if_neg (fun w => w ⟨t1, t2⟩)] at hT hN
      have g3 : ∀ x j, x ≠ F + 5 → x ≠ F + 6 → ¬ (x = 1957 ∧ j = 1) → D3 x j = D x j := fun x j u1 u2 u3 => by
        rw [hf x j u1 (by omega) u3]
        by_cases y : x = 1957
        · subst y; exact wr_ni (by omega)
        · exact wr_ne y
      have f3 : frZ D D3 := fun x j u => g3 x j (by omega) (by omega) (by omega)
      by_cases z0 : ((es T n u).2.1.length : Int) = 0
      · rw [if_pos z0] at hN ⊢
        exact t_fc (hN (show (1 : Int) ≠ 0 from by decide) _ fc_2 fc_3 (frZ_tr f3 frZ_fc))
      rw [if_neg z0] at hT hN ⊢
      by_cases z4 : 40 < ((es T n u).2.1.length : Int)
      · rw [if_pos z4] at hN ⊢
        exact t_fc (hN (show (7 : Int) ≠ 0 from by decide) _ fc_2 fc_3 (frZ_tr f3 frZ_fc))
      rw [if_neg z4] at hT hN ⊢
      have f4 : frZ D (wr D3 1956 17 0) := frZ_tr f3 (frZ_wr (by omega))
      have h4 := cu_frZ hc (D' := wr D3 1956 17 0) (b := (es T n u).1) ⟨by omega, by omega⟩ (by rw [wr_ne (by omega)]; exact a1) f4
      refine t_expect h4 (fun e3 => ?_) (fun e3 => absurd t2 e3)
      have wi := wo_in hw (by rw [show F + 5 + 1 = F + 6 from by omega, hFb.2.2]; omega)
      rw [txt_w8 eb.2.2.2, show F + 5 + 1 = F + 6 from by omega] at wi
      refine tbl_of (Or.inr rfl) (hT rfl _ ⟨⟨?_, ?_⟩, ⟨?_, wr_self⟩, fun x j u1 u2 u3 u4 => ?_⟩)
      · rw [wr_ne (by omega), wr_ne (by omega)]; exact wi.1
      · exact atL_fr (fun j _ _ => by rw [wr_ne (by omega), wr_ne (by omega)]) wi.2
      · rw [wr_ne (by omega), wr_self]
      · by_cases y7 : x = 1957
        · subst y7
          rw [wr_ni (by omega), wr_ne (by omega), g3 _ _ u1 u2 u4]
        · rw [wr_ne y7]
          by_cases y6 : x = 1956
          · subst y6
            rw [wr_ni (by omega), g3 _ _ u1 u2 u4]
          · rw [wr_ne y6, g3 _ _ u1 u2 u4]
    · rw [if_pos (by omega)]
      rw [if_pos t1] at hN
      refine hN (show (1 : Int) ≠ 0 from by decide) D3 a1 a2 (fun x j u1 => ?_)
      rw [hf x j (by omega) (by omega) (by omega)]
      exact f1 x j u1
  have g := t_named (sc := sc) (E := E) (K := fun D7 r5 => if r5 = 0 then K D7 0 else (if D7 1956 5 = -1 then False else (WP sc 49 0 D7 [(0, (1202, 1957)), (1, (0, 10)), (2, (1207, (D7 1956 5) + 5))] [] (fun D10 r11 => if r11 < 0 then (K D10 0) else (if r11 = 0 then (WP sc 42 0 D10 [(0, (1202, 1957)), (1, (0, 1)), (2, (0, D7 1957 1))] [] (fun D13 r14 => tbl r14 (K D13 r14)) E) else (if 40 < r11 then (WP sc 42 0 D10 [(0, (1202, 1957)), (1, (0, 7)), (2, (0, D7 1957 1))] [] (fun D16 r17 => tbl r17 (K D16 r17)) E) else (WP sc 45 0 (wr D10 1956 17 0) [(0, (1202, 1957)), (1, (0, 10))] [] (fun D19 r20 => tbl r20 (K D19 r20)) E)))) E))) hc hF1 ⟨by omega, by omega⟩ hFn (fun e0 => by rw [if_neg (by omega)]; exact fin e0 _ rfl) (fun e0 D' q1 q2 q3 => by
    rw [if_pos rfl]
    rw [if_pos e0] at hN
    exact hN e0 D' q1 q2 q3)
  simp only [show ((0 : Int) = 0) = True from eq_self 0, show ((1 : Int) = 0) = False from by decide, if_false, if_true] at g
  exact g
/-! the line -/
def hdE (T : Int → Int) (n a : Int) : Int := ru 0 T n (a + 2)
theorem t_hline {a : Int} (hc : cu D 1957 1 T n a) (h35 : pb T n a = 35) (hF1 : pb T n (a + 1) ≠ 32 → K (fc (wr D 1957 1 (a + 1)) 1 (a + 1)) 0) (hE : pb T n (a + 1) = 32 → wdT T 15 (a + 2) (hdE T n a) → WP sc 126 0 (wr D 1957 1 (hdE T n a)) [(0, (1209, 1956)), (1, (0, a))] [] (fun D r => tbl r (K D r)) E) (hY : pb T n (a + 1) = 32 → ¬ wdT T 15 (a + 2) (hdE T n a) → wdT T 12 (a + 2) (hdE T n a) → WP sc 127 0 (wr D 1957 1 (hdE T n a)) [(0, (1209, 1956)), (1, (0, a))] [] (fun D r => tbl r (K D r)) E) (hU : pb T n (a + 1) = 32 → ¬ wdT T 15 (a + 2) (hdE T n a) → ¬ wdT T 12 (a + 2) (hdE T n a) → wdT T 13 (a + 2) (hdE T n a) → WP sc 130 0 (wr D 1957 1 (hdE T n a)) [(0, (1209, 1956)), (1, (0, a))] [] (fun D r => tbl r (K D r)) E) (hH : pb T n (a + 1) = 32 → ¬ wdT T 15 (a + 2) (hdE T n a) → ¬ wdT T 12 (a + 2) (hdE T n a) → ¬ wdT T 13 (a + 2) (hdE T n a) → wdT T 14 (a + 2) (hdE T n a) → WP sc 131 0 (wr D 1957 1 (hdE T n a)) [(0, (1209, 1956)), (1, (0, a))] [] (fun D r => tbl r (K D r)) E) (hX : pb T n (a + 1) = 32 → ¬ wdT T 15 (a + 2) (hdE T n a) → ¬ wdT T 12 (a + 2) (hdE T n a) → ¬ wdT T 13 (a + 2) (hdE T n a) → ¬ wdT T 14 (a + 2) (hdE T n a) → K (fc (wr D 1957 1 (hdE T n a)) 1 (a + 2)) 0) : WP sc 125 0 D [(0, (1209, 1956))] [] K E := by
  have c := hc.2
  have an := pb_lt h35 (by omega)
  refine v125_0 ?_
  rw [hc.1.2]
  refine t_expect hc (fun _ => ?_) (fun w => absurd h35 w)
  rw [if_neg (by omega)]
  have h1 := cu_wr hc (b := a + 1) ⟨by omega, by omega⟩
  refine t_expect h1 (fun e => ?_) (fun e => ?_)
  · rw [if_neg (by omega), wr_wr]
    have an2 := pb_lt e (by omega)
    have h2 := cu_wr hc (b := a + 1 + 1) ⟨by omega, by omega⟩
    refine t_run (by omega) h2 ?_
    rw [wr_wr, show a + 1 + 1 = a + 2 from by omega]
    have rb := ru_b (s := 0) (T := T) (n := n) (a := a + 2) (by omega)
    have eH : ru 0 T n (a + 2) = hdE T n a := rfl
    rw [eH] at rb ⊢
    have h3 := cu_wr hc (b := hdE T n a) ⟨by omega, by omega⟩
    have w0 : (wr D 1957 1 (hdE T n a)) 1957 0 = 1 := by rw [wr_ni (by omega)]; exact hc.1.1
    rw [w0, wr_self]
    have kk : 0 ≤ (1 : Int) + 1 ∧ (1 : Int) + 1 < 2018 ∧ tkd ((1 : Int) + 1).toNat = 2 := ⟨by omega, by omega, rfl⟩
    refine t_word (a0 := 1957) kk twd_eof ⟨by omega, rb.1, rb.2⟩ ⟨_, h3⟩ (fun q1 => ?_) (fun q1 => ?_)
    · rw [if_neg (by omega)]; exact hE e q1
    rw [if_pos rfl, w0, wr_self]
    refine t_word (a0 := 1957) kk twd_typ ⟨by omega, rb.1, rb.2⟩ ⟨_, h3⟩ (fun q2 => ?_) (fun q2 => ?_)
    · rw [if_neg (by omega)]; exact hY e q1 q2
    rw [if_pos rfl, w0, wr_self]
    refine t_word (a0 := 1957) kk twd_uni ⟨by omega, rb.1, rb.2⟩ ⟨_, h3⟩ (fun q3 => ?_) (fun q3 => ?_)
    · rw [if_neg (by omega)]; exact hU e q1 q2 q3
    rw [if_pos rfl, w0, wr_self]
    refine t_word (a0 := 1957) kk twd_hel ⟨by omega, rb.1, rb.2⟩ ⟨_, h3⟩ (fun q4 => ?_) (fun q4 => ?_)
    · rw [if_neg (by omega)]; exact hH e q1 q2 q3 q4
    rw [if_pos rfl]
    exact t_fc (hX e q1 q2 q3 q4)
  · rw [if_pos rfl]
    exact hF1 e
end HDD
