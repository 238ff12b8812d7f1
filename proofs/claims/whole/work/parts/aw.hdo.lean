/-! reading: head lines, the other side: help, the line -/
section HDO
variable {sc : Nat × (Nat → Int32)} {D A A' : tD} {K : tD → Int → Prop} {E : tD → Nat → Prop} {T : Int → Int} {n : Int}
theorem es_nil : ∀ {a : Int}, a ≤ n → 0 ≤ a → (es T n a).2.2 = true → ((es T n a).2.1.length : Int) = 0 → (es T n a).1 = a := by
  intro a h h0 h1 h2
  have e := es_eq (T := T) (n := n) (a := a) h
  by_cases q1 : pb T n a < 32 ∨ 126 < pb T n a ∨ pb T n a = 34
  · rw [e, if_pos q1]
  · rw [if_neg q1] at e
    by_cases q2 : pb T n a = 92
    · rw [if_pos q2] at e
      by_cases q3 : un (pb T n (a + 1)) < 0
      · rw [if_pos q3] at e; rw [e] at h1; exact absurd (show false = true from h1) (by decide)
      · rw [if_neg q3] at e
        rw [e] at h2
        have : (((es T n (a + 2)).2.1.length + 1 : Nat) : Int) = 0 := h2
        omega
    · rw [if_neg q2] at e
      rw [e] at h2
      have : (((es T n (a + 1)).2.1.length + 1 : Nat) : Int) = 0 := h2
      omega
theorem u_help {h p : Int} {nF : List Int} (hc : mu A T n p) (hl : (A 1977 49 = 1 ∨ A 1977 49 = 2) ↔ D 1956 17 ≠ 0) (hF : D 1956 17 ≠ 0 → nwM A nF) (hT : (heO D T n h p nF).1 = 0 → ∀ A', mhR A A' (es T n (nmO T n p nF).2).2.1 ((es T n (nmO T n p nF).2).1 + 1) → frW A A' → (0 ≤ (nmO T n p nF).2 ∧ (nmO T n p nF).2 ≤ n ∧ (es T n (nmO T n p nF).2).1 + 1 ≤ n ∧ (es T n (nmO T n p nF).2).2.1.length ≤ 40) → K A' 1) (hN : (heO D T n h p nF).1 ≠ 0 → ∀ A', A' 1977 45 = (heO D T n h p nF).1 → A' 1977 46 = (heO D T n h p nF).2 → frW A A' → K A' 0) : WP sc 264 0 A [(0, (1211, 1977)), (1, (0, h))] [] K E := by
  have c := hc.2
  unfold heO at hT hN
  have body : (A 1977 49 = 1 ∨ A 1977 49 = 2) → WP sc 262 0 A [(0, (1211, 1977))] [] (fun D1 r2 => if r2 = 0 then (K D1 0) else (WP sc 256 0 D1 [(0, (1211, 1977))] [] (fun D4 r5 => if r5 = 0 then (K D4 0) else (if D1 1977 47 = D4 1977 47 then (WP sc 251 0 D4 [(0, (1211, 1977)), (1, (0, 1)), (2, (0, D4 1977 47))] [] (fun D7 r8 => tbl r8 (K D7 r8)) E) else (WP sc 252 0 D4 [(0, (1211, 1977))] [] (fun D10 r11 => if r11 = 10 then (if 40 < D10 1977 60 then (WP sc 251 0 D10 [(0, (1211, 1977)), (1, (0, 7)), (2, (0, D1 1977 47))] [] (fun D13 r14 => tbl r14 (K D13 r14)) E) else ((0 ≤ D10 1977 48 ∧ D10 1977 48 < 16) ∧ (WP sc 264 105 (wr D10 1986 (D10 1977 48) (D10 1977 60)) [(0, (1211, 1977)), (3, (0, 0))] [] K E))) else (WP sc 251 0 D10 [(0, (1211, 1977)), (1, (0, 1)), (2, (0, D10 1977 47))] [] (fun D16 r17 => tbl r17 (K D16 r17)) E)) E))) E)) E := fun z => by
    have hz := hl.mp z
    have hFn := hF hz
    rw [if_neg hz] at hT hN
    refine u_named hc hFn (fun e0 => ?_) (fun e0 A1 q1 q2 q3 => ?_)
    rotate_left
    · rw [if_pos rfl]
      rw [if_pos e0] at hN
      exact hN e0 A1 q1 q2 q3
    rw [if_neg (by omega), wr_self]
    obtain ⟨m1, m2, m3, m4⟩ := nmO_0 e0
    have mn := pb_lt m3 (by omega)
    have mb := ru_b (s := 5) (T := T) (n := n) (a := p + 1) (by have := pb_lt m1 (by omega); omega)
    have eE : ru 5 T n (p + 1) = nmZ T n p := rfl
    rw [eE] at mb
    rw [if_neg (fun w => w e0)] at hT hN
    generalize (nmO T n p nF).2 = u at *
    have h1 := mu_wr hc (b := u) ⟨by omega, by omega⟩
    have eb := es_bnd (T := T) (n := n) (a := u) ⟨by omega, by omega⟩
    refine u_esc h1 (fun t1 A4 q1 q2 q3 q4 => ?_) (fun t1 A4 q1 q2 q4 => ?_)
    rotate_left
    · rw [if_pos rfl]
      rw [if_pos (fun w => by rw [t1] at w; exact absurd w.1 (by decide))] at hN
      refine hN (show (1 : Int) ≠ 0 from by decide) A4 q1 q2 (fun x j w => ?_)
      rw [q4 x j (by omega) (by omega)]
      exact (frW_wr (A := A) (a := 1977) (i := 47) (v := u) (by omega)) x j w
    rw [if_neg (by omega), q1]
    have f4 : frW A A4 := fun x j w => by
      rw [q4 x j (by omega) (by omega)]
      exact (frW_wr (A := A) (a := 1977) (i := 47) (v := u) (by omega)) x j w
    have h4 : mu A4 T n (es T n u).1 := mu_to h1 ⟨by omega, by omega⟩ q1 (q4 _ _ (by omega) (by omega)) (q4 _ _ (by omega) (by omega)) (fun j => q4 _ _ (by omega) (by omega))
    by_cases z0 : u = (es T n u).1
    · rw [if_pos z0]
      by_cases t2 : pb T n (es T n u).1 = 10
      · rw [if_neg (fun w => w ⟨t1, t2⟩), if_pos (by omega)] at hN
        exact u_fails h4.1.2.2 (hN (show (1 : Int) ≠ 0 from by decide) _ fl_45 (by rw [fl_46]; exact z0.symm) (frW_tr f4 frW_fl))
      · rw [if_pos (fun w => t2 w.2)] at hN
        exact u_fails h4.1.2.2 (hN (show (1 : Int) ≠ 0 from by decide) _ fl_45 fl_46 (frW_tr f4 frW_fl))
    rw [if_neg z0]
    refine u_peek h4 ?_
    by_cases t2 : pb T n (es T n u).1 = 10
    rotate_left
    · rw [if_neg t2, q1]
      rw [if_pos (fun w => t2 w.2)] at hN
      exact u_fails h4.1.2.2 (hN (show (1 : Int) ≠ 0 from by decide) _ fl_45 fl_46 (frW_tr f4 frW_fl))
    rw [if_pos t2, q2]
    have n0 : ¬ ((es T n u).2.1.length : Int) = 0 := fun w => z0 (es_nil (by omega) (by omega) t1 w).symm
    rw [if_neg (fun w => w ⟨t1, t2⟩), if_neg n0] at hT hN
    by_cases z4 : 40 < ((es T n u).2.1.length : Int)
    · rw [if_pos z4] at hN ⊢
      exact u_fails h4.1.2.2 (hN (show (7 : Int) ≠ 0 from by decide) _ fl_45 fl_46 (frW_tr f4 frW_fl))
    rw [if_neg z4] at hT ⊢
    have d48 : A4 1977 48 = A 1977 48 := by rw [q4 _ _ (by omega) (by omega), wr_ni (by omega)]
    rw [d48]
    refine ⟨hFn.1, ?_⟩
    have g4 : ∀ x j, x ≠ 1977 → x ≠ 2015 → A4 x j = A x j := fun x j w1 w2 => by rw [q4 x j w2 (by omega), wr_ne w1]
    refine u_cp105 (f := A 1977 48) (L := (es T n u).2.1) (A0 := wr A4 1986 (A 1977 48) ((es T n u).2.1.length : Int)) ⟨by rw [wr_ne (by omega)]; exact d48, hFn.1.1, hFn.1.2⟩ (by omega) (by rw [wr_ne (by omega)]; exact q2) (atL_fr (fun j _ _ => wr_ne (by omega)) q3) (fun A3 a1 a2 a3 => ?_) (es T n u).2.1 [] _ rfl trivial (fun _ _ => rfl) (fun _ _ _ => rfl)
    have g3 : ∀ x j, x ≠ 1985 → x ≠ 1986 → (wr A3 1977 49 3) x j = (wr A4 1977 49 3) x j := fun x j w1 w2 => by
      by_cases y : x = 1977
      · subst y
        by_cases y9 : j = 49
        · rw [y9, wr_self, wr_self]
        · rw [wr_ni y9, wr_ni y9, a3 _ _ (by omega), wr_ne (by omega)]
      · rw [wr_ne y, wr_ne y, a3 x j w1, wr_ne w2]
    have f3 : frW A (wr A3 1977 49 3) := fun x j w => by
      have g8 := hFn.2.2.2.2
      by_cases y3 : x = 1985
      · subst y3
        have e1 : cap0 1985 = 320 := rfl
        rw [wr_ne (by omega), a2 j (by omega), wr_ne (by omega)]; exact f4 _ _ w
      by_cases y4 : x = 1986
      · subst y4
        have e1 : cap0 1986 = 8 := rfl
        rw [wr_ne (by omega), a3 _ _ (by omega), wr_ni (by omega)]; exact f4 _ _ w
      rw [g3 x j y3 y4]
      exact (frW_tr f4 (frW_wr (by omega))) x j w
    have h3 : mu (wr A3 1977 49 3) T n (es T n u).1 := mu_to h4 ⟨by omega, by omega⟩ (by rw [g3 _ _ (by omega) (by omega), wr_ni (by omega)]; exact q1) (by rw [g3 _ _ (by omega) (by omega), wr_ni (by omega)]) (by rw [g3 _ _ (by omega) (by omega), wr_ni (by omega)]) (fun j => by rw [g3 _ _ (by omega) (by omega), wr_ne (by omega)])
    refine u_expects h3 (fun e7 => ?_) (fun e7 => absurd t2 e7)
    have := pb_lt e7 (by omega)
    refine tbl_of (Or.inr rfl) (hT rfl _ ⟨⟨?_, ?_⟩, ⟨?_, wr_self⟩, fun j a => ?_, fun j a => ?_, fun j a b w => ?_, fun x j w1 w2 w3 w4 => ?_⟩ (frW_tr f3 (frW_wr (by omega))) ⟨by omega, by omega, by omega, by omega⟩)
    · rw [wr_ne (by omega), wr_ne (by omega), a3 _ _ (by omega), wr_self]
    · exact atL_fr (fun j _ _ => by rw [wr_ne (by omega), wr_ne (by omega)]) a1
    · rw [wr_ni (by omega), wr_self]
    · rw [wr_ne (by omega), wr_ne (by omega), a3 _ _ (by omega), wr_ni a, g4 _ _ (by omega) (by omega)]
    · rw [wr_ne (by omega), wr_ne (by omega), a2 j a, wr_ne (by omega), g4 _ _ (by omega) (by omega)]
    · rw [wr_ni b, wr_ni a, a3 _ _ (by omega), wr_ne (by omega), q4 _ _ (by omega) (by omega), wr_ni b]
    · rw [wr_ne w1, wr_ne w1, a3 _ _ w2, wr_ne w3, g4 _ _ w1 w4]
  refine v264_0 ?_
  by_cases z1 : A 1977 49 = 1
  · rw [if_pos z1]; exact body (Or.inl z1)
  rw [if_neg z1]
  by_cases z2 : A 1977 49 = 2
  · rw [if_pos z2]; exact body (Or.inr z2)
  rw [if_neg z2]
  have nz : D 1956 17 = 0 := by
    by_cases y : D 1956 17 = 0
    · exact y
    · rcases hl.mpr y with w | w
      · exact absurd w z1
      · exact absurd w z2
  rw [if_pos nz] at hN
  exact u_fails hc.1.2.2 (hN (show (5 : Int) ≠ 0 from by decide) _ fl_45 fl_46 frW_fl)
/-! the line -/
theorem u_run31 {x1 x2 : Int} : ∀ (m : Nat) (b : Int) (A : tD), n - b = (m : Int) → mu A T n b → (∀ A1, A1 = wr A 1977 47 (ru 0 T n b) → mu A1 T n (ru 0 T n b) → WP sc 255 0 A1 [(0, (1211, 1977)), (1, (0, x2)), (2, (0, A1 1977 47)), (3, (0, 15))] [] (fun D7 r8 => if r8 = 0 then (WP sc 255 0 D7 [(0, (1211, 1977)), (1, (0, x2)), (2, (0, D7 1977 47)), (3, (0, 12))] [] (fun D10 r11 => if r11 = 0 then (WP sc 255 0 D10 [(0, (1211, 1977)), (1, (0, x2)), (2, (0, D10 1977 47)), (3, (0, 13))] [] (fun D13 r14 => if r14 = 0 then (WP sc 255 0 D13 [(0, (1211, 1977)), (1, (0, x2)), (2, (0, D13 1977 47)), (3, (0, 14))] [] (fun D16 r17 => if r17 = 0 then (WP sc 251 0 D16 [(0, (1211, 1977)), (1, (0, 1)), (2, (0, x2))] [] (fun D19 r20 => tbl r20 (K D19 r20)) E) else (WP sc 264 0 D16 [(0, (1211, 1977)), (1, (0, x1))] [] (fun D22 r23 => tbl r23 (K D22 r23)) E)) E) else (WP sc 263 0 D13 [(0, (1211, 1977)), (1, (0, x1))] [] (fun D25 r26 => tbl r26 (K D25 r26)) E)) E) else (WP sc 261 0 D10 [(0, (1211, 1977)), (1, (0, x1))] [] (fun D28 r29 => tbl r29 (K D28 r29)) E)) E) else (WP sc 260 0 D7 [(0, (1211, 1977)), (1, (0, x1))] [] (fun D31 r32 => tbl r32 (K D31 r32)) E)) E) → WP sc 259 31 A [(0, (1211, 1977)), (1, (0, x1)), (2, (0, x2))] [] K E := by
  intro m
  have s0 : ∀ b, srt 0 (pb T n b) = true ↔ 65 ≤ pb T n b ∧ pb T n b ≤ 90 := fun b => by rw [srt_iff]; omega
  induction m with
  | zero =>
    intro b A hm h hK
    refine v259_31 (u_peek h (c_within (fun e => ?_) (fun e => ?_)))
    · rw [← s0, srt_pb] at e; omega
    · rw [if_pos rfl]
      rw [ru_stop (fun w => by omega)] at hK
      exact hK A (by rw [wr_id h.1.1]) h
  | succ m ih =>
    intro b A hm h hK
    have c := h.2
    refine v259_31 (u_peek h (c_within (fun e => ?_) (fun e => ?_)))
    · rw [← s0, srt_pb] at e
      rw [if_neg (by omega), h.1.1, w32_id (by omega) (by omega)]
      have h1 := mu_wr h (b := b + 1) ⟨by omega, by omega⟩
      refine ih (b + 1) _ (by omega) h1 (fun A1 e1 e2 => ?_)
      rw [wr_wr, ← ru_go e] at e1
      rw [← ru_go e] at e2
      exact hK A1 e1 e2
    · rw [if_pos rfl]
      rw [← s0, srt_pb] at e
      rw [ru_stop e] at hK
      exact hK A (by rw [wr_id h.1.1]) h
theorem u_hline {a : Int} (hc : mu A T n a) (h35 : pb T n a = 35) (hF1 : pb T n (a + 1) ≠ 32 → K (fl (wr A 1977 47 (a + 1)) 1 (a + 1)) 0) (hE : pb T n (a + 1) = 32 → wdT T 15 (a + 2) (hdE T n a) → WP sc 260 0 (wr A 1977 47 (hdE T n a)) [(0, (1211, 1977)), (1, (0, a))] [] (fun D r => tbl r (K D r)) E) (hY : pb T n (a + 1) = 32 → ¬ wdT T 15 (a + 2) (hdE T n a) → wdT T 12 (a + 2) (hdE T n a) → WP sc 261 0 (wr A 1977 47 (hdE T n a)) [(0, (1211, 1977)), (1, (0, a))] [] (fun D r => tbl r (K D r)) E) (hU : pb T n (a + 1) = 32 → ¬ wdT T 15 (a + 2) (hdE T n a) → ¬ wdT T 12 (a + 2) (hdE T n a) → wdT T 13 (a + 2) (hdE T n a) → WP sc 263 0 (wr A 1977 47 (hdE T n a)) [(0, (1211, 1977)), (1, (0, a))] [] (fun D r => tbl r (K D r)) E) (hH : pb T n (a + 1) = 32 → ¬ wdT T 15 (a + 2) (hdE T n a) → ¬ wdT T 12 (a + 2) (hdE T n a) → ¬ wdT T 13 (a + 2) (hdE T n a) → wdT T 14 (a + 2) (hdE T n a) → WP sc 264 0 (wr A 1977 47 (hdE T n a)) [(0, (1211, 1977)), (1, (0, a))] [] (fun D r => tbl r (K D r)) E) (hX : pb T n (a + 1) = 32 → ¬ wdT T 15 (a + 2) (hdE T n a) → ¬ wdT T 12 (a + 2) (hdE T n a) → ¬ wdT T 13 (a + 2) (hdE T n a) → ¬ wdT T 14 (a + 2) (hdE T n a) → K (fl (wr A 1977 47 (hdE T n a)) 1 (a + 2)) 0) : WP sc 259 0 A [(0, (1211, 1977))] [] K E := by
  have c := hc.2
  have an := pb_lt h35 (by omega)
  refine v259_0 ?_
  rw [hc.1.1, w32_id (x := a + 1) (by omega) (by omega)]
  have h1 := mu_wr hc (b := a + 1) ⟨by omega, by omega⟩
  refine u_expects h1 (fun e => ?_) (fun e => ?_)
  · rw [if_neg (by omega), wr_wr, wr_self]
    have an2 := pb_lt e (by omega)
    have h2 := mu_wr hc (b := a + 1 + 1) ⟨by omega, by omega⟩
    rw [show a + 1 + 1 = a + 2 from by omega] at h2 ⊢
    refine u_run31 (n - (a + 2)).toNat (a + 2) _ (by omega) h2 (fun A1 e1 h3 => ?_)
    have rb := ru_b (s := 0) (T := T) (n := n) (a := a + 2) (by omega)
    have eH : ru 0 T n (a + 2) = hdE T n a := rfl
    rw [eH] at rb e1 h3
    rw [wr_wr] at e1
    subst e1
    rw [wr_self]
    refine u_word (by omega) ⟨by omega, rb.1, rb.2⟩ ⟨_, h3⟩ (fun q1 => ?_) (fun q1 => ?_)
    · rw [if_neg (by omega)]; exact hE e q1
    rw [if_pos rfl, wr_self]
    refine u_word (by omega) ⟨by omega, rb.1, rb.2⟩ ⟨_, h3⟩ (fun q2 => ?_) (fun q2 => ?_)
    · rw [if_neg (by omega)]; exact hY e q1 q2
    rw [if_pos rfl, wr_self]
    refine u_word (by omega) ⟨by omega, rb.1, rb.2⟩ ⟨_, h3⟩ (fun q3 => ?_) (fun q3 => ?_)
    · rw [if_neg (by omega)]; exact hU e q1 q2 q3
    rw [if_pos rfl, wr_self]
    refine u_word (by omega) ⟨by omega, rb.1, rb.2⟩ ⟨_, h3⟩ (fun q4 => ?_) (fun q4 => ?_)
    · rw [if_neg (by omega)]; exact hH e q1 q2 q3 q4
    rw [if_pos rfl]
    exact u_fails h3.1.2.2 (hX e q1 q2 q3 q4)
  · rw [if_pos rfl]
    exact hF1 e
/-- what a run without a thrown thing comes to, comes to be -/
theorem WP_ex {y pc : Nat} {lv : List (Nat × tV)} {lv' : List (Nat × Value)} (hsc : sc.1 ≤ 2560) (hok : okD A) (hl : lr lv lv') (h : WP sc y pc A lv [] K (fun _ _ => False)) : ∃ A' r, okD A' ∧ K A' r := by
  obtain ⟨h0, hh⟩ := hok
  obtain ⟨m, h', o, A1, h1, h2, h3⟩ := h hsc (tnf y) (tnl y) h0 lv' [] (Nat.le_refl _) (Nat.le_refl _) hh hl trivial
  cases o with
  | inl v =>
    obtain ⟨x, _, hx⟩ := h3
    exact ⟨A1, x, ⟨h', h2⟩, hx⟩
  | inr b =>
    obtain ⟨e, _, he⟩ := h3
    exact he.elim
theorem wp_sc {y pc : Nat} {lv : List (Nat × tV)} {st : List tV} (H : sc.1 ≤ 2560 → WP sc y pc D lv st K E) : WP sc y pc D lv st K E := fun hsc => H hsc hsc
end HDO
