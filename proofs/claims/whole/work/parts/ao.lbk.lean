/-! reading labels: the class's side, the set and the loop -/
section LBK
variable {sc : Nat × (Nat → Int32)} {D D' : tD} {K : tD → Int → Prop} {E : tD → Nat → Prop} {T : Int → Int} {n : Int}
theorem fl22 {S : List (List Int)} (h : ∀ x ∈ S, lbl x) : S.flatten.length ≤ 22 * S.length := by
  induction S with
  | nil => exact Nat.le_refl _
  | cons x r ih =>
    have h1 := (lbl_len (h x List.mem_cons_self)).2
    have h2 := ih (fun y hy => h y (List.mem_cons_of_mem _ hy))
    rw [List.flatten_cons, List.length_append, List.length_cons]
    omega
theorem lsIs_fr2 {a0 : Int} {S : List (List Int)} (h : lsIs D a0 S) (h1 : ∀ x j, x = a0 ∨ x = a0 + 1 ∨ x = a0 + 2 → D' x j = D x j) : lsIs D' a0 S := by
  obtain ⟨e1, e2, e3, e4⟩ := h
  exact ⟨by rw [h1 _ _ (Or.inl rfl)]; exact e1, by rw [h1 _ _ (Or.inr (Or.inl rfl))]; exact e2, atL_fr (fun j _ _ => h1 _ _ (Or.inr (Or.inr rfl))) e3, e4⟩
theorem wo_in {r : Int} {L : List Int} (h : wo D r L) (hl : (L.length : Int) ≤ ln (r + 1)) : D r 1 = (L.length : Int) ∧ atL D (r + 1) 0 (L.map w8) := by
  rcases h.2 with ⟨_, _, e3, e4⟩ | ⟨e1, _⟩
  · exact ⟨e3, e4⟩
  · omega
/-- the name of a label, asked by the class -/
theorem t_nameP {a : Int} (h : ∃ p, cu D 1957 1 T n p) (ha : 0 ≤ a) (h61 : pb T n (lbE T n a) = 61) : namP 1 D 1 a (lbE T n a) ↔ lnT T a (lbE T n a) := by
  obtain ⟨p, hc⟩ := h
  have c := hc.2
  have bn := pb_lt h61 (by omega)
  have r1 : ∀ j, 0 ≤ j → j < n → rat D 1 j = T j := fun j u v => (c.2.2.2 j u v).1
  have tb : T (lbE T n a) = 61 := by rw [pb_in bn] at h61; exact h61
  unfold namP lnT
  rw [if_neg (by decide), if_neg (by decide)]
  refine ⟨fun ⟨q1, q2, q3, q4, q5⟩ => ⟨q1, q2, ?_, fun j u v => ?_, ?_⟩, fun ⟨q1, q2, q3, q4, q5⟩ => ⟨q1, q2, ?_, fun j u v => ?_, ?_⟩⟩
  · rw [← r1 a ha (by omega)]; exact q3
  · rw [← r1 j (by omega) (by omega)]; exact q4 j u v
  · rw [r1 a ha (by omega), r1 (a + 1) (by omega) (by omega)] at q5
    rcases q5 with q5 | q5
    · exact absurd q5 (by decide)
    · exact Or.inr q5
  · rw [r1 a ha (by omega)]; exact q3
  · rw [r1 j (by omega) (by omega)]; exact q4 j u v
  · rw [r1 a ha (by omega), r1 (a + 1) (by omega) (by omega)]
    refine Or.inr ?_
    rcases q5 with q5 | q5 | q5
    · refine Or.inr ?_
      rw [show a + 1 = lbE T n a from by omega, tb]
      decide
    · exact Or.inl q5
    · exact Or.inr q5
theorem t_keep {a p x most kd : Int} {nF : List Int} {S : List (List Int)} {ex : Option (Int × List Int)} (h : cu D 1957 1 T n p) (ha : 0 ≤ a ∧ a < lbE T n a) (hin : ∀ j, a ≤ j → j < lbE T n a → srt 5 (T j) = true) (d6 : D 1958 6 = a) (d7 : D 1958 7 = lbE T n a) (d8 : D 1958 8 = lbE T n a + 2) (d9 : D 1958 9 = x) (hx : (x = 1 ∧ lbZ T n kd nF a ex) ∨ (x = 0 ∧ ¬ lbZ T n kd nF a ex)) (h61 : pb T n (lbE T n a) = 61) (hw : wo D 1964 (es T n (lbE T n a + 2)).2.1) (hl : ((es T n (lbE T n a + 2)).2.1.length : Int) ≤ 20 ∧ (x = 0 → ((es T n (lbE T n a + 2)).2.1.length : Int) ≤ 12)) (htx : ∀ b ∈ (es T n (lbE T n a + 2)).2.1, txt b) (hS : lsIs D 1959 S) (hm : 0 ≤ most ∧ most ≤ 3) (hs3 : (S.length : Int) ≤ most) (hex : exC D ex) (hZ : lbZ T n kd nF a ex → ∀ D', cu D' 1957 1 T n p → lsIs D' 1959 S → exC D' (some (lbE T n a + 2, (es T n (lbE T n a + 2)).2.1)) → frY D D' → K D' 1) (hO : ¬ lbZ T n kd nF a ex → lbO T n most a S ex → ∀ D', cu D' 1957 1 T n p → lsIs D' 1959 (S ++ [lbx T n a]) → exC D' ex → frY D D' → K D' 1) (hF : ¬ lbZ T n kd nF a ex → ¬ lbO T n most a S ex → ∀ D', D' 1957 2 = 8 → D' 1957 3 = a → frN D D' → K D' 0) : WP sc 87 0 D [(0, (1206, 1958)), (1, (0, most))] [] K E := by
  refine wp_ok (fun hok => ?_)
  have c := h.2
  have bn := pb_lt h61 (by omega)
  have hw2 := wo_in hw (by show _ ≤ (20 : Int); exact hl.1)
  have bad : ∀ D1, frY D D1 → ¬ lbZ T n kd nF a ex → ¬ lbO T n most a S ex → K (wr (wr D1 1957 2 8) 1957 3 a) 0 := fun D1 f nz no => hF nz no _ (by rw [wr_ni (by omega), wr_self]) wr_self (frN_tr f frN_fl)
  refine v87_0 (fun _ => ?_)
  rw [d9, d6, d7, d8, h.1.1]
  rcases hx with ⟨x1, hz⟩ | ⟨x0, hz⟩
  · rw [if_neg (by omega), wr_ne (by omega)]
    refine c_bec ⟨by omega, by omega, by omega⟩ (by rw [wr_ne (by omega), hw2.1]; show _ ≤ (20 : Int); exact hl.1) ⟨by show (0 : Int) ≤ 20; decide, by show (20 : Int) ≤ 20000; decide⟩ (by rw [wr_ne (by omega), hw2.1]; omega) ⟨by omega, by rw [hw2.1]; omega, by rw [wr_ne (by omega)]; exact Int.le_refl _, by rw [hw2.1]; show _ ≤ (20 : Int); omega⟩ (fun D2 hb => ?_)
    obtain ⟨b1, b2, b3, b4, b5⟩ := hb
    have f2 : frY D D2 := fun y j u => by rw [b5 y j (by omega) (by omega)]; exact wr_ne (by omega)
    refine hZ hz D2 (cu_frY h c.2.1 (by rw [b5 _ _ (by omega) (by omega), wr_ne (by omega)]; exact h.1.2) f2) (lsIs_fr2 hS (fun y j u => by rw [b5 y j (by omega) (by omega), wr_ne (by omega)])) (Or.inr ⟨_, _, rfl, by omega, by rw [b5 _ _ (by omega) (by omega), wr_self], ⟨?_, ?_⟩, hl.1, htx⟩) f2
    · rw [b1, hw2.1]; omega
    · refine atL_mov (D := D) (a := 1964 + 1) (o := 0) (fun j u v => ?_) hw2.2
      rw [List.length_map] at v
      have := b4 j u (by rw [hw2.1]; omega)
      rw [show (0 : Int) + j = j from by omega] at this ⊢
      rw [this, wr_ne (by omega)]
  · rw [if_pos x0]
    have exn := exC_n hex
    by_cases z5 : D 1958 5 < 0
    · rw [if_pos z5, hS.1]
      have exN := exn.mp z5
      by_cases zm : (S.length : Int) < most
      · rw [if_pos zm]
        refine c_name (Or.inr rfl) (by rw [c.1.1]; exact c.1.2.1) (by omega) (by omega) (fun e => ?_) (fun e => ?_)
        · rw [if_neg (by omega), h.1.1, d6, d7]
          rw [t_nameP ⟨p, h⟩ ha.1 h61] at e
          have nl : (lbL T a (lbE T n a)).length = (lbE T n a - a).toNat := lbL_len
          have e8 := e.2.1
          have l12 := hl.2 x0
          refine c_bec ⟨by omega, by omega, by omega⟩ (by rw [c.1.1]; exact c.1.2.1) ⟨by show (0 : Int) ≤ 22; decide, by show (22 : Int) ≤ 20000; decide⟩ (by rw [c.1.1]; omega) ⟨ha.1, by omega, by rw [c.1.1]; omega, by show _ ≤ (22 : Int); omega⟩ (fun D2 hb => ?_)
          obtain ⟨b1, b2, b3, b4, b5⟩ := hb
          have nm8 : (lbL T a (lbE T n a)).map w8 = lbL T a (lbE T n a) := w8_map (fun b hb => by
            obtain ⟨j, u, v, w⟩ := spn_mem hb
            have := srt5_lt (hin j u (by omega))
            omega)
          have w2 : wo D2 1962 (lbL T a (lbE T n a)) := by
            refine ⟨by rw [b1]; exact ⟨by omega, by show _ ≤ (22 : Int); omega⟩, Or.inl ⟨by rw [nl]; show _ ≤ (22 : Int); omega, b2, by rw [b1, nl]; omega, ?_⟩⟩
            rw [nm8]
            refine spn_at (fun j u v => ?_)
            rw [show (0 : Int) + j = j from by omega, b4 j u (by omega)]
            exact cu_by hok h ⟨by omega, by omega⟩ (by have := srt5_lt (hin (a + j) (by omega) (by omega)); omega)
          refine c_wpush (by show (22 : Int) ≤ 20000; decide) w2 (fun D3 w3 f3 => ?_)
          have g3 : ∀ y j, y ≠ 1962 → y ≠ 1963 → D3 y j = D y j := fun y j u v => by rw [f3 y j u v, b5 y j u v]
          refine c_wins (q := 1964) (m := (es T n (lbE T n a + 2)).2.1) ⟨by omega, by omega, by omega⟩ (by show (22 : Int) ≤ 20000; decide) ⟨by rw [g3 _ _ (by omega) (by omega), hw2.1]; show _ ≤ (20 : Int); omega, by rw [g3 _ _ (by omega) (by omega), hw2.1]; omega⟩ ⟨by rw [g3 _ _ (by omega) (by omega)]; exact hw2.1, atL_fr (fun j _ _ => g3 _ _ (by omega) (by omega)) hw2.2⟩ w3 (fun D4 w4 f4 => ?_)
          have g4 : ∀ y j, y ≠ 1962 → y ≠ 1963 → D4 y j = D y j := fun y j u v => by rw [f4 y j u v, g3 y j u v]
          refine c_wpush (by show (22 : Int) ≤ 20000; decide) w4 (fun D5 w5 f5 => ?_)
          have g5 : ∀ y j, y ≠ 1962 → y ≠ 1963 → D5 y j = D y j := fun y j u v => by rw [f5 y j u v, g4 y j u v]
          have ex5 : lbL T a (lbE T n a) ++ [1] ++ (es T n (lbE T n a + 2)).2.1 ++ [2] = lbx T n a := by unfold lbx; simp
          rw [ex5] at w5
          have lx : lbl (lbx T n a) := ⟨_, _, rfl, lnT_nmL e, by omega, htx⟩
          have lxl := lbl_len lx
          have w5' := wo_in w5 (by show _ ≤ (22 : Int); omega)
          have x8 : (lbx T n a).map w8 = lbx T n a := w8_map (fun b hb => by have := lbl_rng lx b hb; omega)
          rw [x8] at w5'
          have f22 := fl22 hS.2.2.2
          have hS5 := lsIs_fr2 (D' := D5) hS (fun y j u => g5 y j (by omega) (by omega))
          have fy5 : frY D D5 := fun y j u => g5 y j (by omega) (by omega)
          refine c_insert (S := S) (x := lbx T n a) ⟨hS5, lx, w5'.2, ⟨by omega, by rw [w5'.1]; omega, Int.le_refl _, by rw [w5'.1]; show _ ≤ (22 : Int); omega, by rw [w5'.1]; omega⟩, ⟨by show _ ≤ (66 : Int); omega, by show (66 : Int) ≤ 20000; decide, by omega⟩, by omega⟩ (fun S' D6 i1 i2 i3 i4 => ?_) (fun i1 => ?_)
          · have fy6 : frY D D6 := fun y j u => by rw [i3 y j (by omega) (by omega) (by omega)]; exact fy5 y j u
            rw [show D5 1960 1 = (S.flatten.length : Int) from hS5.2.1]
            by_cases q : plcL (lbx T n a) S = (S.flatten.length : Int)
            · rw [if_pos q]
              have q2 := plcL_inv (fun y hy => by have := lbl_len (hS.2.2.2 y hy); omega) i1 q
              have q3 := (plcL_end q2).1
              rw [q3] at i1
              injection i1 with i1
              refine hO hz ⟨exN, zm, e, q2⟩ D6 (cu_frY h c.2.1 (by rw [i3 _ _ (by omega) (by omega) (by omega), g5 _ _ (by omega) (by omega)]; exact h.1.2) fy6) (by rw [i1]; exact i2) (exC_fr hex (by rw [i3 _ _ (by omega) (by omega) (by omega), g5 _ _ (by omega) (by omega)]) (fun y j u => by rw [i3 _ _ (by omega) (by omega) (by omega), g5 _ _ (by omega) (by omega)])) fy6
            · rw [if_neg q, i3 _ _ (by omega) (by omega) (by omega), g5 _ _ (by omega) (by omega), d6]
              refine v42_0 ?_
              rw [if_pos rfl]
              exact bad D6 fy6 hz (fun w => q (plcL_end w.2.2.2).2)
          · rw [show D5 1960 1 = (S.flatten.length : Int) from hS5.2.1, if_neg (by omega), g5 _ _ (by omega) (by omega), d6]
            refine v42_0 ?_
            rw [if_pos rfl]
            exact bad D5 fy5 hz (fun w => by rw [(plcL_end w.2.2.2).1] at i1; exact absurd i1 (by simp))
        · rw [if_pos rfl, d6]
          rw [t_nameP ⟨p, h⟩ ha.1 h61] at e
          exact t_fail (bad D frY_rf hz (fun w => e w.2.2.1))
      · rw [if_neg zm]
        exact t_fail (bad D frY_rf hz (fun w => zm w.2.1))
    · rw [if_neg z5]
      exact t_fail (bad D frY_rf hz (fun w => z5 (exn.mpr w.1)))
/-! one label, and all -/
def lrC (D : tD) (T : Int → Int) (n a : Int) (S : List (List Int)) (ex : Option (Int × List Int)) : Prop := cu D 1957 1 T n a ∧ lsIs D 1959 S ∧ exC D ex
theorem lbN_0 {a : Int} (h : (lbN T n a).1 = 0) : lbE T n a ≠ a ∧ pb T n (lbE T n a) = 61 ∧ pb T n (lbE T n a + 1) = 34 := by
  unfold lbN at h
  by_cases e1 : lbE T n a = a
  · rw [if_pos e1] at h; exact absurd (show (1 : Int) = 0 from h) (by decide)
  rw [if_neg e1] at h
  by_cases e2 : pb T n (lbE T n a) = 61
  · rw [if_neg (fun w => w e2)] at h
    by_cases e3 : pb T n (lbE T n a + 1) = 34
    · exact ⟨e1, e2, e3⟩
    · rw [if_pos e3] at h; exact absurd (show (1 : Int) = 0 from h) (by decide)
  · rw [if_pos e2] at h; exact absurd (show (1 : Int) = 0 from h) (by decide)
theorem lbV_0 {v m : Int} (h : (lbV T n v m).1 = 0) : (es T n v).2.2 = true ∧ pb T n (es T n v).1 = 34 ∧ ((es T n v).2.1.length : Int) ≤ m := by
  unfold lbV at h
  by_cases e1 : (es T n v).2.2 = true ∧ pb T n (es T n v).1 = 34
  · rw [if_neg (fun w => w e1)] at h
    by_cases e2 : m < ((es T n v).2.1.length : Int)
    · rw [if_pos e2] at h; exact absurd (show (7 : Int) = 0 from h) (by decide)
    · exact ⟨e1.1, e1.2, by omega⟩
  · rw [if_pos e1] at h; exact absurd (show (1 : Int) = 0 from h) (by decide)
theorem lbM_or {kd a : Int} {nF : List Int} {ex : Option (Int × List Int)} : (lbM T n kd nF a ex = 20 ∧ lbZ T n kd nF a ex ∧ kd = 2) ∨ (lbM T n kd nF a ex = 12 ∧ ¬ (lbZ T n kd nF a ex ∧ kd = 2)) := by
  unfold lbM
  by_cases e : lbZ T n kd nF a ex ∧ kd = 2
  · rw [cif_pos e]; exact Or.inl ⟨rfl, e⟩
  · rw [cif_neg e]; exact Or.inr ⟨rfl, e⟩
theorem t_lab {a F kd most : Int} {nF : List Int} {S : List (List Int)} {ex : Option (Int × List Int)} {K2 : tD → Prop} (h : lrC D T n a S ex) (hF1 : nmC D F nF) (hF2 : D F 5 = kd) (hF3 : F + 2 < 1957 ∧ 0 ≤ F) (hm : 0 ≤ most ∧ most ≤ 3) (hs3 : (S.length : Int) ≤ most) (hT : (lb1 T n kd nF most a S ex).1 = 0 → ∀ D', lrC D' T n (lb1 T n kd nF most a S ex).2.1 (lb1 T n kd nF most a S ex).2.2.1 (lb1 T n kd nF most a S ex).2.2.2 → frY D D' → K2 D') (hF : (lb1 T n kd nF most a S ex).1 ≠ 0 → ∀ D', D' 1957 2 = (lb1 T n kd nF most a S ex).1 → D' 1957 3 = (lb1 T n kd nF most a S ex).2.1 → frN D D' → K D' 0) : WP sc 85 0 D [(0, (1206, 1958)), (1, (1204, F))] [] (fun D4 r5 => if r5 = 0 then (K D4 0) else (WP sc 86 0 D4 [(0, (1206, 1958)), (1, (1204, F))] [] (fun D7 r8 => if r8 = 0 then (K D7 0) else (WP sc 87 0 D7 [(0, (1206, 1958)), (1, (0, most))] [] (fun D10 r11 => if r11 = 0 then (K D10 0) else K2 D10) E)) E)) E := by
  obtain ⟨hc, hS, hex⟩ := h
  have c := hc.2
  have rb := ru_b (s := 5) (T := T) (n := n) (a := a) (by omega)
  have ri := ru_in (s := 5) (T := T) (n := n) (a := a) (by omega)
  have eb : ru 5 T n a = lbE T n a := rfl
  rw [eb] at rb ri
  refine t_lname (ex := ex) hc hF1 hF2 hF3 (exC_n hex) (fun e0 x D1 hx h1 => ?_) (fun e0 D1 g1 g2 g3 => ?_)
  · rw [if_neg (by omega)]
    obtain ⟨n1, n2, n3⟩ := lbN_0 e0
    have bn := pb_lt n3 (by omega)
    have hM := lbM_or (T := T) (n := n) (kd := kd) (a := a) (nF := nF) (ex := ex)
    refine t_lval (m := lbM T n kd nF a ex) (kd := kd) h1.1 (by rw [nmP_frY h1 _ _ (by omega)]; exact hF2) ⟨by omega, hF3.2⟩ ?_ (fun e1 D2 h2 => ?_) (fun e1 D2 g1 g2 g3 => ?_)
    · rw [h1.2.1.2.2]
      rcases hM with ⟨m1, m2⟩ | ⟨m1, m2⟩
      · refine Or.inl ⟨m1, ?_, m2.2⟩
        rcases hx with ⟨x1, _⟩ | ⟨_, x2⟩
        · exact x1
        · exact absurd m2.1 x2
      · refine Or.inr ⟨m1, fun w => ?_⟩
        rcases hx with ⟨x1, x2⟩ | ⟨x1, x2⟩
        · exact m2 ⟨x2, w.2⟩
        · omega
    · rw [if_neg (by omega)]
      obtain ⟨v1, v2, v3⟩ := lbV_0 e1
      have en : lb1 T n kd nF most a S ex = cif (lbZ T n kd nF a ex) (0, (es T n (lbE T n a + 2)).1 + 1, S, some (lbE T n a + 2, (es T n (lbE T n a + 2)).2.1)) (cif (lbO T n most a S ex) (0, (es T n (lbE T n a + 2)).1 + 1, S ++ [lbx T n a], ex) (8, a, S, ex)) := by
        unfold lb1
        rw [if_neg (fun w => w e0), if_neg (fun w => w e1)]
      have f12 : frY D D2 := frY_tr (nmP_frY h1) (vlP_frY h2)
      have tx := (es_bnd (T := T) (n := n) (a := lbE T n a + 2) ⟨by omega, by omega⟩).2.2.2
      refine t_keep (kd := kd) (nF := nF) (S := S) (ex := ex) (x := x) h2.1 ⟨c.2.1.1, by omega⟩ ri (by rw [h2.2.2 _ _ (by omega) (by omega) (by omega) (by omega)]; exact h1.2.1.1) (by rw [h2.2.2 _ _ (by omega) (by omega) (by omega) (by omega)]; exact h1.2.1.2.1) h2.2.1.1 (by rw [h2.2.2 _ _ (by omega) (by omega) (by omega) (by omega)]; exact h1.2.1.2.2) hx n2 h2.2.1.2.1 ⟨h2.2.1.2.2, fun x0 => ?_⟩ tx (lsIs_fr2 hS (fun y j u => by rw [h2.2.2 _ _ (by omega) (by omega) (by omega) (by omega), h1.2.2 _ _ (by omega) (by omega)])) hm hs3 (exC_fr hex (by rw [h2.2.2 _ _ (by omega) (by omega) (by omega) (by omega), h1.2.2 _ _ (by omega) (by omega)]) (fun y j u => by rw [h2.2.2 _ _ (by omega) (by omega) (by omega) (by omega), h1.2.2 _ _ (by omega) (by omega)])) (fun z D3 k1 k2 k3 k4 => ?_) (fun z o D3 k1 k2 k3 k4 => ?_) (fun z o D3 k1 k2 k4 => ?_)
      · rcases hM with ⟨m1, m2⟩ | ⟨m1, m2⟩
        · rcases hx with ⟨x1, _⟩ | ⟨_, x2⟩
          · omega
          · exact absurd m2.1 x2
        · omega
      · rw [if_neg (by omega)]
        rw [en, cif_pos z] at hT
        exact hT rfl D3 ⟨k1, k2, k3⟩ (frY_tr f12 k4)
      · rw [if_neg (by omega)]
        rw [en, cif_neg z, cif_pos o] at hT
        exact hT rfl D3 ⟨k1, k2, k3⟩ (frY_tr f12 k4)
      · rw [if_pos rfl]
        rw [en, cif_neg z, cif_neg o] at hF
        exact hF (show (8 : Int) ≠ 0 from by decide) D3 k1 k2 (frN_tr f12 k4)
    · rw [if_pos rfl]
      have en : lb1 T n kd nF most a S ex = ((lbV T n (lbE T n a + 2) (lbM T n kd nF a ex)).1, (lbV T n (lbE T n a + 2) (lbM T n kd nF a ex)).2, S, ex) := by
        unfold lb1
        rw [if_neg (fun w => w e0), if_pos e1]
      rw [en] at hF
      exact hF e1 D2 g1 g2 (frN_tr (nmP_frY h1) g3)
  · rw [if_pos rfl]
    have en : lb1 T n kd nF most a S ex = ((lbN T n a).1, (lbN T n a).2, S, ex) := by
      unfold lb1
      rw [if_pos e0]
    rw [en] at hF
    exact hF e0 D1 g1 g2 g3
theorem t_labN {a most : Int} {nF : List Int} {S : List (List Int)} {ex : Option (Int × List Int)} {K2 : tD → Prop} (h : lrC D T n a S ex) (hm : 0 ≤ most ∧ most ≤ 3) (hs3 : (S.length : Int) ≤ most) (hT : (lb1 T n 0 nF most a S ex).1 = 0 → ∀ D', lrC D' T n (lb1 T n 0 nF most a S ex).2.1 (lb1 T n 0 nF most a S ex).2.2.1 (lb1 T n 0 nF most a S ex).2.2.2 → frY D D' → K2 D') (hF : (lb1 T n 0 nF most a S ex).1 ≠ 0 → ∀ D', D' 1957 2 = (lb1 T n 0 nF most a S ex).1 → D' 1957 3 = (lb1 T n 0 nF most a S ex).2.1 → frN D D' → K D' 0) : WP sc 85 0 D [(0, (1206, 1958)), (1, (2, 0))] [] (fun D4 r5 => if r5 = 0 then (K D4 0) else (WP sc 86 0 D4 [(0, (1206, 1958)), (1, (2, 0))] [] (fun D7 r8 => if r8 = 0 then (K D7 0) else (WP sc 87 0 D7 [(0, (1206, 1958)), (1, (0, most))] [] (fun D10 r11 => if r11 = 0 then (K D10 0) else K2 D10) E)) E)) E := by
  obtain ⟨hc, hS, hex⟩ := h
  have c := hc.2
  have rb := ru_b (s := 5) (T := T) (n := n) (a := a) (by omega)
  have ri := ru_in (s := 5) (T := T) (n := n) (a := a) (by omega)
  have eb : ru 5 T n a = lbE T n a := rfl
  rw [eb] at rb ri
  refine t_lnameN (ex := ex) (nF := nF) hc (fun e0 x D1 hx h1 => ?_) (fun e0 D1 g1 g2 g3 => ?_)
  · rw [if_neg (by omega)]
    obtain ⟨n1, n2, n3⟩ := lbN_0 e0
    have bn := pb_lt n3 (by omega)
    have hM := lbM_or (T := T) (n := n) (kd := 0) (a := a) (nF := nF) (ex := ex)
    refine t_lvalN (m := lbM T n 0 nF a ex) h1.1 ?_ ?_ (fun e1 D2 h2 => ?_) (fun e1 D2 g1 g2 g3 => ?_)
    · rcases hM with ⟨m1, m2⟩ | ⟨m1, m2⟩
      · exact absurd m2.2 (by decide)
      · exact m1
    · rw [h1.2.1.2.2]
      rcases hx with ⟨x1, x2⟩ | ⟨x1, x2⟩
      · rcases x2.2 with q | q <;> exact absurd q.1 (by decide)
      · exact x1
    · rw [if_neg (by omega)]
      obtain ⟨v1, v2, v3⟩ := lbV_0 e1
      have en : lb1 T n 0 nF most a S ex = cif (lbZ T n 0 nF a ex) (0, (es T n (lbE T n a + 2)).1 + 1, S, some (lbE T n a + 2, (es T n (lbE T n a + 2)).2.1)) (cif (lbO T n most a S ex) (0, (es T n (lbE T n a + 2)).1 + 1, S ++ [lbx T n a], ex) (8, a, S, ex)) := by
        unfold lb1
        rw [if_neg (fun w => w e0), if_neg (fun w => w e1)]
      have f12 : frY D D2 := frY_tr (nmP_frY h1) (vlP_frY h2)
      have tx := (es_bnd (T := T) (n := n) (a := lbE T n a + 2) ⟨by omega, by omega⟩).2.2.2
      refine t_keep (kd := 0) (nF := nF) (S := S) (ex := ex) (x := x) h2.1 ⟨c.2.1.1, by omega⟩ ri (by rw [h2.2.2 _ _ (by omega) (by omega) (by omega) (by omega)]; exact h1.2.1.1) (by rw [h2.2.2 _ _ (by omega) (by omega) (by omega) (by omega)]; exact h1.2.1.2.1) h2.2.1.1 (by rw [h2.2.2 _ _ (by omega) (by omega) (by omega) (by omega)]; exact h1.2.1.2.2) hx n2 h2.2.1.2.1 ⟨h2.2.1.2.2, fun x0 => ?_⟩ tx (lsIs_fr2 hS (fun y j u => by rw [h2.2.2 _ _ (by omega) (by omega) (by omega) (by omega), h1.2.2 _ _ (by omega) (by omega)])) hm hs3 (exC_fr hex (by rw [h2.2.2 _ _ (by omega) (by omega) (by omega) (by omega), h1.2.2 _ _ (by omega) (by omega)]) (fun y j u => by rw [h2.2.2 _ _ (by omega) (by omega) (by omega) (by omega), h1.2.2 _ _ (by omega) (by omega)])) (fun z D3 k1 k2 k3 k4 => ?_) (fun z o D3 k1 k2 k3 k4 => ?_) (fun z o D3 k1 k2 k4 => ?_)
      · rcases hM with ⟨m1, m2⟩ | ⟨m1, m2⟩
        · rcases hx with ⟨x1, _⟩ | ⟨_, x2⟩
          · omega
          · exact absurd m2.1 x2
        · omega
      · rw [if_neg (by omega)]
        rw [en, cif_pos z] at hT
        exact hT rfl D3 ⟨k1, k2, k3⟩ (frY_tr f12 k4)
      · rw [if_neg (by omega)]
        rw [en, cif_neg z, cif_pos o] at hT
        exact hT rfl D3 ⟨k1, k2, k3⟩ (frY_tr f12 k4)
      · rw [if_pos rfl]
        rw [en, cif_neg z, cif_neg o] at hF
        exact hF (show (8 : Int) ≠ 0 from by decide) D3 k1 k2 (frN_tr f12 k4)
    · rw [if_pos rfl]
      have en : lb1 T n 0 nF most a S ex = ((lbV T n (lbE T n a + 2) (lbM T n 0 nF a ex)).1, (lbV T n (lbE T n a + 2) (lbM T n 0 nF a ex)).2, S, ex) := by
        unfold lb1
        rw [if_neg (fun w => w e0), if_pos e1]
      rw [en] at hF
      exact hF e1 D2 g1 g2 (frN_tr (nmP_frY h1) g3)
  · rw [if_pos rfl]
    have en : lb1 T n 0 nF most a S ex = ((lbN T n a).1, (lbN T n a).2, S, ex) := by
      unfold lb1
      rw [if_pos e0]
    rw [en] at hF
    exact hF e0 D1 g1 g2 g3
/-- how many labels were read -/
def lcn (S : List (List Int)) (ex : Option (Int × List Int)) : Int := (S.length : Int) + (if ex = none then 0 else 1)
theorem srtL_snoc {x : List Int} : ∀ {S : List (List Int)}, srtL S → (∀ y ∈ S, ncmp y x < 0) → srtL (S ++ [x]) := by
  intro S
  induction S with
  | nil => intro _ _; exact ⟨fun y hy => absurd hy (by simp), trivial⟩
  | cons z r ih =>
    intro ⟨h1, h2⟩ h3
    refine ⟨fun y hy => ?_, ih h2 (fun y hy => h3 y (List.mem_cons_of_mem _ hy))⟩
    rcases List.mem_append.mp hy with e | e
    · exact h1 y e
    · rw [List.mem_singleton.mp e]; exact h3 z List.mem_cons_self
/-- what holds of the labels that were read -/
def lsO (most : Int) (S : List (List Int)) (ex : Option (Int × List Int)) : Prop := (S.length : Int) ≤ most ∧ (∀ x ∈ S, lbl x) ∧ srtL S ∧ ∀ p l, ex = some (p, l) → (l.length : Int) ≤ 20 ∧ ∀ b ∈ l, txt b
theorem lb1_ok {a kd most : Int} {nF : List Int} {S : List (List Int)} {ex : Option (Int × List Int)} (h0 : (lb1 T n kd nF most a S ex).1 = 0) (ha : 0 ≤ a ∧ a ≤ n) (hS : lsO most S ex) : (a < (lb1 T n kd nF most a S ex).2.1 ∧ (lb1 T n kd nF most a S ex).2.1 ≤ n) ∧ lcn (lb1 T n kd nF most a S ex).2.2.1 (lb1 T n kd nF most a S ex).2.2.2 = lcn S ex + 1 ∧ lsO most (lb1 T n kd nF most a S ex).2.2.1 (lb1 T n kd nF most a S ex).2.2.2 := by
  obtain ⟨s1, s2, s3, s4⟩ := hS
  have rb := ru_b (s := 5) (T := T) (n := n) (a := a) (by omega)
  have eb : ru 5 T n a = lbE T n a := rfl
  rw [eb] at rb
  by_cases e0 : (lbN T n a).1 = 0
  · obtain ⟨n1, n2, n3⟩ := lbN_0 e0
    have bn := pb_lt n3 (by omega)
    by_cases e1 : (lbV T n (lbE T n a + 2) (lbM T n kd nF a ex)).1 = 0
    · obtain ⟨v1, v2, v3⟩ := lbV_0 e1
      have en : lb1 T n kd nF most a S ex = cif (lbZ T n kd nF a ex) (0, (es T n (lbE T n a + 2)).1 + 1, S, some (lbE T n a + 2, (es T n (lbE T n a + 2)).2.1)) (cif (lbO T n most a S ex) (0, (es T n (lbE T n a + 2)).1 + 1, S ++ [lbx T n a], ex) (8, a, S, ex)) := by
        unfold lb1
        rw [if_neg (fun w => w e0), if_neg (fun w => w e1)]
      have eb2 := es_bnd (T := T) (n := n) (a := lbE T n a + 2) ⟨by omega, by omega⟩
      have vn := pb_lt v2 (by omega)
      have hM := lbM_or (T := T) (n := n) (kd := kd) (a := a) (nF := nF) (ex := ex)
      rw [en] at h0 ⊢
      by_cases z : lbZ T n kd nF a ex
      · rw [cif_pos z]
        refine ⟨⟨by show a < (es T n (lbE T n a + 2)).1 + 1; omega, by show (es T n (lbE T n a + 2)).1 + 1 ≤ n; omega⟩, ?_, s1, s2, s3, fun p l e => ?_⟩
        · show (S.length : Int) + (if some (lbE T n a + 2, (es T n (lbE T n a + 2)).2.1) = none then 0 else 1) = lcn S ex + 1
          unfold lcn
          rw [if_neg (by simp), z.1, if_pos rfl]
          omega
        · have e : (lbE T n a + 2, (es T n (lbE T n a + 2)).2.1) = (p, l) := Option.some.inj e
          have e2 : (es T n (lbE T n a + 2)).2.1 = l := congrArg Prod.snd e
          rw [← e2]
          refine ⟨?_, eb2.2.2.2⟩
          rcases hM with ⟨m1, _⟩ | ⟨m1, _⟩ <;> omega
      · rw [cif_neg z] at h0 ⊢
        by_cases o : lbO T n most a S ex
        · rw [cif_pos o]
          obtain ⟨o1, o2, o3, o4⟩ := o
          have m12 : ((es T n (lbE T n a + 2)).2.1.length : Int) ≤ 12 := by
            rcases hM with ⟨m1, m2⟩ | ⟨m1, m2⟩
            · exact absurd m2.1 z
            · omega
          refine ⟨⟨by show a < (es T n (lbE T n a + 2)).1 + 1; omega, by show (es T n (lbE T n a + 2)).1 + 1 ≤ n; omega⟩, ?_, ?_, fun x hx => ?_, srtL_snoc s3 o4, s4⟩
          · show lcn (S ++ [lbx T n a]) ex = lcn S ex + 1
            unfold lcn
            rw [List.length_append, List.length_singleton]
            omega
          · show ((S ++ [lbx T n a]).length : Int) ≤ most
            rw [List.length_append, List.length_singleton]
            omega
          · rcases List.mem_append.mp hx with e | e
            · exact s2 x e
            · rw [List.mem_singleton.mp e]
              exact ⟨_, _, rfl, lnT_nmL o3, by omega, eb2.2.2.2⟩
        · rw [cif_neg o] at h0
          exact absurd (show (8 : Int) = 0 from h0) (by decide)
    · unfold lb1 at h0
      rw [if_neg (fun w => w e0), if_pos e1] at h0
      exact absurd h0 e1
  · unfold lb1 at h0
    rw [if_pos e0] at h0
    exact absurd h0 e0
/-- all labels -/
noncomputable def lbs (T : Int → Int) (n kd : Int) (nF : List Int) (most : Int) : Nat → Int → List (List Int) → Option (Int × List Int) → Int × Int × List (List Int) × Option (Int × List Int)
  | 0, a, S, ex => (0, a, S, ex)
  | k + 1, a, S, ex =>
    if (lb1 T n kd nF most a S ex).1 ≠ 0 then lb1 T n kd nF most a S ex
    else if pb T n (lb1 T n kd nF most a S ex).2.1 = 44 then lbs T n kd nF most k ((lb1 T n kd nF most a S ex).2.1 + 1) (lb1 T n kd nF most a S ex).2.2.1 (lb1 T n kd nF most a S ex).2.2.2
    else if pb T n (lb1 T n kd nF most a S ex).2.1 = 125 then (0, (lb1 T n kd nF most a S ex).2.1 + 1, (lb1 T n kd nF most a S ex).2.2.1, (lb1 T n kd nF most a S ex).2.2.2)
    else (1, (lb1 T n kd nF most a S ex).2.1, (lb1 T n kd nF most a S ex).2.2.1, (lb1 T n kd nF most a S ex).2.2.2)
theorem lcn_le {most : Int} {S : List (List Int)} {ex : Option (Int × List Int)} (h : lsO most S ex) : 0 ≤ lcn S ex ∧ lcn S ex ≤ most + 1 := by
  have := h.1
  unfold lcn
  split <;> omega
theorem lbs_ok {kd most : Int} {nF : List Int} : ∀ (k : Nat) (a : Int) (S : List (List Int)) (ex : Option (Int × List Int)), (lbs T n kd nF most k a S ex).1 = 0 → 0 ≤ a ∧ a ≤ n → lsO most S ex → (a ≤ (lbs T n kd nF most k a S ex).2.1 ∧ (lbs T n kd nF most k a S ex).2.1 ≤ n) ∧ lsO most (lbs T n kd nF most k a S ex).2.2.1 (lbs T n kd nF most k a S ex).2.2.2 := by
  intro k
  induction k with
  | zero => intro a S ex _ ha hS; exact ⟨⟨Int.le_refl _, ha.2⟩, hS⟩
  | succ k ih =>
    intro a S ex h0 ha hS
    unfold lbs at h0 ⊢
    by_cases e0 : (lb1 T n kd nF most a S ex).1 = 0
    · rw [if_neg (fun w => w e0)] at h0 ⊢
      obtain ⟨l1, l2, l3⟩ := lb1_ok e0 ha hS
      by_cases e1 : pb T n (lb1 T n kd nF most a S ex).2.1 = 44
      · rw [if_pos e1] at h0 ⊢
        have := pb_lt e1 (by omega)
        obtain ⟨i1, i2⟩ := ih _ _ _ h0 ⟨by omega, by omega⟩ l3
        exact ⟨⟨by omega, i1.2⟩, i2⟩
      · rw [if_neg e1] at h0 ⊢
        by_cases e2 : pb T n (lb1 T n kd nF most a S ex).2.1 = 125
        · rw [if_pos e2] at h0 ⊢
          have := pb_lt e2 (by omega)
          exact ⟨⟨by show a ≤ (lb1 T n kd nF most a S ex).2.1 + 1; omega, by show (lb1 T n kd nF most a S ex).2.1 + 1 ≤ n; omega⟩, l3⟩
        · rw [if_neg e2] at h0
          exact absurd (show (1 : Int) = 0 from h0) (by decide)
    · rw [if_pos e0] at h0
      exact absurd h0 e0
theorem t_labs1 {F kd most : Int} {nF : List Int} {D0 : tD} (hF1 : nmC D0 F nF) (hF2 : D0 F 5 = kd) (hF3 : F + 2 < 1957 ∧ 0 ≤ F) (hm : 0 ≤ most ∧ most ≤ 3) : ∀ (k : Nat) (a : Int) (S : List (List Int)) (ex : Option (Int × List Int)) (D : tD), lrC D T n a S ex → lsO most S ex → frY D0 D → lcn S ex + (k : Int) = most + 2 → ((lbs T n kd nF most k a S ex).1 = 0 → ∀ D', lrC D' T n (lbs T n kd nF most k a S ex).2.1 (lbs T n kd nF most k a S ex).2.2.1 (lbs T n kd nF most k a S ex).2.2.2 → frY D0 D' → K D' 1) → ((lbs T n kd nF most k a S ex).1 ≠ 0 → ∀ D', D' 1957 2 = (lbs T n kd nF most k a S ex).1 → D' 1957 3 = (lbs T n kd nF most k a S ex).2.1 → frN D0 D' → K D' 0) → WP sc 84 2 D [(0, (1206, 1958)), (1, (1204, F)), (2, (0, most)), (3, (0, lcn S ex))] [] K E := by
  intro k
  induction k with
  | zero => intro a S ex D h hS hf hk; exact absurd (lcn_le hS).2 (by omega)
  | succ k ih =>
    intro a S ex D h hS hf hk hT hF
    have c := h.1.2
    refine v84_2 ?_
    have lc := lcn_le hS
    rw [w32_id (x := most + 1) (by omega) (by omega), if_neg (by omega), w32_id (x := lcn S ex + 1) (by omega) (by omega)]
    unfold lbs at hT hF
    refine t_lab (kd := kd) (nF := nF) (S := S) (ex := ex) (a := a) h ?_ (by rw [hf _ _ (by omega)]; exact hF2) hF3 hm hS.1 (fun e0 D1 h1 f1 => ?_) (fun e0 D1 g1 g2 g3 => ?_)
    · obtain ⟨f1, f2, f3, f4, f5⟩ := hF1
      exact ⟨by rw [hf _ _ (by omega)]; exact f1, atL_fr (fun j _ _ => hf _ _ (by omega)) f2, f3, f4, f5⟩
    · rw [if_neg (fun w => w e0)] at hT hF
      obtain ⟨l1, l2, l3⟩ := lb1_ok e0 c.2.1 hS
      refine t_passes (by omega) h1.1 (fun e1 => ?_) (fun e1 => ?_)
      · rw [if_neg (by omega)]
        rw [if_pos e1] at hT hF
        have := pb_lt e1 (by omega)
        rw [← l2]
        exact ih _ _ _ _ ⟨cu_wr h1.1 ⟨by omega, by omega⟩, lsIs_fr2 h1.2.1 (fun y j u => wr_ne (by omega)), exC_fr h1.2.2 (wr_ne (by omega)) (fun y j u => wr_ne (by omega))⟩ l3 (frY_tr hf (frY_tr f1 (frY_wr (by omega)))) (by omega) hT hF
      · rw [if_pos rfl]
        rw [if_neg e1] at hT hF
        refine t_expect h1.1 (fun e2 => ?_) (fun e2 => ?_)
        · rw [if_pos e2] at hT
          have := pb_lt e2 (by omega)
          exact tbl_of (Or.inr rfl) (hT rfl _ ⟨cu_wr h1.1 ⟨by omega, by omega⟩, lsIs_fr2 h1.2.1 (fun y j u => wr_ne (by omega)), exC_fr h1.2.2 (wr_ne (by omega)) (fun y j u => wr_ne (by omega))⟩ (frY_tr hf (frY_tr f1 (frY_wr (by omega)))))
        · rw [if_neg e2] at hF
          exact tbl_of (Or.inl rfl) (hF (show (1 : Int) ≠ 0 from by decide) _ (by rw [wr_ni (by omega), wr_self]) wr_self (frN_tr hf (frN_tr f1 frN_fl)))
    · rw [if_pos e0] at hF
      exact hF e0 D1 g1 g2 (frN_tr hf g3)
theorem lsO_nil {most : Int} (h : 0 ≤ most) : lsO most [] none := ⟨by simp; omega, fun x hx => absurd hx (by simp), trivial, fun p l e => absurd e (by simp)⟩
theorem t_labs {F kd most a : Int} {nF : List Int} (hF1 : nmC D F nF) (hF2 : D F 5 = kd) (hF3 : F + 2 < 1957 ∧ 0 ≤ F) (hm : 0 ≤ most ∧ most ≤ 3) (h : lrC D T n a [] none) (hT : (lbs T n kd nF most (most + 2).toNat a [] none).1 = 0 → ∀ D', lrC D' T n (lbs T n kd nF most (most + 2).toNat a [] none).2.1 (lbs T n kd nF most (most + 2).toNat a [] none).2.2.1 (lbs T n kd nF most (most + 2).toNat a [] none).2.2.2 → frY D D' → K D' 1) (hF : (lbs T n kd nF most (most + 2).toNat a [] none).1 ≠ 0 → ∀ D', D' 1957 2 = (lbs T n kd nF most (most + 2).toNat a [] none).1 → D' 1957 3 = (lbs T n kd nF most (most + 2).toNat a [] none).2.1 → frN D D' → K D' 0) : WP sc 84 0 D [(0, (1206, 1958)), (1, (1204, F)), (2, (0, most))] [] K E := by
  refine v84_0 ?_
  have e : lcn [] none = 0 := rfl
  have g := t_labs1 (sc := sc) (K := K) (E := E) hF1 hF2 hF3 hm (most + 2).toNat a [] none D h (lsO_nil hm.1) frY_rf (by rw [e]; omega) hT hF
  rw [e] at g
  exact g
theorem t_labsN1 {most : Int} {nF : List Int} {D0 : tD} (hm : 0 ≤ most ∧ most ≤ 3) : ∀ (k : Nat) (a : Int) (S : List (List Int)) (ex : Option (Int × List Int)) (D : tD), lrC D T n a S ex → lsO most S ex → frY D0 D → lcn S ex + (k : Int) = most + 2 → ((lbs T n 0 nF most k a S ex).1 = 0 → ∀ D', lrC D' T n (lbs T n 0 nF most k a S ex).2.1 (lbs T n 0 nF most k a S ex).2.2.1 (lbs T n 0 nF most k a S ex).2.2.2 → frY D0 D' → K D' 1) → ((lbs T n 0 nF most k a S ex).1 ≠ 0 → ∀ D', D' 1957 2 = (lbs T n 0 nF most k a S ex).1 → D' 1957 3 = (lbs T n 0 nF most k a S ex).2.1 → frN D0 D' → K D' 0) → WP sc 84 2 D [(0, (1206, 1958)), (1, (2, 0)), (2, (0, most)), (3, (0, lcn S ex))] [] K E := by
  intro k
  induction k with
  | zero => intro a S ex D h hS hf hk; exact absurd (lcn_le hS).2 (by omega)
  | succ k ih =>
    intro a S ex D h hS hf hk hT hF
    have c := h.1.2
    refine v84n_2 ?_
    have lc := lcn_le hS
    rw [w32_id (x := most + 1) (by omega) (by omega), if_neg (by omega), w32_id (x := lcn S ex + 1) (by omega) (by omega)]
    unfold lbs at hT hF
    refine t_labN (nF := nF) (S := S) (ex := ex) (a := a) h hm hS.1 (fun e0 D1 h1 f1 => ?_) (fun e0 D1 g1 g2 g3 => ?_)
    · rw [if_neg (fun w => w e0)] at hT hF
      obtain ⟨l1, l2, l3⟩ := lb1_ok e0 c.2.1 hS
      refine t_passes (by omega) h1.1 (fun e1 => ?_) (fun e1 => ?_)
      · rw [if_neg (by omega)]
        rw [if_pos e1] at hT hF
        have := pb_lt e1 (by omega)
        rw [← l2]
        exact ih _ _ _ _ ⟨cu_wr h1.1 ⟨by omega, by omega⟩, lsIs_fr2 h1.2.1 (fun y j u => wr_ne (by omega)), exC_fr h1.2.2 (wr_ne (by omega)) (fun y j u => wr_ne (by omega))⟩ l3 (frY_tr hf (frY_tr f1 (frY_wr (by omega)))) (by omega) hT hF
      · rw [if_pos rfl]
        rw [if_neg e1] at hT hF
        refine t_expect h1.1 (fun e2 => ?_) (fun e2 => ?_)
        · rw [if_pos e2] at hT
          have := pb_lt e2 (by omega)
          exact tbl_of (Or.inr rfl) (hT rfl _ ⟨cu_wr h1.1 ⟨by omega, by omega⟩, lsIs_fr2 h1.2.1 (fun y j u => wr_ne (by omega)), exC_fr h1.2.2 (wr_ne (by omega)) (fun y j u => wr_ne (by omega))⟩ (frY_tr hf (frY_tr f1 (frY_wr (by omega)))))
        · rw [if_neg e2] at hF
          exact tbl_of (Or.inl rfl) (hF (show (1 : Int) ≠ 0 from by decide) _ (by rw [wr_ni (by omega), wr_self]) wr_self (frN_tr hf (frN_tr f1 frN_fl)))
    · rw [if_pos e0] at hF
      exact hF e0 D1 g1 g2 (frN_tr hf g3)
theorem t_labsN {most a : Int} {nF : List Int} (hm : 0 ≤ most ∧ most ≤ 3) (h : lrC D T n a [] none) (hT : (lbs T n 0 nF most (most + 2).toNat a [] none).1 = 0 → ∀ D', lrC D' T n (lbs T n 0 nF most (most + 2).toNat a [] none).2.1 (lbs T n 0 nF most (most + 2).toNat a [] none).2.2.1 (lbs T n 0 nF most (most + 2).toNat a [] none).2.2.2 → frY D D' → K D' 1) (hF : (lbs T n 0 nF most (most + 2).toNat a [] none).1 ≠ 0 → ∀ D', D' 1957 2 = (lbs T n 0 nF most (most + 2).toNat a [] none).1 → D' 1957 3 = (lbs T n 0 nF most (most + 2).toNat a [] none).2.1 → frN D D' → K D' 0) : WP sc 84 0 D [(0, (1206, 1958)), (1, (2, 0)), (2, (0, most))] [] K E := by
  refine v84n_0 ?_
  have e : lcn [] none = 0 := rfl
  have g := t_labsN1 (sc := sc) (K := K) (E := E) (nF := nF) hm (most + 2).toNat a [] none D h (lsO_nil hm.1) frY_rf (by rw [e]; omega) hT hF
  rw [e] at g
  exact g
end LBK
