/-! reading labels: the other side, one label and all -/
section LBQ
variable {sc : Nat × (Nat → Int32)} {D D' : tD} {K : tD → Int → Prop} {E : tD → Nat → Prop} {T : Int → Int} {n : Int}
theorem u_l316 {a b : Int} {P : List Int} {D0 : tD} (hab : 0 ≤ a ∧ a ≤ b ∧ b ≤ n ∧ n ≤ 4000) (ht : ∀ j, 0 ≤ j → j < n → D0 1978 j = T j) (hl : (P.length : Int) + (b - a) ≤ 131) (hK : ∀ D', setIs D' (P ++ spn T a (b - a).toNat ++ [1]) → frS D0 D' → WP sc 265 347 D' [(0, (1211, 1977)), (2, (0, a)), (3, (0, b)), (10, (0, 0))] [] K E) : ∀ (m : Nat) (k : Int) (D : tD), b - k = (m : Int) → a ≤ k → setIs D (P ++ spn T a (k - a).toNat) → frS D0 D → WP sc 265 316 D [(0, (1211, 1977)), (2, (0, a)), (3, (0, b)), (10, (0, k))] [] K E := by
  intro m
  induction m with
  | zero =>
    intro k D hm hk hs hf
    refine v265_316 ?_
    rw [if_neg (by omega)]
    have ek : k = b := by omega
    rw [ek] at hs
    refine m_lay hs (by rw [List.length_append, spn_len]; omega) (fun D1 s1 f1 => ?_)
    exact hK D1 s1 (fun x j u v => by rw [f1 x j u v, hf x j u v])
  | succ m ih =>
    intro k D hm hk hs hf
    refine v265_316 ?_
    rw [if_pos (by omega), w32_id (x := k + 1) (by omega) (by omega)]
    refine ⟨by omega, m_lay hs (by rw [List.length_append, spn_len]; omega) (fun D1 s1 f1 => ?_)⟩
    refine ih (k + 1) D1 (by omega) (by omega) ?_ (fun x j u v => by rw [f1 x j u v, hf x j u v])
    rw [show (k + 1 - a).toNat = (k - a).toNat + 1 from by omega, spn_snoc, show a + (((k - a).toNat : Nat) : Int) = k from by omega, ← List.append_assoc]
    rw [hf _ _ (by omega) (by omega), ht k (by omega) (by omega)] at s1
    exact s1
theorem u_l347 {a b : Int} {Q L : List Int} {D0 : tD} (hab : 0 ≤ a ∧ a ≤ b ∧ b ≤ 4000) (h60 : D0 1977 60 = (L.length : Int)) (hL : atL D0 2015 0 L) (hl : (Q.length : Int) + (L.length : Int) ≤ 131) (h63 : 0 ≤ D0 1977 63 ∧ D0 1977 63 ≤ 1000 ∧ 0 ≤ D0 1977 62 ∧ D0 1977 62 ≤ 1000) (hK : ∀ D', setIs D' (Q ++ L ++ [2]) → frS D0 D' → K (wr (wr D' 1977 63 (D0 1977 63 + (b - a + (L.length : Int)))) 1977 62 (D0 1977 62 + 1)) 1) : ∀ (L2 L1 : List Int) (D : tD), L = L1 ++ L2 → setIs D (Q ++ L1) → frS D0 D → WP sc 265 347 D [(0, (1211, 1977)), (2, (0, a)), (3, (0, b)), (10, (0, (L1.length : Int)))] [] K E := by
  intro L2
  induction L2 with
  | nil =>
    intro L1 D hL1 hs hf
    rw [List.append_nil] at hL1
    subst hL1
    refine v265_347 ?_
    rw [hf _ _ (by omega) (by omega), h60, if_neg (by omega)]
    refine m_lay hs (by rw [List.length_append]; omega) (fun D1 s1 f1 => ?_)
    have g1 : frS D0 D1 := fun x j u v => by rw [f1 x j u v, hf x j u v]
    rw [wr_ni (by omega), g1 _ _ (by omega) (by omega), g1 1977 60 (by omega) (by omega), g1 1977 62 (by omega) (by omega), h60, w32_id (x := b - a) (by omega) (by omega), w32_id (x := b - a + (L.length : Int)) (by omega) (by omega), w32_id (by omega) (by omega), w32_id (by omega) (by omega)]
    exact hK D1 s1 g1
  | cons v r ih =>
    intro L1 D hL1 hs hf
    refine v265_347 ?_
    have ll : L.length = L1.length + (r.length + 1) := by rw [hL1, List.length_append, List.length_cons]
    rw [hf _ _ (by omega) (by omega), h60, if_pos (by omega), w32_id (x := (L1.length : Int) + 1) (by omega) (by omega)]
    have e : D 2015 (L1.length : Int) = v := by
      rw [hf _ _ (by omega) (by omega)]
      have q := hL
      rw [hL1, atL_app] at q
      have q2 := q.2.1
      rw [show (0 : Int) + (L1.length : Int) = (L1.length : Int) from by omega] at q2
      exact q2
    rw [e]
    refine ⟨by omega, m_lay hs (by rw [List.length_append]; omega) (fun D1 s1 f1 => ?_)⟩
    have g := ih (L1 ++ [v]) D1 (by rw [hL1]; simp) (by rw [← List.append_assoc]; exact s1) (fun x j u w => by rw [f1 x j u w, hf x j u w])
    rw [List.length_append, List.length_singleton] at g
    exact g
theorem u_l282 {L : List Int} {D0 : tD} (h60 : D0 1977 60 = (L.length : Int)) (hL : atL D0 2015 0 L) (hl : L.length ≤ 20) (hK : ∀ D', atL D' 2016 0 L → (∀ x j, x ≠ 2016 → D' x j = D0 x j) → K D' 1) : ∀ (L2 L1 : List Int) (D : tD), L = L1 ++ L2 → atL D 2016 0 L1 → (∀ x j, x ≠ 2016 → D x j = D0 x j) → WP sc 265 282 D [(0, (1211, 1977)), (10, (0, (L1.length : Int)))] [] K E := by
  intro L2
  induction L2 with
  | nil =>
    intro L1 D hL1 hs hf
    rw [List.append_nil] at hL1
    subst hL1
    refine v265_282 ?_
    rw [hf _ _ (by omega), h60, if_neg (by omega)]
    exact hK D hs hf
  | cons v r ih =>
    intro L1 D hL1 hs hf
    refine v265_282 ?_
    have ll : L.length = L1.length + (r.length + 1) := by rw [hL1, List.length_append, List.length_cons]
    rw [hf _ _ (by omega), h60, if_pos (by omega), w32_id (x := (L1.length : Int) + 1) (by omega) (by omega)]
    have e : D 2015 (L1.length : Int) = v := by
      rw [hf _ _ (by omega)]
      have q := hL
      rw [hL1, atL_app] at q
      have q2 := q.2.1
      rw [show (0 : Int) + (L1.length : Int) = (L1.length : Int) from by omega] at q2
      exact q2
    rw [e]
    refine ⟨by omega, by omega, ?_⟩
    have g := ih (L1 ++ [v]) (wr D 2016 (L1.length : Int) v) (by rw [hL1]; simp) ?_ (fun x j u => by rw [wr_ne u]; exact hf x j u)
    · rw [List.length_append, List.length_singleton] at g
      exact g
    · rw [atL_app]
      refine ⟨atL_fr (fun j u w => wr_ni (by omega)) hs, ?_, trivial⟩
      rw [show (0 : Int) + (L1.length : Int) = (L1.length : Int) from by omega, wr_self]
theorem lrM_to {a b : Int} {S : List (List Int)} {ex : Option (Int × List Int)} (h : lrM D T n a S ex) (hb : 0 ≤ b ∧ b ≤ n) (h1 : D' 1977 47 = b) (hf : ∀ x j, x ≠ 2015 → (x = 1977 → j ≠ 47 ∧ j ≠ 60) → D' x j = D x j) : lrM D' T n b S ex := by
  obtain ⟨c1, ⟨c2, c3, c4⟩, c5⟩ := h
  refine ⟨mu_to c1 hb h1 (hf _ _ (by omega) (by omega)) (hf _ _ (by omega) (by omega)) (fun j => hf _ _ (by omega) (by omega)), ⟨⟨by rw [hf _ _ (by omega) (by omega)]; exact c2.1, atL_fr (fun j _ _ => hf _ _ (by omega) (by omega)) c2.2⟩, by rw [hf _ _ (by omega) (by omega)]; exact c3, by rw [hf _ _ (by omega) (by omega)]; exact c4⟩, exM_fr c5 (fun j u => hf _ _ (by omega) (by omega)) (fun j => hf _ _ (by omega) (by omega))⟩
theorem lrM_wr {a b : Int} {S : List (List Int)} {ex : Option (Int × List Int)} (h : lrM D T n a S ex) (hb : 0 ≤ b ∧ b ≤ n) : lrM (wr D 1977 47 b) T n b S ex := lrM_to h hb wr_self (fun x j u v => by
  by_cases e : x = 1977
  · subst e; exact wr_ni (by have := v rfl; omega)
  · exact wr_ne e)
/-- equals, quote, value, quote -/
theorem u_lpre {a : Int} {S : List (List Int)} {ex : Option (Int × List Int)} {Q : tD → tD → tD → Prop} (h : lrM D T n (lbE T n a) S ex) (ha : 0 ≤ a ∧ a < lbE T n a) (hQ : (lbN T n a).1 = 0 → (es T n (lbE T n a + 2)).2.2 = true → pb T n (es T n (lbE T n a + 2)).1 = 34 → ∀ D4 D7 D', D4 1977 47 = lbE T n a + 2 → D7 1977 47 = (es T n (lbE T n a + 2)).1 → lrM D' T n ((es T n (lbE T n a + 2)).1 + 1) S ex → D' 1977 60 = ((es T n (lbE T n a + 2)).2.1.length : Int) → atL D' 2015 0 (es T n (lbE T n a + 2)).2.1 → frX D D' → Q D4 D7 D') (hF : ∀ c p, ((lbN T n a).1 ≠ 0 ∧ c = (lbN T n a).1 ∧ p = (lbN T n a).2) ∨ ((lbN T n a).1 = 0 ∧ ¬ ((es T n (lbE T n a + 2)).2.2 = true ∧ pb T n (es T n (lbE T n a + 2)).1 = 34) ∧ c = 1 ∧ p = (es T n (lbE T n a + 2)).1) → ∀ D', D' 1977 45 = c → D' 1977 46 = p → frXf D D' → K D' 0) : WP sc 253 0 D [(0, (1211, 1977)), (1, (0, 61))] [] (fun D1 r2 => if r2 = 0 then (K D1 0) else (WP sc 253 0 D1 [(0, (1211, 1977)), (1, (0, 34))] [] (fun D4 r5 => if r5 = 0 then (K D4 0) else (WP sc 256 0 D4 [(0, (1211, 1977))] [] (fun D7 r8 => if r8 = 0 then (K D7 0) else (WP sc 253 0 D7 [(0, (1211, 1977)), (1, (0, 34))] [] (fun D10 r11 => if r11 = 0 then (K D10 0) else Q D4 D7 D10) E)) E)) E)) E := by
  have c := h.1.2
  have ne : lbE T n a ≠ a := by omega
  refine u_expects h.1 (fun e1 => ?_) (fun e1 => ?_)
  · rw [if_neg (by omega)]
    have b1 := pb_lt e1 (by omega)
    have h1 := lrM_wr h (b := lbE T n a + 1) ⟨by omega, by omega⟩
    refine u_expects h1.1 (fun e2 => ?_) (fun e2 => ?_)
    · rw [if_neg (by omega), wr_wr]
      have b2 := pb_lt e2 (by omega)
      have en : lbN T n a = (0, lbE T n a + 2) := by unfold lbN; rw [if_neg ne, if_neg (fun w => w e1), if_neg (fun w => w e2)]
      have h2 := lrM_wr h (b := lbE T n a + 1 + 1) ⟨by omega, by omega⟩
      rw [show lbE T n a + 1 + 1 = lbE T n a + 2 from by omega] at h2 ⊢
      have eb := es_bnd (T := T) (n := n) (a := lbE T n a + 2) ⟨by omega, by omega⟩
      refine u_esc h2.1 (fun t1 D7 q1 q2 q3 q4 => ?_) (fun t1 D7 q1 q2 q3 => ?_)
      · rw [if_neg (by omega)]
        have h7 := lrM_to h2 (b := (es T n (lbE T n a + 2)).1) ⟨by omega, by omega⟩ q1 q4
        have f7 : frX D D7 := frX_tr (frX_wr (by omega)) (fun x j u1 u2 u3 u4 => q4 x j u2 (fun w => by have := u4 w; omega))
        refine u_expects h7.1 (fun e3 => ?_) (fun e3 => ?_)
        · rw [if_neg (by omega)]
          have b3 := pb_lt e3 (by omega)
          refine hQ (by rw [en]) t1 e3 _ D7 _ wr_self q1 (lrM_wr h7 ⟨by omega, by omega⟩) (by rw [wr_ni (by omega)]; exact q2) (atL_fr (fun j _ _ => wr_ne (by omega)) q3) (frX_tr f7 (frX_wr (by omega)))
        · rw [if_pos rfl]
          exact hF 1 _ (Or.inr ⟨by rw [en], fun w => e3 w.2, rfl, rfl⟩) _ fl_45 fl_46 (frXf_tr f7 frXf_fl)
      · rw [if_pos rfl]
        refine hF 1 _ (Or.inr ⟨by rw [en], fun w => by rw [t1] at w; exact absurd w.1 (by decide), rfl, rfl⟩) D7 q1 q2 (frXf_tr (frX_wr (by omega)) (fun x j u1 u2 u3 u4 => q3 x j u2 (fun w => by have := u4 w; omega)))
    · rw [if_pos rfl]
      have en : lbN T n a = (1, lbE T n a + 1) := by unfold lbN; rw [if_neg ne, if_neg (fun w => w e1), if_pos e2]
      exact hF 1 (lbE T n a + 1) (Or.inl ⟨by rw [en]; show (1 : Int) ≠ 0; decide, by rw [en], by rw [en]⟩) _ fl_45 fl_46 (frXf_tr (frX_wr (by omega)) frXf_fl)
  · rw [if_pos rfl]
    have en : lbN T n a = (1, lbE T n a) := by unfold lbN; rw [if_neg ne, if_pos e1]
    exact hF 1 (lbE T n a) (Or.inl ⟨by rw [en]; show (1 : Int) ≠ 0; decide, by rw [en], by rw [en]⟩) _ fl_45 fl_46 frXf_fl
/-- the faults before the value's length -/
theorem lb1_pre {a kd most c p : Int} {nF : List Int} {S : List (List Int)} {ex : Option (Int × List Int)} (h : ((lbN T n a).1 ≠ 0 ∧ c = (lbN T n a).1 ∧ p = (lbN T n a).2) ∨ ((lbN T n a).1 = 0 ∧ ¬ ((es T n (lbE T n a + 2)).2.2 = true ∧ pb T n (es T n (lbE T n a + 2)).1 = 34) ∧ c = 1 ∧ p = (es T n (lbE T n a + 2)).1)) : lb1 T n kd nF most a S ex = (c, p, S, ex) ∧ c ≠ 0 := by
  rcases h with ⟨h1, h2, h3⟩ | ⟨h1, h2, h3, h4⟩
  · unfold lb1
    rw [if_pos h1, h2, h3]
    exact ⟨rfl, h1⟩
  · have ev : lbV T n (lbE T n a + 2) (lbM T n kd nF a ex) = (1, (es T n (lbE T n a + 2)).1) := by unfold lbV; rw [if_pos h2]
    unfold lb1
    rw [if_neg (fun w => w h1), ev, if_pos (show (1 : Int) ≠ 0 from by decide), h3, h4]
    exact ⟨rfl, by decide⟩
theorem u_l119 {a x1 x4 kd most : Int} {nF : List Int} {S : List (List Int)} {ex : Option (Int × List Int)} (h : lrM D T n (lbE T n a) S ex) (ha : 0 ≤ a ∧ a < lbE T n a) (hz : ¬ lbZ T n kd nF a ex) (hx : (x1 < 0 ∧ most = 2) ∨ (0 ≤ x1 ∧ most = 3)) (hso : lsO most S ex) (hT : (lb1 T n kd nF most a S ex).1 = 0 → ∀ D', lrM D' T n (lb1 T n kd nF most a S ex).2.1 (lb1 T n kd nF most a S ex).2.2.1 (lb1 T n kd nF most a S ex).2.2.2 → frX D D' → K D' 1) (hF : (lb1 T n kd nF most a S ex).1 ≠ 0 → ∀ D', D' 1977 45 = (lb1 T n kd nF most a S ex).1 → D' 1977 46 = (lb1 T n kd nF most a S ex).2.1 → frXf D D' → K D' 0) : WP sc 265 119 D [(0, (1211, 1977)), (1, (0, x1)), (2, (0, a)), (3, (0, lbE T n a)), (4, (0, x4))] [] K E := by
  have c := h.1.2
  refine v265_119 (u_lpre h ha (fun e0 v1 v2 D4 D7 D10 q1 q2 h10 h60 hL f10 => ?_) (fun cc p hc D1 g1 g2 g3 => ?_))
  · have eM : lbM T n kd nF a ex = 12 := by
      rcases lbM_or (T := T) (n := n) (kd := kd) (a := a) (nF := nF) (ex := ex) with ⟨_, m2⟩ | ⟨m1, _⟩
      · exact absurd m2.1 hz
      · exact m1
    have eb := es_bnd (T := T) (n := n) (a := lbE T n a + 2) ⟨by omega, by have := pb_lt (lbN_0 e0).2.2 (by omega); omega⟩
    have f0 := h10.1.1.2.2
    rw [h60, q1]
    by_cases z7 : 12 < ((es T n (lbE T n a + 2)).2.1.length : Int)
    · rw [if_pos z7]
      have en : lb1 T n kd nF most a S ex = (7, lbE T n a + 2, S, ex) := by
        have ev : lbV T n (lbE T n a + 2) (lbM T n kd nF a ex) = (7, lbE T n a + 2) := by unfold lbV; rw [if_neg (fun w => w ⟨v1, v2⟩), eM, if_pos z7]
        unfold lb1
        rw [if_neg (fun w => w e0), ev, if_pos (show (7 : Int) ≠ 0 from by decide)]
      rw [en] at hF
      exact u_fails f0 (hF (show (7 : Int) ≠ 0 from by decide) _ fl_45 fl_46 (frXf_tr f10 frXf_fl))
    · rw [if_neg z7]
      intro _
      have en : lb1 T n kd nF most a S ex = cif (lbO T n most a S ex) (0, (es T n (lbE T n a + 2)).1 + 1, S ++ [lbx T n a], ex) (8, a, S, ex) := by
        have ev : lbV T n (lbE T n a + 2) (lbM T n kd nF a ex) = (0, (es T n (lbE T n a + 2)).1 + 1) := by unfold lbV; rw [if_neg (fun w => w ⟨v1, v2⟩), eM, if_neg z7]
        unfold lb1
        rw [if_neg (fun w => w e0), ev, if_neg (fun w => w rfl), cif_neg hz]
      have exn := exM_n h10.2.2
      have bad : ¬ lbO T n most a S ex → WP sc 251 0 D10 [(0, (1211, 1977)), (1, (0, 8)), (2, (0, a))] [] (fun D19 r20 => tbl r20 (K D19 r20)) E := fun no => by
        rw [en, cif_neg no] at hF
        exact u_fails f0 (hF (show (8 : Int) ≠ 0 from by decide) _ fl_45 fl_46 (frXf_tr f10 frXf_fl))
      by_cases z6 : D10 1977 64 = 0
      · rw [if_pos z6]
        refine u_ord (S := S) (most := most) ⟨_, h10.1⟩ ⟨ha.1, by omega⟩ h10.2.1.1 h10.2.1.2.1 ⟨hso.2.1, hso.2.2.1, hso.1⟩ hx (fun o => ?_) (fun o => ?_)
        · rw [if_neg (by omega)]
          have o2 : lbO T n most a S ex := ⟨exn.mp z6, o⟩
          rw [en, cif_pos o2] at hT
          have f22 := fl22 hso.2.1
          have s3 := hso.1
          have t10 : ∀ j, 0 ≤ j → j < n → D10 1978 j = T j := fun j u v => (h10.1.2.2 j u v).1
          have e8 := o.2.1.2.1
          have flen : 2 * (S.length : Int) ≤ (S.flatten.length : Int) := by
            have : ∀ S : List (List Int), (∀ x ∈ S, lbl x) → 2 * S.length ≤ S.flatten.length := by
              intro S
              induction S with
              | nil => intro _; exact Nat.le_refl _
              | cons x r ih =>
                intro hh
                have h1 := (lbl_len (hh x List.mem_cons_self)).1
                have h2 := ih (fun y hy => hh y (List.mem_cons_of_mem _ hy))
                rw [List.flatten_cons, List.length_append, List.length_cons]
                omega
            have := this S hso.2.1
            omega
          obtain ⟨c2, c3, c4⟩ := h10.2.1
          refine u_l316 (P := S.flatten) (D0 := D10) ⟨ha.1, by omega, by omega, c.1.2.2⟩ t10 (by omega) (fun D11 s11 f11 => ?_) (lbE T n a - a).toNat a D10 (by omega) (by omega) (by rw [show (a - a).toNat = 0 from by omega]; show setIs D10 (S.flatten ++ []); rw [List.append_nil]; exact c2) (fun _ _ _ _ => rfl)
          refine u_l347 (D0 := D11) (Q := S.flatten ++ spn T a (lbE T n a - a).toNat ++ [1]) (L := (es T n (lbE T n a + 2)).2.1) ⟨ha.1, by omega, by omega⟩ (by rw [f11 _ _ (by omega) (by omega)]; exact h60) (atL_fr (fun j _ _ => f11 _ _ (by omega) (by omega)) hL) (by rw [List.length_append, List.length_append, spn_len, List.length_singleton]; omega) ⟨by rw [f11 _ _ (by omega) (by omega), c4]; omega, by rw [f11 _ _ (by omega) (by omega), c4]; omega, by rw [f11 _ _ (by omega) (by omega), c3]; omega, by rw [f11 _ _ (by omega) (by omega), c3]; omega⟩ (fun D12 s12 f12 => ?_) (es T n (lbE T n a + 2)).2.1 [] D11 rfl (by rw [List.append_nil]; exact s11) (fun _ _ _ _ => rfl)
          rw [f11 1977 63 (by omega) (by omega), f11 1977 62 (by omega) (by omega), c3, c4]
          have g12 : ∀ x j, x ≠ 2009 → (x = 1977 → j ≠ 37) → D12 x j = D10 x j := fun x j u v => by rw [f12 x j u v, f11 x j u v]
          have lxe : (S ++ [lbx T n a]).flatten = S.flatten ++ spn T a (lbE T n a - a).toNat ++ [1] ++ (es T n (lbE T n a + 2)).2.1 ++ [2] := by
            unfold lbx lbL
            simp
          have lxl : (lbx T n a).length = (lbE T n a - a).toNat + 1 + ((es T n (lbE T n a + 2)).2.1.length + 1) := by
            unfold lbx lbL
            rw [List.length_append, spn_len, List.length_cons, List.length_append, List.length_singleton]
            omega
          refine hT rfl _ ⟨mu_to h10.1 ⟨h10.1.2.1.1, h10.1.2.1.2.1⟩ (by rw [wr_ni (by omega), wr_ni (by omega), g12 _ _ (by omega) (by omega)]; exact h10.1.1.1) (by rw [wr_ni (by omega), wr_ni (by omega), g12 _ _ (by omega) (by omega)]) (by rw [wr_ni (by omega), wr_ni (by omega), g12 _ _ (by omega) (by omega)]) (fun j => by rw [wr_ne (by omega), wr_ne (by omega), g12 _ _ (by omega) (by omega)]), ⟨⟨?_, ?_⟩, ?_, ?_⟩, ?_⟩ ?_
          · rw [wr_ni (by omega), wr_ni (by omega), lxe]; exact s12.1
          · rw [lxe]; exact atL_fr (fun j _ _ => by rw [wr_ne (by omega), wr_ne (by omega)]) s12.2
          · show _ = ((S ++ [lbx T n a]).length : Int)
            rw [wr_self, List.length_append, List.length_singleton]; omega
          · show _ = ((S ++ [lbx T n a]).flatten.length : Int) - 2 * ((S ++ [lbx T n a]).length : Int)
            rw [wr_ni (by omega), wr_self, List.length_append, List.length_singleton, List.flatten_append, List.length_append, show [lbx T n a].flatten = lbx T n a from by simp, lxl]
            omega
          · exact exM_fr h10.2.2 (fun j u => by rw [wr_ni (by omega), wr_ni (by omega), g12 _ _ (by omega) (by omega)]) (fun j => by rw [wr_ne (by omega), wr_ne (by omega), g12 _ _ (by omega) (by omega)])
          · exact frX_tr f10 (frX_tr (fun x j u1 u2 u3 u4 => g12 x j u1 (fun w => (u4 w).1)) (frX_tr (frX_wr (by omega)) (frX_wr (by omega))))
        · rw [if_pos rfl]
          exact bad (fun w => o w.2)
      · rw [if_neg z6]
        exact bad (fun w => z6 (exn.mpr w.1))
  · obtain ⟨l1, l2⟩ := lb1_pre (kd := kd) (most := most) (nF := nF) (S := S) (ex := ex) hc
    rw [l1] at hF
    exact hF l2 D1 g1 g2 g3
theorem u_l108 {a x1 x4 kd most : Int} {nF : List Int} {S : List (List Int)} {ex : Option (Int × List Int)} (h : lrM D T n (lbE T n a) S ex) (ha : 0 ≤ a ∧ a < lbE T n a) (hq : xq kd nF (lbL T a (lbE T n a))) (h4 : (x4 = 0 ∧ kd ≠ 2) ∨ (x4 = 1 ∧ kd = 2)) (hx : (x1 < 0 ∧ most = 2) ∨ (0 ≤ x1 ∧ most = 3)) (hso : lsO most S ex) (hT : (lb1 T n kd nF most a S ex).1 = 0 → ∀ D', lrM D' T n (lb1 T n kd nF most a S ex).2.1 (lb1 T n kd nF most a S ex).2.2.1 (lb1 T n kd nF most a S ex).2.2.2 → frX D D' → K D' 1) (hF : (lb1 T n kd nF most a S ex).1 ≠ 0 → ∀ D', D' 1977 45 = (lb1 T n kd nF most a S ex).1 → D' 1977 46 = (lb1 T n kd nF most a S ex).2.1 → frXf D D' → K D' 0) : WP sc 265 108 D [(0, (1211, 1977)), (1, (0, x1)), (2, (0, a)), (3, (0, lbE T n a)), (4, (0, x4))] [] K E := by
  have c := h.1.2
  have exn := exM_n h.2.2
  refine v265_108 (fun _ => ?_)
  by_cases z6 : D 1977 64 = 0
  · rw [if_pos z6]
    have hz : lbZ T n kd nF a ex := ⟨exn.mp z6, hq⟩
    refine u_lpre h ha (fun e0 v1 v2 D4 D7 D10 q1 q2 h10 h60 hL f10 => ?_) (fun cc p hc D1 g1 g2 g3 => ?_)
    · have eb := es_bnd (T := T) (n := n) (a := lbE T n a + 2) ⟨by omega, by have := pb_lt (lbN_0 e0).2.2 (by omega); omega⟩
      have f0 := h10.1.1.2.2
      have d64 : D10 1977 64 = 0 := (exM_n h10.2.2).mpr hz.1
      have w60 : (wr (wr (wr D10 1977 64 1) 1977 56 (lbE T n a + 2)) 1977 57 (es T n (lbE T n a + 2)).1) 1977 60 = ((es T n (lbE T n a + 2)).2.1.length : Int) := by rw [wr_ni (by omega), wr_ni (by omega), wr_ni (by omega)]; exact h60
      rw [h60, q1, q2, w60, if_pos d64]
      have key : ∀ m, lbM T n kd nF a ex = m → (m = 12 ∨ m = 20) → (if m < ((es T n (lbE T n a + 2)).2.1.length : Int) then (WP sc 251 0 D10 [(0, (1211, 1977)), (1, (0, 7)), (2, (0, lbE T n a + 2))] [] (fun D13 r14 => tbl r14 (K D13 r14)) E) else (0 ≤ D10 1977 64 ∧ D10 1977 64 ≤ 1 → WP sc 265 282 (wr (wr (wr (wr D10 1977 64 1) 1977 56 (lbE T n a + 2)) 1977 57 (es T n (lbE T n a + 2)).1) 1977 66 ((es T n (lbE T n a + 2)).2.1.length : Int)) [(0, (1211, 1977)), (10, (0, 0))] [] K E)) := fun m eM hm => by
        by_cases z7 : m < ((es T n (lbE T n a + 2)).2.1.length : Int)
        · rw [if_pos z7]
          have en : lb1 T n kd nF most a S ex = (7, lbE T n a + 2, S, ex) := by
            have ev : lbV T n (lbE T n a + 2) (lbM T n kd nF a ex) = (7, lbE T n a + 2) := by unfold lbV; rw [if_neg (fun w => w ⟨v1, v2⟩), eM, if_pos z7]
            unfold lb1
            rw [if_neg (fun w => w e0), ev, if_pos (show (7 : Int) ≠ 0 from by decide)]
          rw [en] at hF
          exact u_fails f0 (hF (show (7 : Int) ≠ 0 from by decide) _ fl_45 fl_46 (frXf_tr f10 frXf_fl))
        · rw [if_neg z7]
          intro _
          have en : lb1 T n kd nF most a S ex = (0, (es T n (lbE T n a + 2)).1 + 1, S, some (lbE T n a + 2, (es T n (lbE T n a + 2)).2.1)) := by
            have ev : lbV T n (lbE T n a + 2) (lbM T n kd nF a ex) = (0, (es T n (lbE T n a + 2)).1 + 1) := by unfold lbV; rw [if_neg (fun w => w ⟨v1, v2⟩), eM, if_neg z7]
            unfold lb1
            rw [if_neg (fun w => w e0), ev, if_neg (fun w => w rfl), cif_pos hz]
          rw [en] at hT
          refine u_l282 (D0 := wr (wr (wr (wr D10 1977 64 1) 1977 56 (lbE T n a + 2)) 1977 57 (es T n (lbE T n a + 2)).1) 1977 66 ((es T n (lbE T n a + 2)).2.1.length : Int)) (L := (es T n (lbE T n a + 2)).2.1) (by rw [wr_ni (by omega)]; exact w60) (atL_fr (fun j _ _ => by rw [wr_ne (by omega), wr_ne (by omega), wr_ne (by omega), wr_ne (by omega)]) hL) (by omega) (fun D12 s12 f12 => ?_) (es T n (lbE T n a + 2)).2.1 [] _ rfl trivial (fun _ _ _ => rfl)
          have g12 : ∀ x j, x ≠ 2016 → (x = 1977 → j ≠ 56 ∧ j ≠ 57 ∧ j ≠ 64 ∧ j ≠ 66) → D12 x j = D10 x j := fun x j u v => by
            rw [f12 x j u]
            by_cases y : x = 1977
            · subst y
              have := v rfl
              rw [wr_ni (by omega), wr_ni (by omega), wr_ni (by omega), wr_ni (by omega)]
            · rw [wr_ne y, wr_ne y, wr_ne y, wr_ne y]
          obtain ⟨c2, c3, c4⟩ := h10.2.1
          have bq := pb_lt (lbN_0 e0).2.2 (by omega)
          refine hT rfl D12 ⟨mu_to h10.1 ⟨h10.1.2.1.1, h10.1.2.1.2.1⟩ (by rw [g12 _ _ (by omega) (by omega)]; exact h10.1.1.1) (g12 _ _ (by omega) (by omega)) (g12 _ _ (by omega) (by omega)) (fun j => g12 _ _ (by omega) (by omega)), ⟨⟨by rw [g12 _ _ (by omega) (by omega)]; exact c2.1, atL_fr (fun j _ _ => g12 _ _ (by omega) (by omega)) c2.2⟩, by rw [g12 _ _ (by omega) (by omega)]; exact c3, by rw [g12 _ _ (by omega) (by omega)]; exact c4⟩, Or.inr ⟨_, _, rfl, ⟨by omega, by omega⟩, ⟨?_, ?_, ?_, ?_, s12⟩, rfl, v1, v2⟩⟩ ?_
          · rw [f12 _ _ (by omega), wr_ni (by omega), wr_ni (by omega), wr_ni (by omega), wr_self]
          · rw [f12 _ _ (by omega), wr_ni (by omega), wr_ni (by omega), wr_self]
          · rw [f12 _ _ (by omega), wr_ni (by omega), wr_self]
          · rw [f12 _ _ (by omega), wr_self]
          · exact frX_tr f10 (fun x j u1 u2 u3 u4 => g12 x j u3 (fun w => by have := u4 w; omega))
      have hM := lbM_or (T := T) (n := n) (kd := kd) (a := a) (nF := nF) (ex := ex)
      rcases h4 with ⟨y1, y2⟩ | ⟨y1, y2⟩
      · rw [if_pos y1]
        refine key 12 ?_ (Or.inl rfl)
        rcases hM with ⟨_, m2⟩ | ⟨m1, _⟩
        · exact absurd m2.2 y2
        · exact m1
      · rw [if_neg (by omega)]
        refine key 20 ?_ (Or.inr rfl)
        rcases hM with ⟨m1, _⟩ | ⟨_, m2⟩
        · exact m1
        · exact absurd ⟨hz, y2⟩ m2
    · obtain ⟨l1, l2⟩ := lb1_pre (kd := kd) (most := most) (nF := nF) (S := S) (ex := ex) hc
      rw [l1] at hF
      exact hF l2 D1 g1 g2 g3
  · rw [if_neg z6]
    exact u_l119 h ha (fun w => z6 (exn.mpr w.1)) hx hso hT hF
end LBQ
