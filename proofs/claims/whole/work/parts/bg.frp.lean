/-! reading a sample: its name, its labels, its child, both sides together -/
section FRP
variable {sc : Nat × (Nat → Int32)} {D D' A A' A0 : tD} {K : tD → Int → Prop} {E : tD → Nat → Prop} {T : Int → Int} {n c : Int}
theorem lb1_pos {kd most a : Int} {nF : List Int} {S : List (List Int)} {ex : Option (Int × List Int)} : 0 ≤ (lb1 T n kd nF most a S ex).1 := by
  unfold lb1
  by_cases z1 : (lbN T n a).1 ≠ 0
  · rw [if_pos z1]
    show 0 ≤ (lbN T n a).1
    unfold lbN
    repeat' split
    all_goals simp
  rw [if_neg z1]
  by_cases z2 : (lbV T n (lbE T n a + 2) (lbM T n kd nF a ex)).1 ≠ 0
  · rw [if_pos z2]
    show 0 ≤ (lbV T n (lbE T n a + 2) (lbM T n kd nF a ex)).1
    unfold lbV
    repeat' split
    all_goals simp
  rw [if_neg z2]
  refine cif_P (P := fun x : Int × Int × List (List Int) × Option (Int × List Int) => 0 ≤ x.1) (by simp) (cif_P (P := fun x : Int × Int × List (List Int) × Option (Int × List Int) => 0 ≤ x.1) (by simp) (by simp))
theorem lbs_pos {kd most : Int} {nF : List Int} : ∀ (k : Nat) (a : Int) (S : List (List Int)) (ex : Option (Int × List Int)), 0 ≤ (lbs T n kd nF most k a S ex).1 := by
  intro k
  induction k with
  | zero => intro a S ex; simp [lbs]
  | succ k ih =>
    intro a S ex
    unfold lbs
    by_cases z1 : (lb1 T n kd nF most a S ex).1 ≠ 0
    · rw [if_pos z1]; exact lb1_pos
    rw [if_neg z1]
    by_cases z2 : pb T n (lb1 T n kd nF most a S ex).2.1 = 44
    · rw [if_pos z2]; exact ih _ _ _
    rw [if_neg z2]
    by_cases z3 : pb T n (lb1 T n kd nF most a S ex).2.1 = 125
    · rw [if_pos z3]; simp
    · rw [if_neg z3]; simp
theorem sl_pos {a b w kd : Int} {nF : List Int} : 0 ≤ (slO T n a b w kd nF).1 := by
  have h : 0 ≤ (slL T n b w kd nF).1 := by
    unfold slL
    split
    · exact lbs_pos _ _ _ _
    · simp
  unfold slO
  by_cases z : (slL T n b w kd nF).1 ≠ 0
  · rw [if_pos z]; exact h
  rw [if_neg z]
  split <;> simp
theorem sl_0 {a b w kd : Int} {nF : List Int} (h : (slO T n a b w kd nF).1 = 0) : (slL T n b w kd nF).1 = 0 ∧ ((w = 3 ∨ kd = 4) → (slL T n b w kd nF).2.2.2 ≠ none) := by
  unfold slO at h
  by_cases z : (slL T n b w kd nF).1 ≠ 0
  · rw [if_pos z] at h; exact absurd h z
  rw [if_neg z] at h
  refine ⟨Classical.byContradiction z, fun y e => ?_⟩
  rw [if_pos ⟨y, e⟩] at h
  exact absurd (show (8 : Int) = 0 from h) (by decide)
theorem XD_fr {q : Int} {l : List Int} (h : XD T n q l D A) (h1 : D' 1958 5 = D 1958 5) (h2 : ∀ x j, x = 1966 ∨ x = 1967 → D' x j = D x j) (h3 : A' 1977 56 = A 1977 56 ∧ A' 1977 57 = A 1977 57 ∧ A' 1977 66 = A 1977 66) (h4 : ∀ j, A' 2016 j = A 2016 j) : XD T n q l D' A' := by
  obtain ⟨⟨a1, ⟨a2, a3⟩, a4⟩, b, ⟨c1, c2, c3, c4⟩, d⟩ := h
  exact ⟨⟨by rw [h1]; exact a1, ⟨by rw [h2 _ _ (by omega)]; exact a2, atL_fr (fun j _ _ => h2 _ _ (by omega)) a3⟩, a4⟩, b, ⟨by rw [h3.1]; exact c1, by rw [h3.2.1]; exact c2, by rw [h3.2.2]; exact c3, atL_fr (fun j _ _ => h4 j) c4⟩, d⟩
theorem wh_00 {a : Int} (h : whO D a = (0, 0)) : (D 1956 9 = 2 ∨ D 1956 11 = 0) ∨ D 1956 14 ≠ 0 := by
  unfold whO at h
  by_cases z : D 1956 9 = 2 ∨ D 1956 11 = 0
  · exact Or.inl z
  rw [cif_neg z] at h
  by_cases z2 : D 1956 14 ≠ 0 ∧ smQ D
  · exact Or.inr z2.1
  rw [cif_neg z2] at h
  exfalso
  by_cases z3 : ∃ k, (0 ≤ k ∧ k < 24) ∧ fcC D 1 (D 1956 7) 1959 k
  · rw [cif_pos z3] at h
    exact absurd (congrArg Prod.fst h) (show ¬ (9 : Int) = 0 by decide)
  rw [cif_neg z3] at h
  by_cases z4 : D 980 5 = 24
  · rw [cif_pos z4] at h
    exact absurd (congrArg Prod.fst h) (show ¬ (14 : Int) = 0 by decide)
  · rw [cif_neg z4] at h
    exact absurd (congrArg Prod.snd h) (by decide)
theorem wh_01 {a : Int} (h : whO D a = (0, 1)) : ¬ (D 1956 9 = 2 ∨ D 1956 11 = 0) := fun z => by
  unfold whO at h
  rw [cif_pos z] at h
  by_cases z2 : smQ D
  · rw [cif_pos z2] at h
    exact absurd (congrArg Prod.snd h) (by decide)
  · rw [cif_neg z2] at h
    exact absurd (congrArg Prod.fst h) (show ¬ (10 : Int) = 0 by decide)
theorem l_front {a B : Int} {K7 : tD → Prop} (hok : okD D) (hR0 : RC c T n a B D A0) (hB : B ≤ 90000) (h5 : lbE T n a ≠ a) (hN : ∀ D', frZ D D' → Sim sc 271 c T n a B 0 D D' → K D' 0) (hT : ∀ (D1 : tD) (p f k w q : Int) (l : List Int), a < p → p ≤ n → frZ D D1 → (w = 3 ∨ w = 4 ∨ w = 5 ∨ D1 1956 10 = wnt (D1 (aF 1 f) 5) 0) → Pre sc c T n a B D (PW c T n p B f k w q l D1) (CW sc w (D1 (aF 1 f) 5)) → K7 D1) : WP sc 134 0 (wr D 1956 17 0) [(0, (1209, 1956))] [] (fun D1 r2 => if r2 = 0 then (K D1 0) else (WP sc 137 0 D1 [(0, (1209, 1956))] [] (fun D4 r5 => if r5 = 0 then (K D4 0) else (WP sc 138 0 D4 [(0, (1209, 1956))] [] (fun D7 r8 => if r8 = 0 then (K D7 0) else K7 D7) E)) E)) E := by
  have hc := hR0.1.1
  have cc := hc.2
  have rb := ru_b (s := 5) (T := T) (n := n) (a := a) (by omega)
  have eb : ru 5 T n a = lbE T n a := rfl
  rw [eb] at rb
  have s8 : 0 ≤ D 980 4 ∧ D 980 4 ≤ 8 := by
    have g := hR0.2.1.1.1.2
    rw [mx_lo (by omega)] at g
    exact g
  have w17 : ∀ x j, ¬ (x = 1956 ∧ j = 17) → (wr D 1956 17 0) x j = D x j := fun x j u => by
    by_cases y : x = 1956
    · subst y; exact wr_ni (by omega)
    · exact wr_ne y
  have z17 : frZ D (wr D 1956 17 0) := frZ_wr (by omega)
  have hcW : cu (wr D 1956 17 0) 1957 1 T n a := cu_frZ hc cc.2.1 (by rw [wr_ne (by omega)]; exact hc.1.2) z17
  by_cases z0 : D 980 4 = 0
  · have e5 : (wr D 1956 17 0) 1956 5 = -1 := by
      rw [w17 _ _ (by omega)]
      rcases hR0.2.2.2.2.2.2.2 with g | g
      · exact g.2.2.1
      · omega
    have eo : ∀ w, snO n a (lbE T n a) (-1) w = (5, a) := fun w => by
      unfold snO
      rw [if_neg h5, if_pos rfl]
    refine t_sname (F := 982) hcW (Or.inl e5) (Or.inl e5) (fun e0 => ?_) (fun e0 D' d1 d2 d3 => ?_)
    · rw [e5, eo] at e0
      exact absurd (show (5 : Int) = 0 from e0) (by decide)
    · rw [if_pos rfl]
      rw [e5, eo] at d1 d2
      refine hN D' (frZ_tr z17 d3) (fun A hA K' E' hK' => ?_)
      refine u_front0 hA z0 (hK' _ (lnP_bd (frV_tr (frV_wr (by omega)) frV_fl) ⟨by rw [d1, fl_45], by rw [d2, fl_46]⟩ (by rw [fl_45]; omega) ?_))
      have e22 : (fl (wr A 1977 47 (lbE T n a)) 5 a) 1977 22 = A 1977 22 := by
        unfold fl
        rw [wr_ni (by omega), wr_ni (by omega), wr_ni (by omega)]
      rw [e22]; exact RC_22 hA
  obtain ⟨f, f0, f1, f2⟩ : ∃ f, D 980 4 = f + 1 ∧ 0 ≤ f ∧ f < 8 := ⟨D 980 4 - 1, by omega, by omega, by omega⟩
  have aFb := aF1 f
  have hfm := hR0.2.2.2.2.2.2.2
  have hsh := hR0.2.1.1
  rcases hfm with g | ⟨g1, g2, g3, g4, g5⟩
  · omega
  rw [f0, show f + 1 - 1 = f from by omega] at g2 g3 g4 g5
  have fa := hsh.2.1 f f1 (by rw [mx_lo (by omega)]; show f < D 980 4; omega)
  obtain ⟨nF, n1, n2, n3, n4⟩ := RC_name hok ⟨f1, f2⟩ fa
  obtain ⟨kd, hkd⟩ : ∃ kd, D (aF 1 f) 5 = kd := ⟨_, rfl⟩
  obtain ⟨w, hw⟩ : ∃ w, w = smW T a (lbE T n a) (D (aF 1 f + 2)) (D (aF 1 f + 1) 1) (D 1956 10) (D 1956 12) := ⟨_, rfl⟩
  have kb : 0 ≤ kd ∧ kd ≤ 4 := by
    have q := fa.1.2
    rw [mx_lo (by omega)] at q
    rw [← hkd]; exact q
  have due0 : 0 ≤ D 1956 10 ∧ D 1956 10 ≤ 6 := by
    rcases g5 with g | ⟨k, g⟩
    · rw [g.2.2.2.1, fpt_w]; exact ⟨wnt_b.1, wnt_b.2.1⟩
    · rw [g.2.2.2.1]; exact ⟨wnt_b.1, wnt_b.2.1⟩
  have eN : (wr D 1956 17 0) (aF 1 f + 2) = D (aF 1 f + 2) := funext (fun j => wr_ne (by omega))
  have l1 := n1.1
  have l24 := n1.2.2.1
  have zF : (wr D 1956 17 0) 1956 5 = aF 1 f := by rw [w17 _ _ (by omega)]; exact g2
  have nF1 : aF 1 f ≠ -1 := by omega
  refine t_sname (F := aF 1 f) hcW (Or.inr ⟨zF, by omega, by omega, by rw [w17 _ _ (by omega)]; omega, by rw [w17 _ _ (by omega)]; omega, n1.2.2.2.1⟩) (Or.inr (by rw [w17 _ _ (by omega)]; exact due0)) (fun e0 => ?_) (fun e0 D' d1 d2 d3 => ?_)
  rotate_left
  · rw [if_pos rfl]
    rw [zF, eN, w17 (aF 1 f + 1) 1 (by omega), w17 1956 10 (by omega), w17 1956 12 (by omega), ← hw] at e0 d1 d2
    by_cases zw : w < 0
    · have eo : snO n a (lbE T n a) (aF 1 f) w = (2, a) := by
        unfold snO
        rw [if_neg h5, if_neg nF1, if_pos zw]
      rw [eo] at d1 d2
      refine hN D' (frZ_tr z17 d3) (fun A hA K' E' hK' => ?_)
      refine u_front hA hok ⟨f0, f1, f2⟩ n1 hkd hw (fun _ => hK' _ (lnP_bd (frV_tr (frV_wr (by omega)) frV_fl) ⟨by rw [d1, fl_45], by rw [d2, fl_46]⟩ (by rw [fl_45]; omega) ?_)) (fun y => absurd zw (by omega)) (fun y => absurd zw (by omega))
      have e22 : (fl (wr A 1977 47 (lbE T n a)) 2 a) 1977 22 = A 1977 22 := by
        unfold fl
        rw [wr_ni (by omega), wr_ni (by omega), wr_ni (by omega)]
      rw [e22]; exact RC_22 hA
    · exfalso
      unfold snO at e0
      rw [if_neg h5, if_neg nF1, if_neg zw] at e0
      exact e0 rfl
  rw [if_neg (show ¬ (1 : Int) = 0 by decide)]
  rw [zF, eN, w17 (aF 1 f + 1) 1 (by omega), w17 1956 10 (by omega), w17 1956 12 (by omega), ← hw] at e0
  rw [eN, w17 (aF 1 f + 1) 1 (by omega), w17 1956 10 (by omega), w17 1956 12 (by omega), ← hw]
  have zw : 0 ≤ w := by
    by_cases y : w < 0
    · unfold snO at e0
      rw [if_neg h5, if_neg nF1, if_pos y] at e0
      exact absurd (show (2 : Int) = 0 from e0) (by decide)
    · omega
  have hor : w = D 1956 10 ∨ (w = 2 ∧ D 1956 12 = 1) := by
    have q := smW_or (T := T) (a := a) (b := lbE T n a) (N := D (aF 1 f + 2)) (z := D (aF 1 f + 1) 1) (due := D 1956 10) (may := D 1956 12) due0.1 (by rw [← hw]; omega)
    rw [← hw] at q
    exact q
  have h10 : w = 3 ∨ w = 4 ∨ w = 5 ∨ D 1956 10 = wnt kd 0 := by
    by_cases k2 : kd = 2
    · rcases hor with e | ⟨e, e2⟩
      · rcases g5 with g | ⟨k, g⟩
        · exact Or.inr (Or.inr (Or.inr (by rw [g.2.2.2.1, fpt_w, hkd])))
        · have q := g.2.2.2.1
          rw [hkd, k2, ← e] at q
          have b := wnt_b (kd := 2) (due := A0 1977 51)
          unfold wnt at q
          rw [if_neg (by omega), if_pos rfl] at q
          split at q
          · exact Or.inl q
          · split at q
            · exact Or.inr (Or.inl q)
            · exact Or.inr (Or.inr (Or.inl q))
      · rcases g5 with g | ⟨k, g⟩
        · have := g.2.2.1.1; omega
        · refine Or.inr (Or.inr (Or.inr ?_))
          rw [g.2.2.2.1, hkd, (g.2.2.1.2.2 e2).2]
    · have e : ∀ due, wnt kd due = wnt kd 0 := fun due => by
        unfold wnt
        rw [if_neg k2, if_neg k2]
      refine Or.inr (Or.inr (Or.inr ?_))
      rcases g5 with g | ⟨k, g⟩
      · rw [g.2.2.2.1, fpt_w, hkd]
      · rw [g.2.2.2.1, hkd]; exact e _
  have wf0 := (w_facts (D := D) (A := A0) g5 (by rw [hkd]; exact kb) hR0.2.2.2.2.1 hor).1
  rw [hkd] at wf0
  generalize hD1 : wr (wr (wr (wr D 1956 17 0) 1957 1 (lbE T n a)) 1956 8 a) 1956 9 w = D1
  have z1 : frZ D D1 := by rw [← hD1]; exact frZ_tr z17 (frZ_tr (frZ_wr (by omega)) (frZ_tr (frZ_wr (by omega)) (frZ_wr (by omega))))
  have o1 : ∀ x j, x ≠ 1957 → ¬ (x = 1956 ∧ (j = 17 ∨ j = 8 ∨ j = 9)) → D1 x j = D x j := fun x j u v => by
    rw [← hD1]
    by_cases y : x = 1956
    · subst y; rw [wr_ni (by omega), wr_ni (by omega), wr_ne (by omega), wr_ni (by omega)]
    · rw [wr_ne y, wr_ne y, wr_ne u, wr_ne y]
  have o1c : ∀ j, j ≠ 1 → D1 1957 j = D 1957 j := fun j u => by rw [← hD1, wr_ne (by omega), wr_ne (by omega), wr_ni u, wr_ne (by omega)]
  have d18 : D1 1956 8 = a := by rw [← hD1, wr_ni (by omega), wr_self]
  have d19 : D1 1956 9 = w := by rw [← hD1, wr_self]
  have d117 : D1 1956 17 = 0 := by rw [← hD1, wr_ni (by omega), wr_ni (by omega), wr_ne (by omega), wr_self]
  have c1 : cu D1 1957 1 T n (lbE T n a) := cu_frZ hc ⟨by omega, rb.2⟩ (by rw [← hD1, wr_ne (by omega), wr_ne (by omega), wr_self]) z1
  have nm1 : nmC D1 (aF 1 f) nF := ⟨by rw [o1 _ _ (by omega) (by omega)]; exact n1.1, atL_fr (fun j _ _ => o1 _ _ (by omega) (by omega)) n1.2.1, n1.2.2⟩
  refine t_slab (a := a) (b := lbE T n a) (w := w) (kd := kd) (F := aF 1 f) (nF := nF) c1 (by rw [o1 _ _ (by omega) (by omega)]; exact g2) ⟨by omega, by omega⟩ nm1 (by rw [o1 _ _ (by omega) (by omega)]; exact hkd) d18 d19 wf0.1 (fun e1 D4 l4 y4 => ?_) (fun e1 D4 q1 q2 y4 => ?_)
  rotate_left
  · rw [if_pos rfl]
    refine hN D4 (frZ_tr z1 (frZ_N y4)) (fun A hA K' E' hK' => ?_)
    refine u_front hA hok ⟨f0, f1, f2⟩ n1 hkd hw (fun y => absurd zw (by omega)) (fun _ e A' a1 a2 a3 a4 => hK' _ (lnP_bd a3 ⟨by rw [q1, a1], by rw [q2, a2]⟩ ?_ (by rw [a4]; exact RC_22 hA))) (fun _ e => absurd e e1)
    have := sl_pos (T := T) (n := n) (a := a) (b := lbE T n a) (w := w) (kd := kd) (nF := nF)
    rw [a1]; omega
  rw [if_neg (show ¬ (1 : Int) = 0 by decide)]
  refine wp_ok (fun hok4 => ?_)
  obtain ⟨eL, eX⟩ := sl_0 e1
  obtain ⟨hb, so⟩ := sl_ok (T := T) (n := n) (b := lbE T n a) (w := w) (kd := kd) (nF := nF) ⟨by omega, rb.2⟩ eL
  have x12 : kd = 4 → ∀ p l, (slL T n (lbE T n a) w kd nF).2.2.2 = some (p, l) → (l.length : Int) ≤ 12 := fun y => by
    subst y
    exact sl_12 (by have := wf0.2.1 rfl; omega) eL
  generalize hp : (slL T n (lbE T n a) w kd nF).2.1 = p at l4 hb
  generalize hS : (slL T n (lbE T n a) w kd nF).2.2.1 = S at l4 so
  generalize hX : (slL T n (lbE T n a) w kd nF).2.2.2 = ex at l4 so eX x12
  have pa : a < p := by omega
  have hl : S.flatten.length ≤ 66 := by
    have := fl22 so.2.1
    have := so.1
    omega
  have o4 : ∀ x j, x < 1957 ∨ 1967 < x ∨ (x = 1957 ∧ j ≠ 1) → D4 x j = D1 x j := y4
  have z4 : frZ D D4 := frZ_tr z1 (frZ_Y y4)
  have fI : frI D D4 := fun x j u => by rw [o4 x j (by omega), o1 x j (by omega) (by omega)]
  have hQ0 : RQ c B D4 A0 := RQ_fr (RQ_of hR0) fI (fun _ _ _ => rfl)
  have d48 : D4 1956 8 = a := by rw [o4 _ _ (by omega)]; exact d18
  have d49 : D4 1956 9 = w := by rw [o4 _ _ (by omega)]; exact d19
  have d4F : D4 (aF 1 f) 5 = kd := by rw [fI _ _ (by omega)]; exact hkd
  have d4s : D4 980 4 = f + 1 := by rw [fI _ _ (by omega)]; exact f0
  have d47 : D4 1956 7 = f := by rw [fI _ _ (by omega)]; exact g3
  have r10 : D4 1956 10 = D 1956 10 := fI _ _ (by omega)
  have r12 : D4 1956 12 = D 1956 12 := fI _ _ (by omega)
  have hor4 : w = D4 1956 10 ∨ (w = 2 ∧ D4 1956 12 = 1) := by rw [r10, r12]; exact hor
  have sh4 := hQ0.1.1
  have h66 : ∀ k, 0 ≤ k → k < 24 → D4 (aC 1 k) 3 = 1 → D4 (aC 1 k + 2) 1 ≤ 66 := fun k u v t => by
    have aCb := aC1 k
    have q := sh4.2.2.1 k u v
    rw [mx_lo (by omega)] at q
    have q2 := (q.2.2 t).2.1.1
    have q3 : mx D4 A0 (aC 1 k + 2) 1 = D4 (aC 1 k + 2) 1 := mx_lo (by omega)
    rw [← q3, q2.1]; exact q2.2.2.1
  have h55 : 0 ≤ D4 980 5 ∧ D4 980 5 ≤ 24 := by
    have o := sh4.2.2.2.1
    rw [mx_lo (by omega)] at o
    exact ⟨o.1, o.2.1⟩
  have chQ : ∀ A4, RQ c B D4 A4 → chP D4 A4 f ∧ ((D4 1956 11 = 0 ∨ D4 1956 11 = 1) ∧ (A4 1977 51 = 0 ↔ D4 1956 11 ≠ 0)) := fun A4 hQ => by
    obtain ⟨_, q2, _, _, q5⟩ := hQ
    rcases q5 with q | q
    · omega
    · have := q.2.2.2.2
      rw [d4s, show f + 1 - 1 = f from by omega] at this
      exact ⟨this, q2⟩
  have go : ∀ A, RC c T n a B D A → ∀ (K' : tD → Int → Prop) (E' : tD → Nat → Prop), (∀ A4, lrM A4 T n p S ex → frV A A4 → RQ c B D4 A4 → A4 1977 46 = -1 → A4 1977 61 = 0 → (whO D4 a = (0, 0) → CW sc w kd A4 K' E') ∧ (whO D4 a = (0, 1) → D4 980 5 < 24 → ∀ A5, mkP (wr A4 1977 50 (24 + D4 980 5)) A5 (24 + D4 980 5) (8 + f) (-1) S.flatten → CW sc w kd (nwA A5) K' E') ∧ ((whO D4 a).1 ≠ 0 → K' (fl A4 (whO D4 a).1 (whO D4 a).2) 0)) → WP sc 271 0 A [(0, (1211, 1977))] [] K' E' := fun A hA K' E' h => by
    refine u_front hA hok ⟨f0, f1, f2⟩ n1 hkd hw (fun y => absurd zw (by omega)) (fun _ e => absurd e1 e) (fun _ _ A4 q1 q2 => ?_)
    rw [hp, hS, hX] at q1
    have j4 : frJ A A4 := frJ_tr (frJ_wr (by omega)) (frJ_X q2)
    have hQ : RQ c B D4 A4 := RQ_fr (RQ_of hA) fI j4
    have e46 : A4 1977 46 = -1 := by rw [q2 _ _ (by omega) (by omega) (by omega) (by omega), wr_ni (by omega)]; exact hA.2.2.1.1.2.2
    have e61 : A4 1977 61 = 0 := by rw [q2 _ _ (by omega) (by omega) (by omega) (by omega), wr_ni (by omega)]; exact hA.2.2.1.2.2
    obtain ⟨r1, r2, r3⟩ := h A4 q1 (frV_tr (frV_wr (by omega)) (frV_X q2)) hQ e46 e61
    obtain ⟨x1, x2⟩ := chQ A4 hQ
    have wf := w_facts (D := D4) (A := A4) x1 (by rw [d4F]; exact kb) x2 hor4
    rw [d4F] at wf
    refine u_whose (D := D4) (a := a) (f := f) (S := S) (B := B) hok4 hQ ⟨d4s, f1, f2⟩ (by omega) q1.1.1.2.2 l4.2.1 hl q1.2.1.1 (w := w) d49 (by rw [d49]; exact wf.2.1) (by rw [d49]; exact wf.2.2.1) (by rw [d4F]; exact wf.1.2.1) (fun y => ?_) (fun y lt A5 hm => ?_) (fun y => ?_)
    · rw [if_neg (show ¬ (1 : Int) = 0 by decide)]; exact r1 y
    · rw [if_neg (show ¬ (1 : Int) = 0 by decide)]; exact r2 y lt A5 hm
    · rw [if_pos rfl]; exact r3 y
  have h6 : D4 1956 6 = -1 ∨ ∃ k, (0 ≤ k ∧ k < 24) ∧ D4 1956 6 = aC 1 k ∧ D4 (aC 1 k + 2) 1 ≤ 66 := by
    rcases (chQ A0 hQ0).1 with g | ⟨k, g⟩
    · exact Or.inl g.1.1
    · exact Or.inr ⟨k, ⟨g.1.1, g.1.2.1⟩, g.2.1.1, h66 k g.1.1 g.1.2.1 g.2.1.2.2.1⟩
  have hct : ∀ k, 0 ≤ k → k < 24 → ((D4 (aC 1 k) 3 = 0 ∨ D4 (aC 1 k) 3 = 1) ∧ (D4 (aC 1 k) 3 = 1 ↔ k < D4 980 5)) := fun k u v => by
    have aCb := aC1 k
    have q := (sh4.2.2.1 k u v).2.1
    rw [mx_lo (by omega)] at q
    exact ⟨q, hQ0.2.2.2.1 k u v⟩
  obtain ⟨q, l, hql, hq12⟩ : ∃ (q : Int) (l : List Int), ((w = 3 ∨ kd = 4) → ex = some (q, l)) ∧ (kd = 4 → (l.length : Int) ≤ 12) := by
    rcases ex with _ | ⟨q, l⟩
    · refine ⟨0, [], fun y => absurd rfl (eX y), fun y => by simp⟩
    · exact ⟨q, l, fun _ => rfl, fun y => x12 y q l rfl⟩
  have mq : ∀ A4, lrM A4 T n p S ex → A4 1977 46 = -1 → A4 1977 61 = 0 → MQp T n p D4 A4 := fun A4 q1 q2 q3 => by
    refine ⟨⟨l4.1, q1.1⟩, ⟨?_, ?_, q2⟩, ?_, q3, ?_⟩
    · rw [o4 _ _ (by omega), o1c _ (by omega)]; exact hR0.2.2.1.1.1
    · rw [o4 _ _ (by omega), o1c _ (by omega)]; exact hR0.2.2.1.1.2.1
    · rw [o4 _ _ (by omega), o1 _ _ (by omega) (by omega)]; exact hR0.2.2.1.2.1
    · rw [o4 _ _ (by omega)]; exact d117
  refine t_whose (a := a) (S := S) d48 l4.2.1 hl h6 h66 h55 hct (fun ew sm => ?_) (fun ew lt D5 hb5 => ?_) (fun ew => ?_)
  · rw [if_neg (show ¬ (1 : Int) = 0 by decide)]
    obtain ⟨k, ms0, _⟩ := MS_same hQ0 ⟨d4s, f1, f2⟩ sm.1
    have hg := wh_00 ew
    rw [d49] at hg
    refine hT D4 p f k w q l pa hb.2 z4 (by rw [r10, d4F]; exact h10) ?_
    rw [d4F]
    intro A hA K' E' hC
    refine go A hA K' E' (fun A4 q1 v4 hQ q46 q61 => ⟨fun _ => ?_, fun y => ?_, fun y => ?_⟩)
    · obtain ⟨k', ms, c4⟩ := MS_same hQ ⟨d4s, f1, f2⟩ sm.1
      have ek : k' = k := by
        have := ms.2.2.1.1.2.2
        have := ms0.2.2.1.1.2.2
        omega
      subst ek
      refine hC A4 v4 ⟨mq A4 q1 q46 q61, ⟨ms, ⟨?_, c4.2.2.2.2.2.2.1.2.1, ?_⟩, c4.2.2.2.2.2.2.2.1, d49⟩, KD_same c4 (by rw [d4F]; exact kb) (chQ A4 hQ).2.2 hor4 hg, fun y => ?_, fun y => ?_⟩
      · have := c4.2.2.2.2.2.2.1.1; omega
      · have := c4.2.2.2.2.2.2.1.2.2; omega
      · rw [d4F] at y
        have e := hql y
        have lc := l4.2.2
        have lm := q1.2.2
        rw [e] at lc lm
        exact XD_of lc lm
      · rw [d4F] at y; exact hq12 y
    · rw [y] at ew; exact absurd (congrArg Prod.snd ew) (by decide)
    · rw [ew] at y; exact absurd rfl y
  · rw [if_neg (show ¬ (1 : Int) = 0 by decide)]
    have nw := wh_01 ew
    rw [d49] at nw
    rw [d47] at hb5
    have main : ∀ A4 A5, RQ c B D4 A4 → mkP (wr A4 1977 50 (24 + D4 980 5)) A5 (24 + D4 980 5) (8 + f) (-1) S.flatten → _ := fun A4 A5 hQ hm => MS_new (D := D4) (A := A4) (D1 := D5) (A1 := A5) (B := B) (f := f) (k := D4 980 5) (x := if D4 1956 6 = -1 then 1 else 0) (w := w) (S := S) hQ ⟨d4s, f1, f2⟩ ⟨rfl, h55.1, lt⟩ so.2.2.1 hl hb5 hm rfl d49 ((chQ A4 hQ).2.2.mpr (fun y => nw (Or.inr y))) ((w_facts (D := D4) (A := A4) (chQ A4 hQ).1 (by rw [d4F]; exact kb) (chQ A4 hQ).2 hor4).2.2.2 (fun y => nw (Or.inr y)) (fun y => nw (Or.inl y))) (by rw [d4F]; exact kb)
    have zn : ∀ x j, x < 980 ∨ (1954 < x ∧ x ≠ 1956) ∨ (x = 1956 ∧ j ≠ 13 ∧ j ≠ 6 ∧ j ≠ 15 ∧ j ≠ 16) → nwD D5 (D4 980 5) (if D4 1956 6 = -1 then 1 else 0) x j = D4 x j := fun x j u => by
      have aCb := aC1 (D4 980 5)
      unfold nwD newC
      by_cases y : x = 1956
      · subst y
        rw [wr_ni (by omega), wr_ni (by omega), wr_ni (by omega), wr_ni (by omega), wr_ne (by omega), wr_ne (by omega), hb5.2.2.2 _ _ (by omega)]
      · rw [wr_ne y, wr_ne y, wr_ne y, wr_ne y, wr_ne (by omega), wr_ne (by omega), hb5.2.2.2 _ _ (by omega)]
    have zF5 : nwD D5 (D4 980 5) (if D4 1956 6 = -1 then 1 else 0) (aF 1 f) 5 = kd := by
      have aCb := aC1 (D4 980 5)
      unfold nwD newC
      rw [wr_ne (by omega), wr_ne (by omega), wr_ne (by omega), wr_ne (by omega), wr_ne (by omega), wr_ne (by omega), hb5.2.2.2 _ _ (by omega)]
      exact d4F
    refine hT (nwD D5 (D4 980 5) (if D4 1956 6 = -1 then 1 else 0)) p f (D4 980 5) w q l pa hb.2 (frZ_tr z4 (fun x j u => zn x j (by omega))) (by rw [zn _ _ (by omega), r10, zF5]; exact h10) ?_
    rw [zF5]
    intro A hA K' E' hC
    refine go A hA K' E' (fun A4 q1 v4 hQ q46 q61 => ⟨fun y => ?_, fun _ _ A5 hm => ?_, fun y => ?_⟩)
    · rw [y] at ew; exact absurd (congrArg Prod.snd ew) (by decide)
    · obtain ⟨m1, m2, m3, m4, m5, m6, m7⟩ := main A4 A5 hQ hm
      have mq4 := mq A4 q1 q46 q61
      refine hC (nwA A5) (frV_tr v4 m5) ⟨⟨⟨cu_to mq4.1.1 mq4.1.1.2.2.1 (m4 _ _ (by omega)) (by rw [m4 _ _ (by omega)]; exact mq4.1.1.1.2) (fun x j u => m4 _ _ (by omega)), mu_to mq4.1.2 ⟨mq4.1.2.2.1.1, mq4.1.2.2.1.2.1⟩ (by rw [m6 _ (by omega) (by omega) (by omega) (by omega) (by omega)]; exact mq4.1.2.1.1) (m6 _ (by omega) (by omega) (by omega) (by omega) (by omega)) (m6 _ (by omega) (by omega) (by omega) (by omega) (by omega)) (fun j => m7 _ _ (by omega))⟩, ⟨by rw [m4 _ _ (by omega)]; exact mq4.2.1.1, by rw [m4 _ _ (by omega)]; exact mq4.2.1.2.1, by rw [m6 _ (by omega) (by omega) (by omega) (by omega) (by omega)]; exact q46⟩, by rw [m4 _ _ (by omega)]; exact mq4.2.2.1, by rw [m6 _ (by omega) (by omega) (by omega) (by omega) (by omega)]; exact q61, by rw [m4 _ _ (by omega)]; exact mq4.2.2.2.2⟩, m1, m2, fun y => ?_, fun y => ?_⟩
      · rw [zF5] at y
        have e := hql y
        have lc := l4.2.2
        have lm := q1.2.2
        rw [e] at lc lm
        exact XD_fr (XD_of lc lm) (m4 _ _ (by omega)) (fun x j u => m4 _ _ (by omega)) ⟨m6 _ (by omega) (by omega) (by omega) (by omega) (by omega), m6 _ (by omega) (by omega) (by omega) (by omega) (by omega), m6 _ (by omega) (by omega) (by omega) (by omega) (by omega)⟩ (fun j => m7 _ _ (by omega))
      · rw [zF5] at y; exact hq12 y
    · rw [ew] at y; exact absurd rfl y
  · rw [if_pos rfl]
    refine hN _ (frZ_tr z4 frZ_fc) (fun A hA K' E' hK' => ?_)
    refine go A hA K' E' (fun A4 q1 v4 hQ q46 q61 => ⟨fun y => ?_, fun y => ?_, fun _ => ?_⟩)
    · rw [y] at ew; exact absurd rfl ew
    · rw [y] at ew; exact absurd rfl ew
    · refine hK' _ (lnP_bd (frV_tr v4 frV_fl) ⟨by rw [fc_2, fl_45], by rw [fc_3, fl_46]⟩ ?_ ?_)
      · have := wh_pos (D := D4) (a := a)
        rw [fl_45]; omega
      · have e22 : (fl A4 (whO D4 a).1 (whO D4 a).2) 1977 22 = A4 1977 22 := by
          unfold fl
          rw [wr_ni (by omega), wr_ni (by omega)]
        rw [e22]
        have := hQ.2.2.1
        omega
end FRP
