/-! reading a sample: its name, its labels, its child, both sides: the walk -/
section FRO
variable {sc : Nat × (Nat → Int32)} {D D' A A' A0 : tD} {K : tD → Int → Prop} {E : tD → Nat → Prop} {T : Int → Int} {n c : Int}
/-- a fault of both -/
theorem lnP_bd {a B : Int} (hR : frV A A') (hd : D' 1957 2 = A' 1977 45 ∧ D' 1957 3 = A' 1977 46) (ho : 0 < A' 1977 45) (h22 : (0 ≤ B ∧ B ≤ A' 1977 22) ∧ A' 1977 22 ≤ B + 24) : lnP c T n a B 0 D' A A' := ⟨hR, Or.inr (Or.inr ⟨rfl, hd.1, hd.2, ho, h22.1, h22.2⟩)⟩
theorem RC_22 {a B : Int} (hR : RC c T n a B D A) : (0 ≤ B ∧ B ≤ A 1977 22) ∧ A 1977 22 ≤ B + 24 := by
  have h22 := hR.2.2.2.2.2.1
  have h5 : D 980 5 ≤ 24 := by
    have := hR.2.1.1.2.2.2.1.2.1
    rw [mx_lo (by omega)] at this
    exact this
  omega
theorem frV_M (h : frXf A A') : frV A A' := fun x j u => h x j (by omega) (by omega) (by omega) (by omega)
theorem frV_X (h : frX A A') : frV A A' := fun x j u => h x j (by omega) (by omega) (by omega) (by omega)
theorem frV_wr {i v : Int} (h : i ≠ 2 ∧ i ≠ 3 ∧ i ≠ 35 ∧ i ≠ 43) : frV A (wr A 1977 i v) := fun x j u => by
  by_cases e : x = 1977
  · subst e; exact wr_ni (by omega)
  · exact wr_ne e
theorem frV_fl {c p : Int} : frV A (fl A c p) := frV_tr (frV_wr (by omega)) (frV_wr (by omega))
theorem frZ_N (h : frN D D') : frZ D D' := fun x j u => h x j (by omega)
theorem sn_pos {a b fam w : Int} : 0 ≤ (snO n a b fam w).1 := by
  unfold snO
  repeat' split
  all_goals simp
/-- the other side up to the child -/
theorem u_front {a B f w kd : Int} {nF : List Int} (hA : RC c T n a B D A) (hok : okD D) (hf : D 980 4 = f + 1 ∧ 0 ≤ f ∧ f < 8) (hn : nmC D (aF 1 f) nF) (hkd : D (aF 1 f) 5 = kd) (hw : w = smW T a (lbE T n a) (D (aF 1 f + 2)) (D (aF 1 f + 1) 1) (D 1956 10) (D 1956 12)) (hN1 : w < 0 → K (fl (wr A 1977 47 (lbE T n a)) 2 a) 0) (hN2 : 0 ≤ w → (slO T n a (lbE T n a) w kd nF).1 ≠ 0 → ∀ A', A' 1977 45 = (slO T n a (lbE T n a) w kd nF).1 → A' 1977 46 = (slO T n a (lbE T n a) w kd nF).2 → frV A A' → A' 1977 22 = A 1977 22 → K A' 0) (hT : 0 ≤ w → (slO T n a (lbE T n a) w kd nF).1 = 0 → ∀ A', lrM A' T n (slL T n (lbE T n a) w kd nF).2.1 (slL T n (lbE T n a) w kd nF).2.2.1 (slL T n (lbE T n a) w kd nF).2.2.2 → frX (wr A 1977 47 (lbE T n a)) A' → WP sc 272 0 A' [(0, (1211, 1977)), (1, (0, a)), (2, (0, w))] [] (fun A2 r => if r = 0 then K A2 0 else CW sc w kd A2 K E) E) : WP sc 271 0 A [(0, (1211, 1977))] [] K E := by
  have hu := hA.1.2
  have cu2 := hu.2
  have aFb := aF1 f
  obtain ⟨f0, f1, f2⟩ := hf
  have rb := ru_b (s := 5) (T := T) (n := n) (a := a) (by omega)
  have eb : ru 5 T n a = lbE T n a := rfl
  rw [eb] at rb
  have hfm := hA.2.2.2.2.2.2.2
  have hsh := hA.2.1.1
  have h11 := hA.2.2.2.2.1
  rcases hfm with g | ⟨g1, g2, g3, g4, g5⟩
  · omega
  rw [f0, show f + 1 - 1 = f from by omega] at g2 g3 g4 g5
  have fa := hsh.2.1 f f1 (by rw [mx_lo (by omega)]; show f < D 980 4; omega)
  obtain ⟨nG, n1, n2, n3, n4⟩ := RC_name hok ⟨f1, f2⟩ fa
  have eG := nmC_uq n1 hn
  subst eG
  have k80 : A 1980 (8 + f) = kd := by
    have q := fa.1.1
    rw [mx_lo (by omega), mx_hi (by omega), show (8 : Int) * 1 + f = 8 + f from by omega] at q
    rw [← q]; exact hkd
  have kb : 0 ≤ kd ∧ kd ≤ 4 := by
    have q := fa.1.2
    rw [mx_lo (by omega)] at q
    rw [← hkd]; exact q
  have d79 : A 1979 1 = D 980 4 := by
    have g := hsh.1.1
    rw [mx_lo (by omega), mx_hi (by omega)] at g
    exact g.symm
  have l24 := n1.2.2.1
  have v1 : ∀ x j, ¬ (x = 1977 ∧ j = 47) → (wr A 1977 47 (lbE T n a)) x j = A x j := fun x j u => by
    by_cases y : x = 1977
    · subst y; exact wr_ni (by omega)
    · exact wr_ne y
  have h1 := mu_wr hu (b := lbE T n a) ⟨by omega, rb.2⟩
  have w48 : (wr A 1977 47 (lbE T n a)) 1977 48 = 8 + f := by rw [v1 _ _ (by omega)]; exact g4
  have nz : nzP (wr A 1977 47 (lbE T n a)) ((wr A 1977 47 (lbE T n a)) 1977 48) := by
    rw [w48]
    exact ⟨by omega, by rw [v1 _ _ (by omega), n2]; omega, by rw [v1 _ _ (by omega), n2]; omega⟩
  have due : wnt kd (A 1977 51) = D 1956 10 ∧ A 1977 52 = D 1956 12 := by
    rcases g5 with g | ⟨k, g⟩
    · rw [g.2.2.2.1, fpt_w, hkd, g.2.1.2]
      exact ⟨rfl, by rw [g.2.2.1.1, g.2.2.1.2]⟩
    · rw [g.2.2.2.1, hkd]
      exact ⟨rfl, g.2.2.1.2.1.symm⟩
  have ew : smW T a (lbE T n a) (nmf (wr A 1977 47 (lbE T n a)) (8 + f)) ((wr A 1977 47 (lbE T n a)) 1982 (8 + f)) (wnt ((wr A 1977 47 (lbE T n a)) 1980 (8 + f)) ((wr A 1977 47 (lbE T n a)) 1977 51)) ((wr A 1977 47 (lbE T n a)) 1977 52) = w := by
    rw [v1 1982 _ (by omega), v1 1980 _ (by omega), v1 1977 51 (by omega), v1 1977 52 (by omega), k80, due.1, due.2, n2, hw, n1.1]
    refine smW_ext (fun j u v => ?_)
    show (wr A 1977 47 (lbE T n a)) 1981 (24 * (8 + f) + j) = _
    rw [v1 _ _ (by omega)]
    have q := atL_eq n3 n1.2.1 j u v
    rw [show (0 : Int) + j = j from by omega] at q
    exact q
  refine v271_0 (u_names hu ?_)
  rw [eb]
  refine ⟨⟨by omega, by decide⟩, ?_⟩
  rw [v1 1979 1 (by omega), d79, if_neg (by omega)]
  rw [show (wr A 1977 47 (lbE T n a)) 1977 47 = lbE T n a from wr_self]
  refine u_wordOf (T := T) (n := n) (a := a) (b := lbE T n a) ⟨by omega, rb.1, by omega⟩ ⟨_, h1⟩ nz (by rw [w48, v1 _ _ (by omega), k80]; exact kb) ?_
  rw [w48, ew]
  by_cases zw : w < 0
  · rw [if_pos zw]
    exact u_fails h1.1.2.2 (hN1 zw)
  rw [if_neg zw]
  have hor : w = D 1956 10 ∨ (w = 2 ∧ D 1956 12 = 1) := by
    have q := smW_or (T := T) (a := a) (b := lbE T n a) (N := D (aF 1 f + 2)) (z := D (aF 1 f + 1) 1) (due := D 1956 10) (may := D 1956 12) (by rw [← due.1]; exact wnt_b.1) (by rw [← hw]; omega)
    rw [← hw] at q
    exact q
  have wf := (w_facts (D := D) (A := A) g5 (by rw [hkd]; exact kb) h11 hor).1
  rw [hkd] at wf
  refine u_slab (A := wr A 1977 47 (lbE T n a)) (a := a) (b := lbE T n a) (w := w) (kd := kd) (nF := nG) (Q := fun A' => WP sc 272 0 A' [(0, (1211, 1977)), (1, (0, a)), (2, (0, w))] [] (fun A2 r => if r = 0 then K A2 0 else CW sc w kd A2 K E) E) h1 (by rw [w48]; omega) ?_ (by rw [w48, v1 _ _ (by omega)]; exact k80) ⟨wf.1, wf.2.1, wf.2.2.1⟩ (fun e A' q1 q2 => hT (by omega) e A' q1 q2) (fun e A' q1 q2 q3 => hN2 (by omega) e A' q1 q2 (frV_tr (frV_wr (by omega)) (frV_M q3)) (by rw [q3 _ _ (by omega) (by omega) (by omega) (by omega)]; exact v1 _ _ (by omega))) (fun A' e h => ?_) (fun A' e e4 h => ?_) (fun A' e e4 h => ?_)
  · by_cases y3 : w = 3
    · exact Or.inl ⟨y3, by unfold slK; rw [if_pos y3]⟩
    by_cases y0 : w = 0
    · refine Or.inr (Or.inl ⟨y0, by rw [w48]; omega, ?_⟩)
      rw [w48, v1 _ _ (by omega), k80]
      by_cases y4 : kd = 4
      · refine Or.inl ⟨y4, by unfold slK; rw [if_neg y3, if_pos y4], Or.inr ⟨by omega, by omega, ?_, l24, ?_, n1.2.2.2.2⟩⟩
        · rw [v1 _ _ (by omega)]; exact n2
        · exact atL_fr (fun j _ _ => v1 _ _ (by omega)) n3
      · exact Or.inr ⟨y4, by unfold slK; rw [if_neg y3, if_neg y4]⟩
    · refine Or.inr (Or.inr ⟨y3, y0, ?_⟩)
      unfold slK
      rw [if_neg y3, if_neg (fun y => y0 (wf.2.1 y))]
  · unfold CW at h
    simp only [if_pos e] at h ⊢
    exact h
  · have n3' : ¬ w = 3 := by omega
    unfold CW at h
    simp only [if_neg n3', if_pos e4] at h ⊢
    exact h
  · unfold CW at h
    simp only [if_neg e, if_neg e4] at h ⊢
    exact h
/-- the other side where there is no family -/
theorem u_front0 {a B : Int} (hA : RC c T n a B D A) (hf : D 980 4 = 0) (hN : K (fl (wr A 1977 47 (lbE T n a)) 5 a) 0) : WP sc 271 0 A [(0, (1211, 1977))] [] K E := by
  have hu := hA.1.2
  have cu2 := hu.2
  have rb := ru_b (s := 5) (T := T) (n := n) (a := a) (by omega)
  have eb : ru 5 T n a = lbE T n a := rfl
  rw [eb] at rb
  have d79 : A 1979 1 = D 980 4 := by
    have g := hA.2.1.1.1.1
    rw [mx_lo (by omega), mx_hi (by omega)] at g
    exact g.symm
  have h1 := mu_wr hu (b := lbE T n a) ⟨by omega, rb.2⟩
  refine v271_0 (u_names hu ?_)
  rw [eb]
  refine ⟨⟨by omega, by decide⟩, ?_⟩
  rw [wr_ne (show (1979 : Int) ≠ 1977 by omega), d79, if_pos hf]
  exact u_fails h1.1.2.2 hN
end FRO
