/-! reading a sample: its child, the other side's line -/
section WHN
variable {sc : Nat × (Nat → Int32)} {D D' A A' : tD} {K : tD → Int → Prop} {E : tD → Nat → Prop} {T : Int → Int} {n c : Int}
theorem fc_iff1 {f k : Int} {S : List (List Int)} (hok : okD D) (hsh : shR c (mx D A) 1) (hk : 0 ≤ k ∧ k < 24) (hS : lsIs D 1959 S) : fcM A 1 (8 + f) S.flatten k ↔ fcC D 1 f 1959 k := by
  have aCb := aC1 k
  have q := hsh.2.2.1 k hk.1 hk.2
  rw [mx_lo (by omega), mx_hi (by omega), show (24 : Int) * 1 + k = 24 + k from by omega] at q
  unfold fcM fcC
  rw [show (24 : Int) * 1 + k = 24 + k from by omega, ← q.1, show (1959 : Int) + 1 = 1960 from rfl]
  have own : D (aC 1 k) 3 = 1 → (A 1995 (24 + k) = 8 + f ↔ D (aC 1 k) 4 = f) := fun t => by
    have q2 := (q.2.2 t).1.2.2
    rw [mx_hi (x := 1995) (by omega), mx_lo (x := aC 1 k) (by omega), show (24 : Int) * 1 + k = 24 + k from by omega] at q2
    omega
  exact ⟨fun ⟨h1, h2, h3⟩ => ⟨h1, (own h1).mp h2, (ck_iff hok hk (q.2.2 h1) hS).mpr h3⟩, fun ⟨h1, h2, h3⟩ => ⟨h1, (own h1).mpr h2, (ck_iff hok hk (q.2.2 h1) hS).mp h3⟩⟩
/-- how many children there are, on the other side -/
theorem cn_eq (hsh : shR c (mx D A) 1) : sm (thM A 1) 24 = D 980 5 := by
  have o := hsh.2.2.2.1.2.2
  rw [mx_lo (by omega)] at o
  have o2 : sm (fun k => mx D A (aC 1 k) 3) 24 = D 980 5 := o
  rw [← o2]
  refine sm_ext (fun k u v => ?_)
  have q := (hsh.2.2.1 k u (by omega))
  have aCb := aC1 k
  unfold thM
  rw [mx_lo (by omega), mx_hi (by omega)] at q
  rw [mx_lo (by omega)]
  have q1 := q.1
  have q2 := q.2.1
  first
    | exact q1.symm
    | (rw [← q1]; split <;> omega)
theorem u_whose {a f : Int} {S : List (List Int)} {B : Int} (hok : okD D) (hQ : RQ c B D A) (hf : D 980 4 = f + 1 ∧ 0 ≤ f ∧ f < 8) (hB : B ≤ 100000) (h45 : A 1977 45 = 0) (hS : lsIs D 1959 S) (hl : S.flatten.length ≤ 66) (hM : setIs A S.flatten) {w : Int} (h9 : D 1956 9 = w) (hgo : (w = 2 ∨ w = 4 ∨ w = 5 ∨ (w = 3 ∧ A 1977 51 = 1) ∨ (w = 0 ∧ A 1977 51 = 4)) ↔ (D 1956 9 = 2 ∨ D 1956 11 = 0)) (hch : (D 1956 9 = 2 ∨ D 1956 11 = 0) → D 1956 6 ≠ -1) (hw4 : D (aF 1 f) 5 = 4 → w = 0) (hT : whO D a = (0, 0) → K A 1) (hW : whO D a = (0, 1) → D 980 5 < 24 → ∀ A1, mkP (wr A 1977 50 (24 + D 980 5)) A1 (24 + D 980 5) (8 + f) (-1) S.flatten → K (wr (wr (wr A1 1977 53 0) 1977 55 0) 1977 54 0) 1) (hN : (whO D a).1 ≠ 0 → K (fl A (whO D a).1 (whO D a).2) 0) : WP sc 272 0 A [(0, (1211, 1977)), (1, (0, a)), (2, (0, w))] [] K E := by
  obtain ⟨⟨hsh, hc0⟩, hwh, h22, hct, hfm⟩ := hQ
  obtain ⟨f0, f1, f2⟩ := hf
  rcases hfm with g | ⟨g1, g2, g3, g4, g5⟩
  · omega
  rw [f0, show f + 1 - 1 = f from by omega] at g2 g3 g4 g5
  have h5 : 0 ≤ D 980 5 ∧ D 980 5 ≤ 24 := by
    have o := hsh.2.2.2.1
    rw [mx_lo (by omega)] at o
    exact ⟨o.1, o.2.1⟩
  have bad : ∀ cd, whO D a = (cd, a) → cd ≠ 0 → K (fl A cd a) 0 := fun cd e ne => by
    rw [e] at hN
    exact hN ne
  have h66 : ∀ k, 0 ≤ k → k < 24 → A 1994 (24 * 1 + k) = 1 → A 1998 (24 * 1 + k) ≤ 66 := fun k u v t => by
    have q := hsh.2.2.1 k u v
    have aCb := aC1 k
    rw [mx_lo (by omega), mx_hi (by omega)] at q
    have q2 := (q.2.2 (by rw [q.1]; exact t)).2.1.1.2.2.1
    rw [mx_hi (by omega)] at q2
    exact q2
  have fresh : (whO D a = cif (∃ k, (0 ≤ k ∧ k < 24) ∧ fcC D 1 (D 1956 7) 1959 k) (9, a) (cif (D 980 5 = 24) (14, a) (0, 1))) → WP sc 200 0 A [(0, (1211, 1977)), (1, (0, 1)), (2, (0, A 1977 48))] [] (fun D1 r2 => if r2 < 0 then (WP sc 202 0 D1 [(0, (1211, 1977)), (1, (0, 1))] [] (fun D4 r5 => if r5 = 24 then (WP sc 251 0 D4 [(0, (1211, 1977)), (1, (0, 14)), (2, (0, a))] [] (fun D7 r8 => tbl r8 (K D7 r8)) E) else (WP sc 219 0 (wr D4 1977 50 (w32 (24 + r5))) [(0, (1211, 1977)), (1, (0, (wr D4 1977 50 (w32 (24 + r5))) 1977 50)), (2, (0, (wr D4 1977 50 (w32 (24 + r5))) 1977 48)), (3, (1, (-1)))] [] (fun D10 _ => K (wr (wr (wr D10 1977 53 0) 1977 55 0) 1977 54 0) 1) E)) E) else (WP sc 251 0 D1 [(0, (1211, 1977)), (1, (0, 9)), (2, (0, a))] [] (fun D13 r14 => tbl r14 (K D13 r14)) E)) E := fun ew => by
    rw [g3] at ew
    refine m_finds (s := 1) (l := S.flatten) (Or.inr rfl) hM h66 (fun r hr => ?_)
    rw [g4] at hr
    rcases hr with ⟨r1, r2⟩ | ⟨r1, r2, r3, _⟩
    · rw [if_pos r1, if_pos (by omega)]
      have nx : ¬ ∃ k, (0 ≤ k ∧ k < 24) ∧ fcC D 1 f 1959 k := fun ⟨k, u, v⟩ => r2 k u.1 u.2 ((fc_iff1 hok hsh u hS).mpr v)
      rw [cif_neg nx] at ew
      refine m_chIn (s := 1) (Or.inr rfl) ?_
      rw [cn_eq hsh]
      by_cases z : D 980 5 = 24
      · rw [if_pos z]
        rw [cif_pos z] at ew
        exact u_fails h45 (bad 14 ew (by omega))
      · rw [if_neg z, w32_id (x := 24 + D 980 5) (by omega) (by omega), wr_self]
        rw [cif_neg z] at ew
        have e48 : (wr A 1977 50 (24 + D 980 5)) 1977 48 = 8 + f := by rw [wr_ni (by omega)]; exact g4
        rw [e48]
        refine m_makes ⟨by omega, by omega⟩ ⟨by omega, by omega⟩ (l := S.flatten) ⟨by rw [wr_ni (by omega)]; exact hM.1, atL_fr (fun j _ _ => wr_ne (by omega)) hM.2⟩ hl (by rw [wr_ni (by omega)]; omega) (fun A1 hm => ?_)
        exact hW ew (by omega) A1 hm
    · rw [if_neg (show ¬ r = -1 from by omega), if_neg (by omega)]
      rw [cif_pos ⟨r, ⟨r1, r2⟩, (fc_iff1 hok hsh ⟨r1, r2⟩ hS).mp r3⟩] at ew
      exact u_fails h45 (bad 9 ew (by omega))
  /- the child that is being read -/
  have chd : D 1956 6 ≠ -1 → ∃ k, (0 ≤ k ∧ k < 24) ∧ D 1956 6 = aC 1 k ∧ A 1977 50 = 24 + k ∧ A 1998 (24 + k) ≤ 66 ∧ (smQ D ↔ isS A (24 + k) S.flatten) ∧ ch1 D A f k := fun ne => by
    rcases g5 with g | ⟨k, g⟩
    · exact absurd g.1.1 ne
    · have hk : 0 ≤ k ∧ k < 24 := ⟨g.1.1, g.1.2.1⟩
      have aCb := aC1 k
      have q := hsh.2.2.1 k hk.1 hk.2
      rw [mx_lo (by omega), mx_hi (by omega)] at q
      have cr := q.2.2 g.2.1.2.2.1
      refine ⟨k, hk, g.2.1.1, g.2.1.2.1, ?_, ?_, g⟩
      · have := h66 k hk.1 hk.2 (by rw [← q.1]; exact g.2.1.2.2.1)
        rw [show (24 : Int) * 1 + k = 24 + k from by omega] at this
        exact this
      · rw [← ck_iff hok hk cr hS]
        unfold smQ
        rw [g.2.1.1, show aC 1 k + 1 + 1 = aC 1 k + 2 from by omega]
        exact ⟨fun w => w.2, fun w => ⟨by omega, w⟩⟩
  have goes : (w = 2 ∨ w = 4 ∨ w = 5 ∨ (w = 3 ∧ A 1977 51 = 1) ∨ (w = 0 ∧ A 1977 51 = 4)) → WP sc 199 0 A [(0, (1211, 1977)), (1, (0, A 1977 50))] [] (fun D1 r2 => if r2 = 0 then (WP sc 251 0 D1 [(0, (1211, 1977)), (1, (0, 10)), (2, (0, a))] [] (fun D4 r5 => if r5 = 0 then (K D4 0) else (K D4 1)) E) else (K D1 1)) E := fun hg => by
    have hg2 := hgo.mp hg
    obtain ⟨k, hk, e6, e50, e66, eiff, _⟩ := chd (hch hg2)
    rw [e50]
    refine m_isSet (l := S.flatten) ⟨by omega, by omega⟩ hM e66 (fun q => ?_) (fun q => ?_)
    · rw [if_neg (by omega)]
      exact hT (by unfold whO; rw [cif_pos hg2, cif_pos (eiff.mpr q)])
    · rw [if_pos rfl]
      refine u_finds h45 ?_
      rw [if_pos rfl]
      exact bad 10 (by unfold whO; rw [cif_pos hg2, cif_neg (fun y => q (eiff.mp y))]) (by omega)
  have fa := hsh.2.1 f f1 (by rw [mx_lo (by omega)]; show f < D 980 4; omega)
  have aFb := aF1 f
  have k80 : A 1980 (A 1977 48) = D (aF 1 f) 5 := by
    have q := fa.1.1
    rw [mx_lo (by omega), mx_hi (by omega), show (8 : Int) * 1 + f = 8 + f from by omega] at q
    rw [g4]; exact q.symm
  have rest : ¬ (w = 2 ∨ w = 4 ∨ w = 5 ∨ (w = 3 ∧ A 1977 51 = 1) ∨ (w = 0 ∧ A 1977 51 = 4)) → WP sc 272 44 A [(0, (1211, 1977)), (1, (0, a)), (2, (0, w))] [] K E := fun ng => by
    have nw : ¬ (D 1956 9 = 2 ∨ D 1956 11 = 0) := fun y => ng (hgo.mpr y)
    have ew : ¬ (D 1956 14 ≠ 0 ∧ smQ D) → whO D a = cif (∃ k, (0 ≤ k ∧ k < 24) ∧ fcC D 1 (D 1956 7) 1959 k) (9, a) (cif (D 980 5 = 24) (14, a) (0, 1)) := fun y => by unfold whO; rw [cif_neg nw, cif_neg y]
    refine v272_44 ?_
    rw [k80]
    by_cases k4 : D (aF 1 f) 5 = 4
    · rw [if_pos (hw4 k4)]
      refine ⟨by omega, ?_⟩
      rw [if_pos k4]
      by_cases z6 : D 1956 6 = -1
      · have e50 : A 1977 50 = -1 := by
          rcases g5 with g | ⟨k, g⟩
          · exact g.1.2
          · have := g.2.1.1; have := aC1 k; have := g.1; omega
        rw [if_pos (by omega)]
        exact fresh (ew (fun y => y.2.1 z6))
      · obtain ⟨k, hk, e6, e50, e66, eiff, hch1⟩ := chd z6
        have fi := fi_iff hsh ⟨f1, f2, g4⟩ hch1 hct
        have e14 := hch1.2.2.2.2.2.1
        rw [if_neg (by omega), e50]
        refine u_first hk (fun q => ?_) (fun q => ?_)
        · rw [if_neg (by omega), e50]
          have f13 := fi.mp q
          rw [if_pos ⟨f13, k4⟩] at e14
          refine m_isSet (l := S.flatten) ⟨by omega, by omega⟩ hM e66 (fun y => ?_) (fun y => ?_)
          · rw [if_neg (by omega)]
            exact hT (by unfold whO; rw [cif_neg nw, cif_pos ⟨by omega, eiff.mpr y⟩])
          · rw [if_pos rfl]
            exact fresh (ew (fun v => y (eiff.mp v.2)))
        · rw [if_pos rfl]
          rw [if_neg (fun y => q (fi.mpr y.1))] at e14
          exact fresh (ew (fun v => v.1 e14))
    · have nn : ¬ (D 1956 14 ≠ 0 ∧ smQ D) := fun y => by
        obtain ⟨k, hk, e6, e50, e66, eiff, hch1⟩ := chd y.2.1
        have e14 := hch1.2.2.2.2.2.1
        rw [if_neg (fun v => k4 v.2)] at e14
        exact y.1 e14
      by_cases z0 : w = 0
      · rw [if_pos z0]
        refine ⟨by omega, ?_⟩
        rw [if_neg k4]
        exact fresh (ew nn)
      · rw [if_neg z0]
        exact fresh (ew nn)
  refine v272_0 ?_
  by_cases z2 : w = 2
  · rw [if_pos z2]; exact goes (by omega)
  rw [if_neg z2]
  by_cases z4 : w = 4
  · rw [if_pos z4]; exact goes (by omega)
  rw [if_neg z4]
  by_cases z5 : w = 5
  · rw [if_pos z5]; exact goes (by omega)
  rw [if_neg z5]
  by_cases z3 : w = 3
  · rw [if_pos z3]
    by_cases d1 : A 1977 51 = 1
    · rw [if_pos d1]; exact goes (by omega)
    · rw [if_neg d1, if_neg (by omega)]; exact rest (by omega)
  · rw [if_neg z3]
    by_cases z0 : w = 0
    · rw [if_pos z0]
      by_cases d4 : A 1977 51 = 4
      · rw [if_pos d4]; exact goes (by omega)
      · rw [if_neg d4]; exact rest (by omega)
    · rw [if_neg z0]; exact rest (by omega)
end WHN
