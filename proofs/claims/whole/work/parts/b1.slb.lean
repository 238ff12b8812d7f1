/-! reading a sample: its labels -/
section SLB
variable {sc : Nat × (Nat → Int32)} {D D' A A' : tD} {K : tD → Int → Prop} {E : tD → Nat → Prop} {T : Int → Int} {n : Int}
/-- which extra label a part asks for -/
def slK (w kd : Int) : Int := if w = 3 then 2 else if kd = 4 then 4 else 0
noncomputable def slL (T : Int → Int) (n b w kd : Int) (nF : List Int) : Int × Int × List (List Int) × Option (Int × List Int) := if pb T n b = 123 then lbs T n (slK w kd) nF 3 5 (b + 1) [] none else (0, b, [], none)
noncomputable def slO (T : Int → Int) (n a b w kd : Int) (nF : List Int) : Int × Int := if (slL T n b w kd nF).1 ≠ 0 then ((slL T n b w kd nF).1, (slL T n b w kd nF).2.1) else if (w = 3 ∨ kd = 4) ∧ (slL T n b w kd nF).2.2.2 = none then (8, a) else (0, (slL T n b w kd nF).2.1)
theorem lrC_new {b : Int} (h : cu D 1957 1 T n b) : lrC (wr (wr (wr D 1960 1 0) 1959 1 0) 1958 5 (-1)) T n b [] none := by
  refine ⟨cu_to h h.2.2.1 (by rw [wr_ne (by omega), wr_ne (by omega), wr_ne (by omega)]) (by rw [wr_ne (by omega), wr_ne (by omega), wr_ne (by omega)]; exact h.1.2) (fun x j u => by rw [wr_ne (by omega), wr_ne (by omega), wr_ne (by omega)]), ⟨?_, ?_, trivial, fun x hx => absurd hx (by simp)⟩, Or.inl ⟨rfl, wr_self⟩⟩
  · rw [wr_ne (by omega), wr_self]; rfl
  · show (wr (wr (wr D 1960 1 0) 1959 1 0) 1958 5 (-1)) 1960 1 = _
    rw [wr_ne (by omega), wr_ne (by omega), wr_self]; rfl
theorem t_slab {a b w kd F : Int} {nF : List Int} (hc : cu D 1957 1 T n b) (hF5 : D 1956 5 = F) (hFb : 980 ≤ F ∧ F + 2 < 1953) (hF : nmC D F nF) (hk : D F 5 = kd) (h8 : D 1956 8 = a) (h9 : D 1956 9 = w) (hw : w = 3 → kd = 2) (hT : (slO T n a b w kd nF).1 = 0 → ∀ D', lrC D' T n (slL T n b w kd nF).2.1 (slL T n b w kd nF).2.2.1 (slL T n b w kd nF).2.2.2 → frY D D' → K D' 1) (hN : (slO T n a b w kd nF).1 ≠ 0 → ∀ D', D' 1957 2 = (slO T n a b w kd nF).1 → D' 1957 3 = (slO T n a b w kd nF).2 → frN D D' → K D' 0) : WP sc 137 0 D [(0, (1209, 1956))] [] K E := by
  have c := hc.2
  refine v137_0 (v83_0 (v76_0 ?_))
  show WP sc 44 0 (wr (wr (wr D 1960 1 0) 1959 1 0) 1958 5 (-1)) _ _ _ _
  have l0 := lrC_new hc
  have f0 : frY D (wr (wr (wr D 1960 1 0) 1959 1 0) 1958 5 (-1)) := frY_tr (frY_wr (by omega)) (frY_tr (frY_wr (by omega)) (frY_wr (by omega)))
  generalize wr (wr (wr D 1960 1 0) 1959 1 0) 1958 5 (-1) = D1 at *
  have frz : ∀ D2, frY D D2 → D2 1956 5 = F ∧ D2 1956 8 = a ∧ D2 1956 9 = w ∧ D2 F 5 = kd := fun D2 h => ⟨by rw [h _ _ (by omega)]; exact hF5, by rw [h _ _ (by omega)]; exact h8, by rw [h _ _ (by omega)]; exact h9, by rw [h _ _ (by omega)]; exact hk⟩
  /- does the part ask for an extra label -/
  have asks : ∀ D2 {Q : tD → Int → Prop}, frY D D2 → ((w = 3 ∨ kd = 4) → Q D2 1) → (¬ (w = 3 ∨ kd = 4) → Q D2 0) → WP sc 136 0 D2 [(0, (1209, 1956))] [] Q E := fun D2 {Q} h q1 q2 => by
    obtain ⟨g1, g2, g3, g4⟩ := frz D2 h
    refine v136_0 ?_
    rw [g3, g1, g4]
    by_cases z3 : w = 3
    · rw [if_pos z3]; exact q1 (Or.inl z3)
    rw [if_neg z3, if_neg (by omega)]
    by_cases z4 : kd = 4
    · rw [if_pos z4]; exact q1 (Or.inr z4)
    · rw [if_neg z4]; exact q2 (by omega)
  /- what comes after the labels -/
  have tail : ∀ D2, frY D D2 → (slL T n b w kd nF).1 = 0 → lrC D2 T n (slL T n b w kd nF).2.1 (slL T n b w kd nF).2.2.1 (slL T n b w kd nF).2.2.2 → WP sc 136 0 D2 [(0, (1209, 1956))] [] (fun D7 r8 => if r8 = 0 then (K D7 1) else (if D7 1958 5 < 0 then (WP sc 42 0 D7 [(0, (1202, 1957)), (1, (0, 8)), (2, (0, D7 1956 8))] [] (fun D10 r11 => if r11 = 0 then (K D10 0) else (K D10 1)) E) else (K D7 1))) E := fun D2 h e0 l => by
    unfold slO at hT hN
    rw [if_neg (fun w => w e0)] at hT hN
    have ex := exC_n l.2.2
    refine asks D2 h (fun q => ?_) (fun q => ?_)
    · rw [if_neg (by omega)]
      by_cases z : D2 1958 5 < 0
      · rw [if_pos z, (frz D2 h).2.1]
        rw [if_pos ⟨q, ex.mp z⟩] at hN
        refine v42_0 ?_
        rw [if_pos rfl]
        exact hN (show (8 : Int) ≠ 0 from by decide) _ fc_2 fc_3 (frN_tr h frN_fc)
      · rw [if_neg z]
        rw [if_neg (fun y => z (ex.mpr y.2))] at hT
        exact hT rfl D2 l h
    · rw [if_pos rfl]
      rw [if_neg (fun y => q y.1)] at hT
      exact hT rfl D2 l h
  have bad : ∀ D2, frN D D2 → (slL T n b w kd nF).1 ≠ 0 → D2 1957 2 = (slL T n b w kd nF).1 → D2 1957 3 = (slL T n b w kd nF).2.1 → K D2 0 := fun D2 h e0 q1 q2 => by
    unfold slO at hN
    rw [if_pos e0] at hN
    exact hN e0 D2 q1 q2 h
  refine t_passes (by omega) l0.1 (fun e => ?_) (fun e => ?_)
  · rw [if_neg (by omega)]
    have bn := pb_lt e (by omega)
    have eL : slL T n b w kd nF = lbs T n (slK w kd) nF 3 5 (b + 1) [] none := by unfold slL; rw [if_pos e]
    have l1 : lrC (wr D1 1957 1 (b + 1)) T n (b + 1) [] none := ⟨cu_wr l0.1 ⟨by omega, by omega⟩, lsIs_fr2 l0.2.1 (fun x j u => wr_ne (by omega)), exC_fr l0.2.2 (wr_ne (by omega)) (fun x j u => wr_ne (by omega))⟩
    have f1 : frY D (wr D1 1957 1 (b + 1)) := frY_tr f0 (frY_wr (by omega))
    generalize wr D1 1957 1 (b + 1) = D2 at *
    obtain ⟨g1, g2, g3, g4⟩ := frz D2 f1
    refine asks D2 f1 (fun q => ?_) (fun q => ?_)
    · rw [if_neg (by omega), g1, if_neg (by omega)]
      have ek : slK w kd = kd := by
        unfold slK
        rcases q with q | q
        · rw [if_pos q]; exact (hw q).symm
        · by_cases z3 : w = 3
          · rw [if_pos z3]; exact (hw z3).symm
          · rw [if_neg z3, if_pos q]; exact q.symm
      rw [ek] at eL
      have hF2 : nmC D2 F nF := by
        obtain ⟨y1, y2, y3, y4, y5⟩ := hF
        exact ⟨by rw [f1 _ _ (by omega)]; exact y1, atL_fr (fun j _ _ => f1 _ _ (by omega)) y2, y3, y4, y5⟩
      refine t_labs (kd := kd) (nF := nF) hF2 g4 ⟨by omega, by omega⟩ ⟨by omega, by omega⟩ l1 (fun e0 D3 l3 f3 => ?_) (fun e0 D3 q1 q2 f3 => ?_)
      · rw [if_neg (by omega)]
        exact tail D3 (frY_tr f1 f3) (by rw [eL]; exact e0) (by rw [eL]; exact l3)
      · rw [if_pos rfl]
        exact bad D3 (frN_tr f1 f3) (by rw [eL]; exact e0) (by rw [eL]; exact q1) (by rw [eL]; exact q2)
    · rw [if_pos rfl]
      have ek : slK w kd = 0 := by
        unfold slK
        rw [if_neg (fun y => q (Or.inl y)), if_neg (fun y => q (Or.inr y))]
      rw [ek] at eL
      refine t_labsN (nF := nF) ⟨by omega, by omega⟩ l1 (fun e0 D3 l3 f3 => ?_) (fun e0 D3 q1 q2 f3 => ?_)
      · rw [if_neg (by omega)]
        exact tail D3 (frY_tr f1 f3) (by rw [eL]; exact e0) (by rw [eL]; exact l3)
      · rw [if_pos rfl]
        exact bad D3 (frN_tr f1 f3) (by rw [eL]; exact e0) (by rw [eL]; exact q1) (by rw [eL]; exact q2)
  · rw [if_pos rfl]
    have eL : slL T n b w kd nF = (0, b, [], none) := by unfold slL; rw [if_neg e]
    exact tail D1 f0 (by rw [eL]) (by rw [eL]; exact l0)
theorem sl_ok {b w kd : Int} {nF : List Int} (hb : 0 ≤ b ∧ b ≤ n) (h : (slL T n b w kd nF).1 = 0) : (b ≤ (slL T n b w kd nF).2.1 ∧ (slL T n b w kd nF).2.1 ≤ n) ∧ lsO 3 (slL T n b w kd nF).2.2.1 (slL T n b w kd nF).2.2.2 := by
  unfold slL at h ⊢
  by_cases e : pb T n b = 123
  · rw [if_pos e] at h ⊢
    have := pb_lt e (by omega)
    obtain ⟨h1, h2⟩ := lbs_ok 5 (b + 1) [] none h ⟨by omega, by omega⟩ (lsO_nil (by omega))
    exact ⟨⟨by omega, h1.2⟩, h2⟩
  · rw [if_neg e]
    exact ⟨⟨Int.le_refl _, hb.2⟩, lsO_nil (by omega)⟩
/-! the other side -/
theorem lrM_new {b : Int} (h : mu A T n b) : lrM (wr (wr (wr (wr A 1977 37 0) 1977 62 0) 1977 63 0) 1977 64 0) T n b [] none := by
  refine ⟨mu_to h ⟨h.2.1.1, h.2.1.2.1⟩ (by rw [wr_ni (by omega), wr_ni (by omega), wr_ni (by omega), wr_ni (by omega)]; exact h.1.1) (by rw [wr_ni (by omega), wr_ni (by omega), wr_ni (by omega), wr_ni (by omega)]) (by rw [wr_ni (by omega), wr_ni (by omega), wr_ni (by omega), wr_ni (by omega)]) (fun j => by rw [wr_ne (by omega), wr_ne (by omega), wr_ne (by omega), wr_ne (by omega)]), ⟨⟨?_, trivial⟩, ?_, ?_⟩, Or.inl ⟨rfl, wr_self⟩⟩
  · rw [wr_ni (by omega), wr_ni (by omega), wr_ni (by omega), wr_self]; rfl
  · rw [wr_ni (by omega), wr_ni (by omega), wr_self]; rfl
  · rw [wr_ni (by omega), wr_self]; rfl
/-- the labels of a sample; Q: what comes when they stand -/
theorem u_slab {a b w kd : Int} {nF : List Int} {Q : tD → Prop} (hc : mu A T n b) (hn : 0 ≤ A 1977 48 ∧ A 1977 48 < 16) (hm : wmd A w (slK w kd) nF) (hk : A 1980 (A 1977 48) = kd) (hw : (w = 3 → kd = 2) ∧ (kd = 4 → w = 0) ∧ 0 ≤ w) (hT : (slO T n a b w kd nF).1 = 0 → ∀ A', lrM A' T n (slL T n b w kd nF).2.1 (slL T n b w kd nF).2.2.1 (slL T n b w kd nF).2.2.2 → frX A A' → Q A') (hN : (slO T n a b w kd nF).1 ≠ 0 → ∀ A', A' 1977 45 = (slO T n a b w kd nF).1 → A' 1977 46 = (slO T n a b w kd nF).2 → frXf A A' → K A' 0) {Q3 Q0 Q1 : tD → Prop} (h3 : ∀ A', w = 3 → Q A' → Q3 A') (h0 : ∀ A', w = 0 → kd = 4 → Q A' → Q0 A') (h1 : ∀ A', w ≠ 3 → kd ≠ 4 → Q A' → Q1 A') : WP sc 252 0 (wr (wr (wr (wr A 1977 37 0) 1977 62 0) 1977 63 0) 1977 64 0) [(0, (1211, 1977))] [] (fun D13 r14 => if r14 = 123 then (WP sc 267 0 (wr D13 1977 47 (w32 ((D13 1977 47) + 1))) [(0, (1211, 1977)), (1, (0, w))] [] (fun D16 r17 => if r17 = 0 then (K D16 0) else (if w = 3 then (0 ≤ D16 1977 64 ∧ D16 1977 64 ≤ 1 → (if D16 1977 64 = 0 then (WP sc 251 0 D16 [(0, (1211, 1977)), (1, (0, 8)), (2, (0, a))] [] (fun D19 r20 => tbl r20 (K D19 r20)) E) else Q3 D16)) else (if w = 0 then ((0 ≤ D16 1977 48 ∧ D16 1977 48 < 16) ∧ (if D16 1980 (D16 1977 48) = 4 then (0 ≤ D16 1977 64 ∧ D16 1977 64 ≤ 1 → (if D16 1977 64 = 0 then (WP sc 251 0 D16 [(0, (1211, 1977)), (1, (0, 8)), (2, (0, a))] [] (fun D31 r32 => tbl r32 (K D31 r32)) E) else Q0 D16)) else Q1 D16)) else Q1 D16))) E) else (if w = 3 then (0 ≤ D13 1977 64 ∧ D13 1977 64 ≤ 1 → (if D13 1977 64 = 0 then (WP sc 251 0 D13 [(0, (1211, 1977)), (1, (0, 8)), (2, (0, a))] [] (fun D49 r50 => tbl r50 (K D49 r50)) E) else Q3 D13)) else (if w = 0 then ((0 ≤ D13 1977 48 ∧ D13 1977 48 < 16) ∧ (if D13 1980 (D13 1977 48) = 4 then (0 ≤ D13 1977 64 ∧ D13 1977 64 ≤ 1 → (if D13 1977 64 = 0 then (WP sc 251 0 D13 [(0, (1211, 1977)), (1, (0, 8)), (2, (0, a))] [] (fun D61 r62 => tbl r62 (K D61 r62)) E) else Q0 D13)) else Q1 D13)) else Q1 D13))) E := by
  have c := hc.2
  have l0 := lrM_new hc
  have f0 : frX A (wr (wr (wr (wr A 1977 37 0) 1977 62 0) 1977 63 0) 1977 64 0) := frX_tr (frX_wr (by omega)) (frX_tr (frX_wr (by omega)) (frX_tr (frX_wr (by omega)) (frX_wr (by omega))))
  generalize wr (wr (wr (wr A 1977 37 0) 1977 62 0) 1977 63 0) 1977 64 0 = A1 at *
  have tail : ∀ A2, frX A A2 → (slL T n b w kd nF).1 = 0 → lrM A2 T n (slL T n b w kd nF).2.1 (slL T n b w kd nF).2.2.1 (slL T n b w kd nF).2.2.2 → (if w = 3 then (0 ≤ A2 1977 64 ∧ A2 1977 64 ≤ 1 → (if A2 1977 64 = 0 then (WP sc 251 0 A2 [(0, (1211, 1977)), (1, (0, 8)), (2, (0, a))] [] (fun D49 r50 => tbl r50 (K D49 r50)) E) else Q3 A2)) else (if w = 0 then ((0 ≤ A2 1977 48 ∧ A2 1977 48 < 16) ∧ (if A2 1980 (A2 1977 48) = 4 then (0 ≤ A2 1977 64 ∧ A2 1977 64 ≤ 1 → (if A2 1977 64 = 0 then (WP sc 251 0 A2 [(0, (1211, 1977)), (1, (0, 8)), (2, (0, a))] [] (fun D61 r62 => tbl r62 (K D61 r62)) E) else Q0 A2)) else Q1 A2)) else Q1 A2)) := fun A2 h e0 l => by
    unfold slO at hT hN
    rw [if_neg (fun w => w e0)] at hT hN
    have ex := exM_n l.2.2
    have d48 : A2 1977 48 = A 1977 48 := h _ _ (by omega) (by omega) (by omega) (by omega)
    have d80 : ∀ j, A2 1980 j = A 1980 j := fun j => h _ _ (by omega) (by omega) (by omega) (by omega)
    rw [d48, d80, hk]
    have ask : (w = 3 ∨ kd = 4) → ∀ {R : Prop}, (Q A2 → R) → (if A2 1977 64 = 0 then (WP sc 251 0 A2 [(0, (1211, 1977)), (1, (0, 8)), (2, (0, a))] [] (fun D49 r50 => tbl r50 (K D49 r50)) E) else R) := fun q {R} hr => by
      by_cases z : A2 1977 64 = 0
      · rw [if_pos z]
        rw [if_pos ⟨q, ex.mp z⟩] at hN
        exact u_fails l.1.1.2.2 (hN (show (8 : Int) ≠ 0 from by decide) _ fl_45 fl_46 (frXf_tr h frXf_fl))
      · rw [if_neg z]
        rw [if_neg (fun y => z (ex.mpr y.2))] at hT
        exact hr (hT rfl A2 l h)
    by_cases z3 : w = 3
    · rw [if_pos z3]
      exact fun _ => ask (Or.inl z3) (h3 A2 z3)
    · rw [if_neg z3]
      by_cases z4 : kd = 4
      · rw [if_pos (hw.2.1 z4)]
        refine ⟨hn, ?_⟩
        rw [if_pos z4]
        exact fun _ => ask (Or.inr z4) (h0 A2 (hw.2.1 z4) z4)
      · have fin : Q1 A2 := by
          rw [if_neg (fun y => by rcases y.1 with q | q <;> omega)] at hT
          exact h1 A2 z3 z4 (hT rfl A2 l h)
        by_cases z0 : w = 0
        · rw [if_pos z0]
          exact ⟨hn, by rw [if_neg z4]; exact fin⟩
        · rw [if_neg z0]; exact fin
  refine u_peek l0.1 ?_
  by_cases e : pb T n b = 123
  · rw [if_pos e, l0.1.1.1]
    have bn := pb_lt e (by omega)
    rw [w32_id (x := b + 1) (by omega) (by omega)]
    have eL : slL T n b w kd nF = lbs T n (slK w kd) nF 3 5 (b + 1) [] none := by unfold slL; rw [if_pos e]
    have l1 := lrM_wr l0 (b := b + 1) ⟨by omega, by omega⟩
    have f1 : frX A (wr A1 1977 47 (b + 1)) := frX_tr f0 (frX_wr (by omega))
    refine u_labs (kd := slK w kd) (nF := nF) (most := 3) (wmd_fr hm (fun x j u => f1 x j (by omega) (by omega) (by omega) (by omega))) (Or.inr ⟨hw.2.2, rfl⟩) l1 (fun e0 A3 l3 f3 => ?_) (fun e0 A3 q1 q2 f3 => ?_)
    · rw [if_neg (by omega)]
      exact tail A3 (frX_tr f1 f3) (by rw [eL]; exact e0) (by rw [eL]; exact l3)
    · rw [if_pos rfl]
      unfold slO at hN
      rw [eL] at hN
      have e1 : (lbs T n (slK w kd) nF 3 5 (b + 1) [] none).1 ≠ 0 := e0
      rw [if_pos e1] at hN
      exact hN e1 A3 q1 q2 (frXf_tr f1 f3)
  · rw [if_neg e]
    have eL : slL T n b w kd nF = (0, b, [], none) := by unfold slL; rw [if_neg e]
    exact tail A1 f0 (by rw [eL]) (by rw [eL]; exact l0)
end SLB
