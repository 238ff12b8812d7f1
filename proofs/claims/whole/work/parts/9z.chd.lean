/-! child: the class's side -/
section CHD
variable {sc : Nat × (Nat → Int32)} {D D' : tD} {K : tD → Int → Prop} {E : tD → Nat → Prop} {c : Int}
theorem tkP_lbl {T : Int → Int} {n most : Int} {S : List (List Int)} (h : tkP T n 0 most [] S) : ∀ y ∈ S, lbl y := by
  obtain ⟨g, g1, g2, g3⟩ := h
  have : ∀ {g : List (Int × Int)} {s : Int} {S0 S' : List (List Int)}, prsT T n g s → insAll (labsT T g s) S0 = some S' → (∀ y ∈ S0, lbl y) → ∀ y ∈ S', lbl y := by
    intro g
    induction g with
    | nil => intro s S0 S' _ h h0; simp only [labsT, insAll] at h; injection h with h; subst h; exact h0
    | cons q g ih =>
      intro s S0 S' hp h h0
      obtain ⟨m, e⟩ := q
      simp only [labsT, insAll] at h
      cases hi : insL (spn T s (e + 1 - s).toNat) S0 with
      | none => rw [hi] at h; exact absurd h (by simp)
      | some S1 =>
        rw [hi] at h
        refine ih hp.2 h (fun y hy => ?_)
        rcases (insL_mem hi y).mp hy with w | w
        · rw [w]; exact segT_lbl hp.1
        · exact h0 y w
  exact this g1 g3 (fun y h => absurd h (by simp))
/-- the labels of a child that may be, out of the tape -/
def chG (D : tD) (f : Int) (nF : List Int) (C S' : List (List Int)) : Prop := (0 ≤ f ∧ f < D 5 4) ∧ ∃ S, tkP (D 1978) (D 1977 2) 0 3 [] S ∧ (¬ ∃ x ∈ S, xtP (D (aF 0 f) 5) nF x) ∧ shP (D (aF 0 f) 5) nF C S S' ∧ S'.length ≤ 3
theorem shP_lbl {kd : Int} {nF : List Int} {C S S' : List (List Int)} (h : shP kd nF C S S') (hC : ∀ x ∈ C, lbl x) (hS : ∀ x ∈ S, lbl x) : ∀ x ∈ S', lbl x := by
  rcases h with ⟨a, b⟩ | ⟨y, a, b⟩
  · rw [b]; exact hS
  · have hy : lbl y := hC y (by rw [a]; simp)
    rcases b with ⟨b, e⟩ | ⟨b, ⟨_, e⟩ | e⟩
    · rw [e]; exact hS
    · rw [e]; exact hS
    · intro x hx
      rcases (insL_mem e x).mp hx with w | w
      · rw [w]; exact hy
      · exact hS x w
theorem shP_srt {kd : Int} {nF : List Int} {C S S' : List (List Int)} (h : shP kd nF C S S') (hC : ∀ x ∈ C, lbl x) (hS : ∀ x ∈ S, lbl x) (hs : srtL S) : srtL S' := by
  rcases h with ⟨a, b⟩ | ⟨y, a, b⟩
  · rw [b]; exact hs
  · have hy : lbl y := hC y (by rw [a]; simp)
    rcases b with ⟨b, e⟩ | ⟨b, ⟨_, e⟩ | e⟩
    · rw [e]; exact hs
    · rw [e]; exact hs
    · exact insL_srt e hs (lbl_1 hy) (fun x hx => lbl_1 (hS x hx))
theorem c_tcl {f : Int} {nF : List Int} {C : List (List Int)} (hok : okD D) (hR : RL RSc D c) (hf : 0 ≤ f ∧ f < D 5 4) (hn : nmC D (aF 0 f) nF) (hC : lsIs D 1971 C) (hC1 : C.length ≤ 1) (hT : ∀ S' D', chG D f nF C S' → lsIs D' 1974 S' → srtL S' → (∀ a j, a < 1974 ∨ 1976 < a → D' a j = D a j) → K D' 1) (hF : ∀ D', (¬ ∃ S', chG D f nF C S') → (∀ a j, a < 1974 ∨ 1976 < a → D' a j = D a j) → K D' 0) : WP sc 28 0 D [(0, (1200, 0)), (1, (1204, aF 0 f))] [] K E := by
  have h0 := hR.2.2.2.2.2.2.2.1
  have h8 := h0.1
  have eF : aF 0 f = 7 + 17 * f := by unfold aF; omega
  have l88 : ln 1976 = 88 := rfl
  have l22 : ln 1973 = 22 := rfl
  refine v28_0 (c_takeT hok hR (by omega) (fun S D1 h1 h2 h3 h4 => ?_) (fun D1 h1 h4 => ?_))
  · rw [if_neg (by omega)]
    have lS := tkP_len h1
    have lf := fl_le S h2.2.2.2
    have n1 : nmC D1 (aF 0 f) nF := by
      obtain ⟨q1, q2, q3, q4, q5⟩ := hn
      exact ⟨by rw [h4 _ _ (by omega)]; exact q1, atL_fr (fun j u v => h4 _ _ (by omega)) q2, q3, q4, q5⟩
    have k1 : D1 (aF 0 f) 5 = D (aF 0 f) 5 := h4 _ _ (by omega)
    refine c_hasX h2 (by rw [h2.2.1, show (1974 : Int) + 2 = 1976 from rfl, l88]; omega) (by rw [h2.2.1]; omega) (by omega) n1 (fun g => ?_) (fun g => ?_)
    · rw [k1] at g
      rw [if_neg (by omega)]
      refine hF D1 (fun ⟨S', _, S2, q1, q2, _⟩ => ?_) h4
      rw [tkP_uni q1 h1] at q2
      exact q2 g
    · rw [k1] at g
      rw [if_pos rfl]
      have C1 : lsIs D1 1971 C := by
        obtain ⟨q1, q2, q3, q4⟩ := hC
        exact ⟨by rw [h4 _ _ (by omega)]; exact q1, by rw [h4 _ _ (by omega)]; exact q2, atL_fr (fun j u v => h4 _ _ (by omega)) q3, q4⟩
      /- what the answer is once the set is there -/
      have fin : ∀ S' D2, lsIs D2 1974 S' → shP (D (aF 0 f) 5) nF C S S' → (∀ a j, a < 1974 ∨ 1976 < a → D2 a j = D a j) → (if 3 < D2 1974 1 then K D2 0 else K D2 1) := fun S' D2 g1 g2 g3 => by
        rw [g1.1]
        by_cases e : (3 : Int) < (S'.length : Int)
        · rw [if_pos e]
          refine hF D2 (fun ⟨S2, _, S3, q1, _, q3, q4⟩ => ?_) g3
          rw [tkP_uni q1 h1] at q3
          rw [shP_uni q3 g2] at q4
          omega
        · rw [if_neg e]
          exact hT S' D2 ⟨hf, S, h1, g, g2, by omega⟩ g1 (shP_srt g2 hC.2.2.2 h2.2.2.2 h3) g3
      rw [C1.1]
      match C, hC1, hC, C1, fin with
      | [], _, _, _, fin =>
        rw [if_neg (by simp)]
        exact fin S D1 h2 (Or.inl ⟨rfl, rfl⟩) h4
      | [y], _, hC, C1, fin =>
        have hy : lbl y := hC.2.2.2 y (by simp)
        have hyl := lbl_len hy
        have e1 : D1 1972 1 = (y.length : Int) := by have := C1.2.1; rw [show [y].flatten = y from by simp] at this; exact this
        have e2 : atL D1 1973 0 y := by have := C1.2.2.1; rw [show [y].flatten = y from by simp] at this; exact this
        rw [if_pos (by simp)]
        refine c_hasX C1 (by rw [show (1971 : Int) + 1 = 1972 from rfl, e1, show (1971 : Int) + 2 = 1973 from rfl, l22]; omega) (by rw [show (1971 : Int) + 1 = 1972 from rfl, e1]; omega) (by simp) n1 (fun g2 => ?_) (fun g2 => ?_)
        · rw [if_neg (by omega)]
          rw [k1] at g2
          refine fin S D1 h2 (Or.inr ⟨y, rfl, Or.inl ⟨?_, rfl⟩⟩) h4
          obtain ⟨x, hx, g2⟩ := g2
          rw [List.mem_singleton.mp hx] at g2
          exact g2
        · rw [if_pos rfl]
          rw [k1] at g2
          have g3 : ¬ xtP (D (aF 0 f) 5) nF y := fun q => g2 ⟨y, by simp, q⟩
          rw [e1]
          refine c_insert (x := y) (S := S) ⟨h2, hy, e2, ⟨by omega, by omega, by rw [e1]; omega, by rw [e1, show (1972 : Int) + 1 = 1973 from rfl, l22]; omega, by rw [e1]; omega⟩, ⟨by rw [show (1974 : Int) + 2 = 1976 from rfl, l88]; omega, by rw [show (1974 : Int) + 2 = 1976 from rfl, l88]; omega, by omega⟩, by omega⟩ (fun S' D2 i1 i2 i3 i4 => ?_) (fun i1 => ?_)
          · exact fin S' D2 i2 (Or.inr ⟨y, rfl, Or.inr ⟨g3, Or.inr i1⟩⟩) (fun a j u => by rw [i3 a j (by omega) (by omega) (by omega), h4 a j u])
          · exact fin S D1 h2 (Or.inr ⟨y, rfl, Or.inr ⟨g3, Or.inl ⟨i1, rfl⟩⟩⟩) h4
      | _ :: _ :: _, h, _, _, _ => simp at h
  · rw [if_pos rfl]
    exact hF D1 (fun ⟨S', _, S, q, _⟩ => h1 ⟨S, q⟩) h4
/-- a kept child of this family and these labels -/
def fcS (D : tD) (f : Int) (l : List Int) (k : Int) : Prop := D (aC 0 k) 3 = 1 ∧ D (aC 0 k) 4 = f ∧ D (aC 0 k + 2) 1 = (l.length : Int) ∧ atL D (aC 0 k + 3) 0 l
theorem fcS_C {f k : Int} {l : List Int} {D1 : tD} (hk : 0 ≤ k ∧ k < 24) (h : ∀ a j, a ≠ 1 → a < 1974 ∨ 1976 < a → D1 a j = D a j) (h1 : D1 1975 1 = (l.length : Int)) (h2 : atL D1 1976 0 l) : fcC D1 0 f 1974 k ↔ fcS D f l k := by
  have eC : aC 0 k = 161 + 34 * k := by unfold aC; omega
  unfold fcC fcS eqr
  rw [h (aC 0 k) 3 (by omega) (by omega), h (aC 0 k) 4 (by omega) (by omega), h (aC 0 k + 2) 1 (by omega) (by omega), show (1974 : Int) + 1 = 1975 from rfl, show (1975 : Int) + 1 = 1976 from rfl, h1, show aC 0 k + 2 + 1 = aC 0 k + 3 from by omega]
  constructor
  · rintro ⟨a, b, d, e⟩
    refine ⟨a, b, d, atL_mov (D := D1) (a := 1976) (o := 0) (fun j u v => ?_) h2⟩
    have := e j u (by omega)
    rw [h _ _ (by omega) (by omega)] at this
    rw [show (0 : Int) + j = j from by omega]
    exact this
  · rintro ⟨a, b, d, e⟩
    refine ⟨a, b, d, fun j u v => ?_⟩
    have := atL_eq e h2 j u (by omega)
    rw [show (0 : Int) + j = j from by omega] at this
    rw [h _ _ (by omega) (by omega)]
    exact this
theorem c_child {f : Int} {nF : List Int} {C : List (List Int)} (hok : okD D) (hR : RL RSc D c) (hn : 0 ≤ f ∧ f < D 5 4 → nmC D (aF 0 f) nF) (hC : lsIs D 1971 C) (hC1 : C.length ≤ 1)
    (hB : ∀ D1, CX 1 D D1 → (¬ ∃ S', chG D f nF C S') → E (bump D1) 90)
    (hU : ∀ D1 S', CX 1 D D1 → chG D f nF C S' → (D (aF 0 f) 5 = 4 ∧ D (aF 0 f) 7 = 0) → E (bump D1) 92)
    (hO : ∀ D1 S' r, CX 1 D D1 → chG D f nF C S' → ¬ (D (aF 0 f) 5 = 4 ∧ D (aF 0 f) 7 = 0) → fstP (fcS D f S'.flatten) 24 r → 0 ≤ r → K D1 r)
    (hM : ∀ D1 S', CX 1 D D1 → chG D f nF C S' → ¬ (D (aF 0 f) 5 = 4 ∧ D (aF 0 f) 7 = 0) → fstP (fcS D f S'.flatten) 24 (-1) → ¬ (sm (cofC D 0 f) 24 < D (aF 0 f) 8 ∧ D 5 5 < 24) → E (bump D1) 91)
    (hN : ∀ D1 S' k D2, CX 1 D D1 → chG D f nF C S' → ¬ (D (aF 0 f) 5 = 4 ∧ D (aF 0 f) 7 = 0) → fstP (fcS D f S'.flatten) 24 (-1) → (sm (cofC D 0 f) 24 < D (aF 0 f) 8 ∧ D 5 5 < 24) → 0 ≤ k → k < 24 → D (aC 0 k) 3 = 0 → (∀ j, 0 ≤ j → j < k → D (aC 0 j) 3 ≠ 0) → srtL S' → begP (wr D1 (aF 0 f) 9 1) D2 0 k f (if D (aF 0 f) 5 = 0 ∨ D (aF 0 f) 5 = 2 then D 0 8 else -1) S' → K (newC D2 0 k (D 5 5)) k) : WP sc 10 0 D [(0, (1200, 0)), (1, (0, f))] [] K E := by
  have r6 := hR.2.2.2.2.2.1
  have r7 := hR.2.2.2.2.2.2.1
  have h0 := hR.2.2.2.2.2.2.2.1
  have h8 := h0.1
  rw [show (5 : Int) + 975 * 0 = 5 from rfl] at h8
  have cl1 : ∀ D1 : tD, rclear D1 1 1 1 = 0 := fun D1 => by unfold rclear; rw [wr_ni (by omega), wr_self]
  have cl2 : ∀ (D1 : tD) a j, a ≠ 1 → rclear D1 1 a j = D1 a j := fun D1 a j u => by unfold rclear; rw [wr_ne u, wr_ne u]
  have cx : ∀ D1, (∀ a j, a < 1974 ∨ 1976 < a → D1 a j = D a j) → CX 1 D (rclear D1 1) := fun D1 h => ⟨fun e => by omega, fun _ => cl1 _, fun a j u v => by rw [cl2 _ _ _ u, h a j v]⟩
  have th : ∀ D1, CX 1 D D1 → D1 (-1) 0 < 599000 := fun D1 h => by rw [h.2.2 _ _ (by omega) (by omega)]; omega
  refine v10_0 (c_famAt (s := 0) (Or.inl rfl) (by rw [show (5 : Int) + 975 * 0 = 5 from rfl]; omega) (fun hf => ?_) (fun hf => ?_))
  · rw [show (5 : Int) + 975 * 0 = 5 from rfl] at hf
    have eF : aF 0 f = 7 + 17 * f := by unfold aF; omega
    rw [if_neg (by omega)]
    refine c_tcl hok hR hf (hn hf) hC hC1 (fun S' D1 g1 g2 g3 g4 => ?_) (fun D1 g1 g4 => ?_)
    · rw [if_neg (by omega)]
      refine c_clear ?_
      have hcx := cx D1 g4
      have cF : ∀ j, rclear D1 1 (aF 0 f) j = D (aF 0 f) j := fun j => hcx.2.2 _ _ (by omega) (by omega)
      have lf : S'.flatten.length ≤ 66 := by
        have := fl_le S' g2.2.2.2
        have := g1.2
        obtain ⟨_, _, _, _, q⟩ := this
        omega
      have ls1 : lsIs (rclear D1 1) 1974 S' := by
        obtain ⟨q1, q2, q3, q4⟩ := g2
        exact ⟨by rw [cl2 _ _ _ (by omega)]; exact q1, by rw [cl2 _ _ _ (by omega)]; exact q2, atL_fr (fun j u v => cl2 _ _ _ (by omega)) q3, q4⟩
      have l88 : ln 1976 = 88 := rfl
      /- from the search on -/
      have tail : ¬ (D (aF 0 f) 5 = 4 ∧ D (aF 0 f) 7 = 0) → WP sc 113 0 (rclear D1 1) [(0, (1208, 5)), (1, (0, f)), (2, (1205, 1974))] [] (fun D16 r17 => if r17 < 0 then (WP sc 114 0 D16 [(0, (1208, 5)), (1, (0, f))] [] (fun D19 r20 => if r20 < D19 (aF 0 f) 8 then (if D19 5 5 < 24 then (WP sc 64 0 (wr D19 (aF 0 f) 9 1) [(0, (1204, aF 0 f)), (1, (0, 2))] [] (fun D22 r23 => if r23 = 0 then (WP sc 115 0 D22 [(0, (1208, 5)), (1, (0, f)), (2, (1205, 1974)), (3, (1, (-1)))] [] (fun D25 r26 => K D25 r26) (fun D25 e => E D25 e)) else (WP sc 115 0 D22 [(0, (1208, 5)), (1, (0, f)), (2, (1205, 1974)), (3, (1, D22 0 8))] [] (fun D28 r29 => K D28 r29) (fun D28 e => E D28 e))) (fun D22 e => E D22 e)) else (D19 (-1) 0 < 599000 ∧ E (wr D19 (-1) 0 (D19 (-1) 0 + 1)) 91)) else (D19 (-1) 0 < 599000 ∧ E (wr D19 (-1) 0 (D19 (-1) 0 + 1)) 91)) (fun D19 e => E D19 e)) else (K D16 r17)) (fun D16 e => E D16 e) := fun hst => by
        refine c_findCh (s := 0) (Or.inl rfl) (fun k u v w => ?_) (by rw [ls1.2.1, show (1974 : Int) + 2 = 1976 from rfl, l88]; omega) (fun r hr => ?_)
        · have e := hcx.2.2 (aC 0 k) 3 (by unfold aC; omega) (by unfold aC; omega)
          rw [e] at w
          have := ((h0.2.2.1 k u v).2.2 w).2.1.1
          rw [hcx.2.2 (aC 0 k + 2) 1 (by unfold aC; omega) (by unfold aC; omega), this.1]
          exact this.2.2.1
        · have hr' : fstP (fcS D f S'.flatten) 24 r := by
            have iff : ∀ k, 0 ≤ k → k < 24 → (fcC (rclear D1 1) 0 f 1974 k ↔ fcS D f S'.flatten k) := fun k u v => fcS_C ⟨u, v⟩ hcx.2.2 ls1.2.1 ls1.2.2.1
            rcases hr with ⟨q1, q2⟩ | ⟨q1, q2, q3, q4⟩
            · exact Or.inl ⟨q1, fun k u v => fun w => q2 k u v ((iff k u v).mpr w)⟩
            · exact Or.inr ⟨q1, q2, (iff r q1 q2).mp q3, fun k u v w => q4 k u v ((iff k u (by omega)).mpr w)⟩
          have rr : r = -1 ∨ 0 ≤ r := by rcases hr with q | q <;> omega
          by_cases rn : r < 0
          · rw [if_pos rn]
            have rm : r = -1 := by omega
            rw [rm] at hr'
            refine c_chFam (s := 0) (Or.inl rfl) ?_
            have ec : sm (cofC (rclear D1 1) 0 f) 24 = sm (cofC D 0 f) 24 := sm_ext (fun k u v => by
              unfold cofC
              rw [hcx.2.2 (aC 0 k) 3 (by unfold aC; omega) (by unfold aC; omega), hcx.2.2 (aC 0 k) 4 (by unfold aC; omega) (by unfold aC; omega)])
            have e55 : rclear D1 1 5 5 = D 5 5 := hcx.2.2 _ _ (by omega) (by omega)
            rw [ec, cF, e55]
            have full : ¬ (sm (cofC D 0 f) 24 < D (aF 0 f) 8 ∧ D 5 5 < 24) → (rclear D1 1 (-1) 0 < 599000 ∧ E (wr (rclear D1 1) (-1) 0 (rclear D1 1 (-1) 0 + 1)) 91) := fun g => ⟨th _ hcx, hM _ S' hcx g1 hst hr' g⟩
            by_cases m1 : sm (cofC D 0 f) 24 < D (aF 0 f) 8
            · rw [if_pos m1]
              by_cases m2 : D 5 5 < 24
              · rw [if_pos m2]
                have fw : ∀ a j, a ≠ aF 0 f → wr (rclear D1 1) (aF 0 f) 9 1 a j = rclear D1 1 a j := fun a j u => wr_ne u
                have k5 : wr (rclear D1 1) (aF 0 f) 9 1 (aF 0 f) 5 = D (aF 0 f) 5 := by rw [wr_ni (by omega)]; exact cF 5
                have ls2 : lsIs (wr (rclear D1 1) (aF 0 f) 9 1) 1974 S' := by
                  obtain ⟨q1, q2, q3, q4⟩ := ls1
                  exact ⟨by rw [fw _ _ (by omega)]; exact q1, by rw [fw _ _ (by omega)]; exact q2, atL_fr (fun j u v => fw _ _ (by omega)) q3, q4⟩
                have c3 : ∀ k, 0 ≤ k → k < 24 → wr (rclear D1 1) (aF 0 f) 9 1 (aC 0 k) 3 = D (aC 0 k) 3 := fun k u v => by rw [fw _ _ (by unfold aC; omega), hcx.2.2 _ _ (by unfold aC; omega) (by unfold aC; omega)]
                have o1 := h0.2.2.2.1
                rw [show (5 : Int) + 975 * 0 = 5 from rfl] at o1
                have go : ∀ t, (t = if D (aF 0 f) 5 = 0 ∨ D (aF 0 f) 5 = 2 then D 0 8 else -1) → WP sc 115 0 (wr (rclear D1 1) (aF 0 f) 9 1) [(0, (1208, 5)), (1, (0, f)), (2, (1205, 1974)), (3, (1, t))] [] (fun D25 r26 => K D25 r26) (fun D25 e => E D25 e) := fun t ht => by
                  refine c_beginCh (s := 0) (n := D 5 5) (S := S') (Or.inl rfl) ⟨by rw [show (5 : Int) + 975 * 0 = 5 from rfl, fw _ _ (by omega)]; exact e55, by omega, m2⟩ (Or.inl rfl) ls2 (by omega) (by rw [show (1974 : Int) + 2 = 1976 from rfl, l88]; omega) (fun k D2 p1 p2 p3 p4 p5 => ?_) (fun q => ?_)
                  · rw [c3 k p1 p2] at p3
                    rw [ht] at p5
                    exact hN _ S' k D2 hcx g1 hst hr' ⟨m1, m2⟩ p1 p2 p3 (fun j u v => by rw [← c3 j u (by omega)]; exact p4 j u v) g3 p5
                  · exfalso
                    have hall : sm (fun k => D (aC 0 k) 3) 24 = sm (fun _ => 1) 24 := sm_ext (fun k u v => by
                      have := q k u (by omega)
                      rw [c3 k u (by omega)] at this
                      have := (h0.2.2.1 k u (by omega)).2.1
                      omega)
                    rw [hall, show sm (fun _ => (1 : Int)) 24 = 24 from rfl] at o1
                    omega
                refine v64_0 ?_
                rw [if_neg (by omega), if_pos rfl, k5]
                by_cases q0 : D (aF 0 f) 5 = 0
                · rw [if_pos q0, if_neg (by omega)]
                  rw [fw 0 8 (by omega), hcx.2.2 0 8 (by omega) (by omega)]
                  exact go _ (by rw [if_pos (Or.inl q0)])
                · rw [if_neg q0]
                  by_cases q2 : D (aF 0 f) 5 = 2
                  · rw [if_pos q2, if_neg (by omega)]
                    rw [fw 0 8 (by omega), hcx.2.2 0 8 (by omega) (by omega)]
                    exact go _ (by rw [if_pos (Or.inr q2)])
                  · rw [if_neg q2, if_pos rfl]
                    exact go _ (by rw [if_neg (by omega)])
              · rw [if_neg m2]
                exact full (fun q => m2 q.2)
            · rw [if_neg m1]
              exact full (fun q => m1 q.1)
          · rw [if_neg rn]
            exact hO _ S' r hcx g1 hst hr' (by omega)
      rw [cF, cF]
      by_cases k4 : D (aF 0 f) 5 = 4
      · rw [if_pos k4]
        by_cases k7 : D (aF 0 f) 7 = 0
        · rw [if_pos k7]
          exact ⟨th _ hcx, hU _ S' hcx g1 ⟨k4, k7⟩⟩
        · rw [if_neg k7]
          exact tail (fun q => k7 q.2)
      · rw [if_neg k4]
        exact tail (fun q => k4 q.1)
    · rw [if_pos rfl]
      exact c_clear ⟨th _ (cx D1 g4), hB _ (cx D1 g4) g1⟩
  · rw [show (5 : Int) + 975 * 0 = 5 from rfl] at hf
    rw [if_pos rfl]
    exact c_clear ⟨th _ (cx D (fun _ _ _ => rfl)), hB _ (cx D (fun _ _ _ => rfl)) (fun ⟨S', q, _⟩ => hf q)⟩
end CHD
