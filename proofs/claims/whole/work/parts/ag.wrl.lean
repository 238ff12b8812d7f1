/-! the text that is written: how long, which bytes; the writer of the other side as a whole -/
section WRL
variable {sc : Nat × (Nat → Int32)} {D D0 B D' : tD} {K : tD → Int → Prop} {E : tD → Nat → Prop} {c s fl : Int} {L : List Int}
def bl (n : Nat) (l : List Int) : Prop := l.length ≤ n ∧ ∀ b ∈ l, 0 ≤ b ∧ b ≤ 255
theorem bl_nil {n : Nat} : bl n [] := ⟨by simp, fun b h => absurd h (by simp)⟩
theorem bl_app {n m k : Nat} {l r : List Int} (h1 : bl n l) (h2 : bl m r) (hk : n + m ≤ k) : bl k (l ++ r) := by
  refine ⟨by rw [List.length_append]; have := h1.1; have := h2.1; omega, fun b hb => ?_⟩
  rcases List.mem_append.mp hb with h | h
  · exact h1.2 b h
  · exact h2.2 b h
theorem bl_cons {n k : Nat} {l : List Int} {b : Int} (hb : 0 ≤ b ∧ b ≤ 255) (h2 : bl n l) (hk : n + 1 ≤ k) : bl k (b :: l) := by
  refine ⟨by rw [List.length_cons]; have := h2.1; omega, fun x hx => ?_⟩
  rcases List.mem_cons.mp hx with h | h
  · rw [h]; exact hb
  · exact h2.2 x h
theorem bl_le {n k : Nat} {l : List Int} (h : bl n l) (hk : n ≤ k) : bl k l := ⟨by have := h.1; omega, h.2⟩
theorem bl_1 {b : Int} (hb : 0 ≤ b ∧ b ≤ 255) : bl 1 [b] := bl_cons hb (bl_nil (n := 0)) (by omega)
theorem bl_ite {p : Prop} [Decidable p] {n : Nat} {l r : List Int} (h1 : p → bl n l) (h2 : ¬ p → bl n r) : bl n (if p then l else r) := by
  by_cases e : p
  · rw [if_pos e]; exact h1 e
  · rw [if_neg e]; exact h2 e
theorem bl_wdl {w : Int} (hw : 0 ≤ w ∧ w < 18) : bl 9 (wdl w) := by
  have := ltn_le hw
  refine ⟨by unfold wdl; rw [spn_len]; omega, fun b hb => ?_⟩
  obtain ⟨j, j1, j2, j3⟩ := spn_mem hb
  have := ltr_rng hw ⟨j1, by omega⟩
  omega
theorem bl_dgs {w : Int} {e : Nat} : bl (e + 1) (dgs w e) := ⟨by rw [dgs_len]; omega, fun b hb => by have := dgs_rng e b hb; omega⟩
theorem bl_num (v : Int) : bl 30 (numT v) := by
  refine ⟨numT_len v, fun b hb => ?_⟩
  unfold numT whT restT at hb
  rcases List.mem_append.mp hb with h | h
  · rcases List.mem_append.mp h with h | h
    · by_cases e : v < 0
      · rw [if_pos e, List.mem_singleton] at h; omega
      · rw [if_neg e] at h; exact absurd h (by simp)
    · have := dgs_rng _ b h; omega
  · by_cases e : (if v < 0 then -v else v) % 1000 = 0
    · rw [if_pos e] at h; exact absurd h (by simp)
    · rw [if_neg e] at h
      rcases List.mem_cons.mp h with h | h
      · omega
      · by_cases e1 : (if v < 0 then -v else v) % 1000 % 100 = 0
        · rw [if_pos e1] at h; have := dgs_rng _ b h; omega
        · rw [if_neg e1] at h
          by_cases e2 : (if v < 0 then -v else v) % 1000 % 10 = 0
          · rw [if_pos e2] at h; have := dgs_rng _ b h; omega
          · rw [if_neg e2] at h; have := dgs_rng _ b h; omega
theorem bl_esc {q : Bool} {b : Int} (hb : 0 ≤ b ∧ b ≤ 255) : bl 2 (escT q b) := by
  unfold escT
  refine bl_ite (fun _ => ?_) (fun _ => bl_ite (fun _ => ?_) (fun _ => bl_ite (fun _ => bl_ite (fun _ => ?_) (fun _ => ?_)) (fun _ => ?_)))
  · exact bl_cons (by omega) (bl_1 (by omega)) (by omega)
  · exact bl_cons (by omega) (bl_1 (by omega)) (by omega)
  · exact bl_cons (by omega) (bl_1 (by omega)) (by omega)
  · exact bl_le (bl_1 (by omega)) (by omega)
  · exact bl_le (bl_1 hb) (by omega)
theorem bl_escs {q : Bool} : ∀ {n : Nat} {l : List Int}, bl n l → bl (2 * n) (l.flatMap (escT q)) := by
  intro n l
  induction l generalizing n with
  | nil => intro _; exact bl_nil
  | cons b l ih =>
    intro h
    have h1 : l.length + 1 ≤ n := h.1
    rw [List.flatMap_cons]
    refine bl_app (bl_esc (h.2 b (by simp))) (ih (n := n - 1) ⟨by omega, fun x hx => h.2 x (by simp [hx])⟩) (by omega)
theorem bl_lab : ∀ {n : Nat} {l : List Int}, bl n l → bl (2 * n) (labB l) := by
  intro n l
  induction l generalizing n with
  | nil => intro _; exact bl_nil
  | cons b l ih =>
    intro h
    have h1 : l.length + 1 ≤ n := h.1
    show bl (2 * n) ((if b = 1 then [61, 34] else if b = 2 then (if l = [] then [34] else [34, 44]) else escT true b) ++ labB l)
    refine bl_app (n := 2) (bl_ite (fun _ => bl_cons (by omega) (bl_1 (by omega)) (by omega)) (fun _ => bl_ite (fun _ => bl_ite (fun _ => bl_le (bl_1 (by omega)) (by omega)) (fun _ => bl_cons (by omega) (bl_1 (by omega)) (by omega))) (fun _ => bl_esc (h.2 b (by simp))))) (ih (n := n - 1) ⟨by omega, fun x hx => h.2 x (by simp [hx])⟩) (by omega)
theorem bl_sm {a w m o : Nat} {nm wd lb mo : List Int} (h1 : bl a nm) (h2 : bl w wd) (h3 : bl m lb) (h4 : bl o mo) : bl (a + w + 2 * m + o + 4) (smT nm wd lb mo) := by
  unfold smT
  refine bl_app (n := a + w + 2 * m + o + 3) (bl_app (bl_app h1 h2 (Nat.le_refl _)) (m := 2 * m + o + 3) (bl_ite (fun _ => bl_nil) (fun _ => bl_cons (by omega) (bl_app (n := 2 * m + o + 1) (bl_app (n := 2 * m + 1) (bl_app (bl_lab h3) (m := 1) (bl_ite (fun _ => bl_nil) (fun _ => bl_1 (by omega))) (Nat.le_refl _)) h4 (by omega)) (bl_1 (by omega)) (Nat.le_refl _)) (by omega))) (by omega)) (bl_1 (by omega)) (by omega)
theorem bl_hd {a w : Nat} {kd : Int} {nm wd : List Int} (h1 : bl a nm) (h2 : bl w wd) : bl (w + a + 10) (hdT wd nm kd fl) := by
  unfold hdT
  exact bl_app (n := w + a + 9) (bl_app (bl_app h2 h1 (Nat.le_refl _)) (m := 9) (bl_ite (fun _ => bl_wdl (by omega)) (fun _ => bl_ite (fun _ => bl_wdl (by omega)) (fun _ => bl_nil))) (by omega)) (bl_1 (by omega)) (by omega)
theorem bl_wd {w : Int} (hw : 0 ≤ w ∧ w < 18) : bl 12 (35 :: 32 :: (wdl w ++ [32])) := bl_cons (by omega) (bl_cons (by omega) (bl_app (bl_wdl hw) (bl_1 (by omega)) (Nat.le_refl _)) (Nat.le_refl _)) (by omega)
theorem bl_fh {kd : Int} {nm un hl : List Int} (hk : 0 ≤ kd ∧ kd ≤ 4) (h1 : bl 24 nm) (h2 : bl 8 un) (h3 : bl 40 hl) : bl 1000 (fhT nm un hl kd fl) := by
  have ty : bl 60 (tyT nm kd fl) := by
    unfold tyT
    refine bl_app (n := 55) (bl_app (bl_hd h1 (bl_wd (by omega))) (m := 9) ?_ (by omega)) (bl_1 (by omega)) (by omega)
    by_cases e : fl = 0 ∧ (kd = 3 ∨ kd = 4)
    · rw [if_pos e]; exact bl_wdl (by omega)
    · rw [if_neg e]; exact bl_wdl (by omega)
  have hh : bl 200 (hlT nm hl kd fl) := by
    unfold hlT
    exact bl_ite (fun _ => bl_nil) (fun _ => bl_app (n := 126) (bl_app (bl_hd h1 (bl_wd (by omega))) (bl_escs h3) (by omega)) (bl_1 (by omega)) (by omega))
  have hu : bl 60 (unT nm un kd fl) := by
    unfold unT
    exact bl_ite (fun _ => bl_nil) (fun _ => bl_app (n := 54) (bl_app (bl_hd h1 (bl_wd (by omega))) h2 (by omega)) (bl_1 (by omega)) (by omega))
  unfold fhT
  exact bl_ite (fun _ => bl_app hh ty (by omega)) (fun _ => bl_app (bl_app ty hu (Nat.le_refl _)) hh (by omega))
theorem rs_bl {q : Int} {m : List Int} {n : Nat} (h : rs D q m) (hn : D q 1 ≤ (n : Int)) : bl n m := ⟨by have := h.1.1; omega, h.2.2.2⟩
/-- the label set of both sides, as labels -/
theorem ls_eq {A cap arr off n : Int} (h : rowm D (A + 1) cap arr off n) (hw : lsW D (A + 1) (D A 1)) (hb : ∀ j, 0 ≤ j → j < n → -128 ≤ D (A + 2) j ∧ D (A + 2) j ≤ 127) : ∃ S : List (List Int), spn (D arr) off n.toNat = S.flatten ∧ (∀ x ∈ S, lbl x) ∧ srtL S ∧ D A 1 = (S.length : Int) ∧ lsIs D A S := by
  obtain ⟨S, s1, s2⟩ := lsW_lsIs (D := D) (a := A) (n := D A 1) (fun j u v => hb j u (by rw [h.1] at v; exact v)) rfl hw
  have s0 := s1
  obtain ⟨p1, p2, p3, p4⟩ := s1
  have e1 : n = (S.flatten.length : Int) := by rw [← h.1]; exact p2
  refine ⟨S, ?_, p4, s2, p1, s0⟩
  have q : atL D arr off S.flatten := by
    refine atL_mov (D := D) (a := A + 2) (o := 0) (fun j u v => ?_) p3
    have r := h.2.2.2 j u (by omega)
    have m := lbs_rng p4 _ (atL_mem p3 j u v)
    rw [show A + 1 + 1 = A + 2 from by omega] at r
    rw [show (0 : Int) + j = j from by omega] at m ⊢
    omega
  exact atL_lst (D := D) (D' := D) (a := arr) (a' := arr) (o := off) (o' := off) (spn_at (fun j _ _ => rfl)) q (by rw [spn_len]; omega) (fun j _ _ => rfl)
theorem mfa_of {f : Int} (hs : s = 0 ∨ s = 1) (hf : 0 ≤ f ∧ f < 8) (h : faR D s f) : mfa D (8 * s + f) := by
  have mN : mostN = 999999999999999 := rfl
  obtain ⟨g0, ⟨g1, _⟩, g2, ⟨g3, _⟩, g4, g5, _⟩ := h
  refine ⟨by omega, ⟨g1.2.1, g1.2.2.1⟩, ⟨g2.2.1, g2.2.2.1⟩, ⟨g3.2.1, g3.2.2.1⟩, by omega, by omega, fun k u v => ?_, by omega, fun k u v => ?_⟩
  · have := g4.2.2.2.2.1 k u (by omega)
    omega
  · have := (g5.2.2.2.2 k u (by omega)).1
    exact ⟨this.2.1, this.2.2.1⟩
theorem mch_of {f k : Int} (hw : wch c D s f k) : mch D (8 * s + f) (24 * s + k) := by
  have mN : mostN = 999999999999999 := rfl
  obtain ⟨hok, hs, hf, hk, hc, hfa, hch, h4⟩ := hw
  obtain ⟨a1, ⟨a2, a3⟩, a4, a5, a6, a7, a8⟩ := hch
  have eC : aC s k = 161 + 975 * s + 34 * k := rfl
  refine ⟨⟨by omega, by omega, by omega⟩, ⟨a2.2.1, a2.2.2.1⟩, ?_, by omega, by omega, by omega, fun b u v => ?_, fun b u v z => ?_⟩
  · obtain ⟨S, s1, s2, _⟩ := ls_eq (A := aC s k + 1) (by rw [show aC s k + 1 + 1 = aC s k + 2 from by omega]; exact a2) (by rw [show aC s k + 1 + 1 = aC s k + 2 from by omega]; exact a3) (fun j u v => by
      rw [show aC s k + 1 + 2 = aC s k + 3 from by omega]
      exact okD_byte hok (by omega) (kd_lab hs hk) ⟨u, by rw [ln_lab hs hk]; have := a2.2.2.1; omega⟩)
    unfold lbX
    rw [s1]
    exact okl_fl S s2
  · have := a7 b u v
    have h6 := hfa.2.2.2.2.1
    refine ⟨by omega, fun w => ?_⟩
    have := this.2.2.2 (Or.inr (by rw [h4]; omega))
    omega
  · have eX : aX s k b = 167 + 975 * s + 34 * k + 4 * b := rfl
    obtain ⟨e1, e2, _⟩ := a8 b u v
    obtain ⟨g1, g2, g3, g4⟩ := e2 (by rw [e1]; exact z)
    refine ⟨by omega, by omega, ⟨g3.2.1, g3.2.2.1⟩, ?_⟩
    obtain ⟨S, s1, s2, _⟩ := ls_eq (A := aX s k b + 1) (by rw [show aX s k b + 1 + 1 = aX s k b + 2 from by omega]; exact g3) (by rw [show aX s k b + 1 + 1 = aX s k b + 2 from by omega]; exact g4) (fun j u' v' => by
      rw [show aX s k b + 1 + 2 = aX s k b + 3 from by omega]
      exact okD_byte hok (by omega) (kd_ex hs hk ⟨u, v⟩) ⟨u', by rw [ln_ex hs hk ⟨u, v⟩]; have := g3.2.2.1; omega⟩)
    unfold elX
    rw [s1]
    exact okl_fl S s2
theorem bl_ck {f k : Int} (hw : wch c D s f k) (hfl : fl = 0 ∨ fl = 1) : bl 6000 (ckX D (8 * s + f) (24 * s + k) fl) := by
  have hw0 := hw
  obtain ⟨hok, hs, hf, hk, hc, hfa, hch, h4⟩ := hw
  obtain ⟨w1, w2, w3, w4⟩ := wf_of hok hs hf hfa
  obtain ⟨l1, _⟩ := wl_of hok hs hk hch
  have eF : aF s f = 7 + 975 * s + 17 * f := rfl
  have nm : bl 24 (nmX D (8 * s + f)) := rs_bl w2 (by have := hfa.2.1.1; rw [this.1]; exact this.2.2.1)
  have lb : bl 66 (lbX D (24 * s + k)) := rs_bl l1 (by have := hch.2.1.1; rw [this.1]; exact this.2.2.1)
  have ex : ∀ b, 0 ≤ b → b < 7 → bl 200 (exX D fl (7 * (24 * s + k) + b)) := fun b u v => by
    obtain ⟨e1, e2⟩ := we_of hok hs hk ⟨u, v⟩ (hch.2.2.2.2.2.2 b u v)
    unfold exX exT
    refine bl_ite (fun z => ?_) (fun _ => bl_nil)
    obtain ⟨r1, _⟩ := e2 z.2
    have g3 := ((hch.2.2.2.2.2.2 b u v).2.1 (by rw [e1]; exact z.2)).2.2.1
    have el : bl 44 (elX D (7 * (24 * s + k) + b)) := rs_bl r1 (by rw [g3.1]; exact g3.2.2.1)
    have c4 : bl 4 [32, 35, 32, 123] := bl_cons (by omega) (bl_cons (by omega) (bl_cons (by omega) (bl_1 (by omega)) (Nat.le_refl _)) (Nat.le_refl _)) (by omega)
    have c2 : bl 2 [125, 32] := bl_cons (by omega) (bl_1 (by omega)) (by omega)
    exact bl_app (bl_app (bl_app (bl_app (bl_app c4 (bl_lab el) (Nat.le_refl _)) c2 (Nat.le_refl _)) (bl_num _) (Nat.le_refl _)) (bl_1 (by omega)) (Nat.le_refl _)) (bl_num _) (by omega)
  have ln : ∀ w v, 0 ≤ w → w < 18 → bl 250 (lnX D (8 * s + f) (24 * s + k) w v) := fun w v u1 u2 => by
    unfold lnX
    exact bl_app (bl_app (bl_sm nm (bl_wdl ⟨u1, u2⟩) lb (bl_nil (n := 0))) (bl_num _) (Nat.le_refl _)) (bl_1 (by omega)) (by omega)
  have le : ∀ b, bl 50 (leX D (8 * s + f) b) := fun b => by
    unfold leX
    have c2 : bl 2 [61, 34] := bl_cons (by omega) (bl_1 (by omega)) (by omega)
    exact bl_app (bl_app (bl_app (bl_wdl (by omega)) c2 (Nat.le_refl _)) (m := 30) (bl_ite (fun _ => bl_le (bl_wdl (by omega)) (by omega)) (fun _ => bl_num _)) (Nat.le_refl _)) (bl_1 (by omega)) (by omega)
  have bk : ∀ (q : Nat) (b a : Int), 0 ≤ b → b + (q : Int) ≤ 7 → bl (600 * q) (bkX D (8 * s + f) (24 * s + k) fl q b a) := by
    intro q
    induction q with
    | zero => intro b a _ _; exact bl_nil
    | succ q ih =>
      intro b a u v
      show bl _ (smT _ _ _ _ ++ numT _ ++ exX _ _ _ ++ [10] ++ bkX _ _ _ _ _ _ _)
      exact bl_app (bl_app (bl_app (bl_app (bl_sm nm (bl_wdl (by omega)) lb (le b)) (bl_num _) (Nat.le_refl _)) (ex b u (by omega)) (Nat.le_refl _)) (bl_1 (by omega)) (Nat.le_refl _)) (ih (b + 1) _ (by omega) (by omega)) (by omega)
  have st : ∀ x, 0 ≤ x → x < D 1991 (8 * s + f) → bl 60 (stX D (8 * s + f) x) := fun x u v => by
    have h7 := hfa.2.2.2.2.2.1
    obtain ⟨g1, _⟩ := h7.2.2.2.2 x u (by omega)
    have n1 : aF s f + 9 + 2 * x + 1 = aF s f + 10 + 2 * x := by omega
    have hm : rs D (aF s f + 9 + 2 * x) (slX D (8 * s + f) x) := rs_row g1 (by rw [n1, ln_st hs (by omega) (by omega)]; omega) (by omega) (fun j u v => by rw [n1]; exact okD_byte hok (by omega) (kd_sts hs (by omega) (by omega)) ⟨u, by rw [ln_st hs (by omega) (by omega)]; have := g1.2.2.1; omega⟩)
    have sl : bl 12 (slX D (8 * s + f) x) := rs_bl hm (by rw [g1.1]; exact g1.2.2.1)
    unfold stX
    have c2 : bl 2 [61, 34] := bl_cons (by omega) (bl_1 (by omega)) (by omega)
    exact bl_app (bl_app (bl_app nm c2 (Nat.le_refl _)) (bl_escs sl) (Nat.le_refl _)) (bl_1 (by omega)) (by omega)
  have ss : ∀ (q : Nat) (x : Int), 0 ≤ x → x + (q : Int) ≤ D 1991 (8 * s + f) → bl (300 * q) (ssX D (8 * s + f) (24 * s + k) q x) := by
    intro q
    induction q with
    | zero => intro x _ _; exact bl_nil
    | succ q ih =>
      intro x u v
      show bl _ (smT _ _ _ _ ++ [bitX _ _, 10] ++ ssX _ _ _ _ _)
      have c2 : bl 2 [bitX (D 2001 (24 * s + k)) x, 10] := bl_cons (by unfold bitX; split <;> omega) (bl_1 (by omega)) (by omega)
      exact bl_app (bl_app (bl_sm nm (bl_wdl (by omega)) lb (st x u (by omega))) c2 (Nat.le_refl _)) (ih (x + 1) (by omega) (by omega)) (by omega)
  have h6 := hfa.2.2.2.2.1
  have h7 := hfa.2.2.2.2.2.1
  unfold ckX bdX crX
  refine bl_app (n := 5000) (bl_ite (fun _ => ?_) (fun _ => bl_ite (fun _ => bl_le (ln _ _ (by omega) (by omega)) (by omega)) (fun _ => bl_ite (fun _ => ?_) (fun _ => bl_ite (fun _ => bl_le (ln _ _ (by omega) (by omega)) (by omega)) (fun _ => bl_le (ss _ 0 (by omega) (by omega)) (by omega)))))) (m := 250) (bl_ite (fun _ => ln _ _ (by omega) (by omega)) (fun _ => bl_nil)) (by omega)
  · have e0 := ex 0 (by omega) (by omega)
    rw [show 7 * (24 * s + k) + 0 = 7 * (24 * s + k) from by omega] at e0
    exact bl_app (bl_app (bl_app (bl_sm nm (bl_wdl (by omega)) lb (bl_nil (n := 0))) (bl_num _) (Nat.le_refl _)) e0 (Nat.le_refl _)) (bl_1 (by omega)) (by omega)
  · exact bl_app (bl_app (bk _ 0 0 (by omega) (by omega)) (ln _ _ (by omega) (by omega)) (Nat.le_refl _)) (ln _ _ (by omega) (by omega)) (by omega)
theorem chl_in (ho : orR D s) {f : Int} : ∀ (m : Nat) (p : Int), oN D s - p = (m : Int) → 0 ≤ p → (chl D s f p).length ≤ m ∧ ∀ k ∈ chl D s f p, 0 ≤ k ∧ k < 24 ∧ D (aC s k) 3 = 1 ∧ D (aC s k) 4 = f := by
  intro m
  induction m with
  | zero => intro p hm hp; rw [chl_end (by omega)]; exact ⟨by simp, fun k h => absurd h (by simp)⟩
  | succ m ih =>
    intro p hm hp
    obtain ⟨i1, i2⟩ := ih (p + 1) (by omega) (by omega)
    by_cases e : oF D s p = f
    · rw [chl_yes (by omega) e]
      refine ⟨by rw [List.length_cons]; omega, fun k h => ?_⟩
      rcases List.mem_cons.mp h with h | h
      · have q := or_in ho (p := p) (by omega)
        rw [h]
        exact ⟨q.1, q.2.1, q.2.2, e⟩
      · exact i2 k h
    · rw [chl_no (by omega) e]
      exact ⟨by omega, i2⟩
theorem bl_cs {f : Int} (hfl : fl = 0 ∨ fl = 1) : ∀ {n : Nat} {l : List Int}, l.length ≤ n → (∀ k ∈ l, wch c D s f k) → bl (6000 * n) (csX D s f fl l) := by
  intro n l
  induction l generalizing n with
  | nil => intro _ _; exact bl_nil
  | cons k l ih =>
    intro h1 h2
    rw [List.length_cons] at h1
    show bl _ (ckX _ _ _ _ ++ csX D s f fl l)
    exact bl_app (bl_ck (h2 k (by simp)) hfl) (ih (n := n - 1) (by omega) (fun x hx => h2 x (by simp [hx]))) (by omega)
theorem wch_of (hok : okD D) (hs : s = 0 ∨ s = 1) (hc : 0 ≤ c ∧ c ≤ 700) (hsh : shR c D s) {f : Int} (hf : 0 ≤ f ∧ f < D (5 + 975 * s) 4) : ∀ k ∈ chl D s f 0, wch c D s f k := fun k hk => by
  have ho := hsh.2.2.2
  have h0 : 0 ≤ oN D s := ho.1.1
  have h8 := hsh.1
  obtain ⟨q1, q2, q3, q4⟩ := (chl_in ho (oN D s).toNat 0 (by omega) (by omega)).2 k hk
  exact ⟨hok, hs, by omega, ⟨q1, q2⟩, hc, hsh.2.1 f hf.1 hf.2, (hsh.2.2.1 k q1 q2).2.2 q3, q4⟩
theorem bl_sh (hok : okD D) (hs : s = 0 ∨ s = 1) (hc : 0 ≤ c ∧ c ≤ 700) (hsh : shR c D s) (hfl : fl = 0 ∨ fl = 1) : bl 2000000 (shX D s fl) := by
  have ho := hsh.2.2.2
  have h0 : 0 ≤ oN D s ∧ oN D s ≤ 24 := ⟨ho.1.1, ho.1.2.1⟩
  have h8 := hsh.1
  have fa : ∀ f, 0 ≤ f → f < D (5 + 975 * s) 4 → bl 150000 (faX D s f fl) := fun f u v => by
    obtain ⟨w1, w2, w3, w4⟩ := wf_of hok hs (by omega) (hsh.2.1 f u v)
    have hfa := hsh.2.1 f u v
    unfold faX
    exact bl_app (bl_fh w1.2.2 (rs_bl w2 (by have := hfa.2.1.1; rw [this.1]; exact this.2.2.1)) (rs_bl w3 (by have := hfa.2.2.1; rw [this.1]; exact this.2.2.1)) (rs_bl w4 (by have := hfa.2.2.2.1.1; rw [this.1]; exact this.2.2.1))) (bl_cs (n := 24) hfl (by have := (chl_in ho (f := f) (oN D s).toNat 0 (by omega) (by omega)).1; omega) (wch_of hok hs hc hsh ⟨u, v⟩)) (by omega)
  have fs : ∀ (q : Nat) (f : Int), 0 ≤ f → f + (q : Int) ≤ D (5 + 975 * s) 4 → bl (150000 * q) (fsX D s fl q f) := by
    intro q
    induction q with
    | zero => intro f _ _; exact bl_nil
    | succ q ih =>
      intro f u v
      show bl _ (faX _ _ _ _ ++ fsX _ _ _ _ _)
      exact bl_app (fa f u (by omega)) (ih (f + 1) (by omega) (by omega)) (by omega)
  unfold shX
  exact bl_app (n := 1200000) (bl_le (fs _ 0 (by omega) (by omega)) (by omega)) (m := 100) (bl_ite (fun _ => bl_le (bl_cons (by omega) (bl_cons (by omega) (bl_app (bl_wdl (by omega)) (bl_1 (by omega)) (Nat.le_refl _)) (Nat.le_refl _)) (Nat.le_refl _)) (by omega)) (fun _ => bl_nil)) (by omega)
/-! the loops of the other side -/
theorem nx_to (hs : s = 0 ∨ s = 1) (ho : orR D0 s) (h : ∀ a j, 5 ≤ a → a ≤ 1954 → D a j = D0 a j) {f q p : Int} (hq : 0 ≤ q) (hx : nxP D s f q p) : nxP D0 s f q p := by
  have eN : oN D s = oN D0 s := h _ _ (by omega) (by omega)
  have eO : ∀ j, oC D s j = oC D0 s j := fun j => h _ _ (by omega) (by omega)
  have eF : ∀ j, 0 ≤ j → j < oN D0 s → oF D s j = oF D0 s j := fun j u v => by
    have := or_in ho (p := j) ⟨u, v⟩
    unfold oF
    rw [eO]
    exact h _ _ (by unfold aC; omega) (by unfold aC; omega)
  obtain ⟨x1, x2, x3⟩ := hx
  rw [eN] at x1 x3
  exact ⟨x1, fun j u v => by rw [← eF j (by omega) (by omega)]; exact x2 j u v, fun u => by rw [← eF p (by omega) u]; exact x3 u⟩
theorem q_kids {f : Int} (hok : okD D0) (hs : s = 0 ∨ s = 1) (hc : 0 ≤ c ∧ c ≤ 700) (h0 : shR c D0 0) (h1 : shR c D0 1) (hB : B 1977 22 = D0 1977 22) (hf : 0 ≤ f ∧ f < D0 (5 + 975 * s) 4) (hfl : fl = 0 ∨ fl = 1) {M : List Int} (hn : (M ++ csX D0 s f fl (chl D0 s f 0)).length ≤ 1000000000) (hK : ∀ D', ms D0 B D' (M ++ csX D0 s f fl (chl D0 s f 0)) → WP sc 249 45 D' [(0, (1211, 1977)), (1, (0, s)), (2, (0, 1 - fl)), (3, (0, 8 * s + f + 1))] [] K E) : ∀ (m : Nat) (q p : Int) (P : List Int) (D : tD), oN D0 s - q ≤ (m : Int) → 0 ≤ q → nxP D0 s f q p → ms D0 B D (M ++ P) → P ++ csX D0 s f fl (chl D0 s f q) = csX D0 s f fl (chl D0 s f 0) → WP sc 249 76 D [(0, (1211, 1977)), (1, (0, s)), (2, (0, 1 - fl)), (3, (0, 8 * s + f)), (4, (0, if p < oN D0 s then 24 * s + oC D0 s p else -1))] [] K E := by
  have hsh : shR c D0 s := by rcases hs with rfl | rfl; exact h0; exact h1
  have ho := hsh.2.2.2
  have h24 : oN D0 s ≤ 24 := ho.1.2.1
  have h8 := hsh.1
  intro m
  induction m with
  | zero =>
    intro q p P D hm hq hx h hP
    have x1 := hx.1
    rw [chl_nxt hx, if_neg (by omega), show csX D0 s f fl [] = [] from rfl, List.append_nil] at hP
    refine v249_76 ?_
    rw [if_neg (show ¬ p < oN D0 s from by omega), if_pos (by omega), w32_id (by omega) (by omega)]
    rw [hP] at h
    exact hK D h
  | succ m ih =>
    intro q p P D hm hq hx h hP
    have x1 := hx.1
    by_cases e : p < oN D0 s
    · have z := or_in ho (p := p) (by omega)
      rw [chl_nxt hx, if_pos e] at hP
      have eP : csX D0 s f fl (oC D0 s p :: chl D0 s f (p + 1)) = ckX D0 (8 * s + f) (24 * s + oC D0 s p) fl ++ csX D0 s f fl (chl D0 s f (p + 1)) := rfl
      rw [eP] at hP
      have hw : wch c D0 s f (oC D0 s p) := ⟨hok, hs, by omega, ⟨z.1, z.2.1⟩, hc, hsh.2.1 f hf.1 hf.2, (hsh.2.2.1 _ z.1 z.2.1).2.2 z.2.2, hx.2.2 e⟩
      refine v249_76 ?_
      rw [if_pos e, if_neg (by omega)]
      refine q_child (mfa_of hs (by omega) (hsh.2.1 f hf.1 hf.2)) (mch_of hw) hfl h (by rw [← hP] at hn; simp only [List.length_append] at hn ⊢; omega) (fun D1 g1 => ⟨by omega, ?_⟩)
      rw [g1.2.2 1996 _ (by omega)]
      have sh : ∀ s', (s' = 0 ∨ s' = 1) → shR c D0 s' → shR c D1 s' := fun s' hs' hx' => shR_fr2 hs' (by omega) (fun a j u => by
        by_cases ea : a = 1977
        · have : j = 22 := by
            rcases u with z | z | ⟨z, _⟩ | z | z | ⟨z, _⟩ | z <;> omega
          rw [ea, this, g1.2.1 _ _ (by omega) (by omega), hB]
        · exact g1.2.2 a j (by rcases u with z | z | ⟨z, _⟩ | z | z | ⟨z, _⟩ | z <;> omega)) hx'
      have ed : ∀ a j, 5 ≤ a → a ≤ 1954 → D1 a j = D0 a j := fun a j u v => g1.2.2 a j (by omega)
      have eN : oN D1 s = oN D0 s := ed _ _ (by omega) (by omega)
      have eO : ∀ j, oC D1 s j = oC D0 s j := fun j => ed _ _ (by omega) (by omega)
      refine m_next (c := c) (q := p + 1) hs (sh 0 (Or.inl rfl) h0) (sh 1 (Or.inr rfl) h1) (by omega) (by omega) (fun j u v => ?_) (fun p' hp' => ?_)
      · rw [eO, g1.2.2 1996 _ (by omega)]
        exact ord_aft ho ⟨by omega, e⟩ j u (by omega)
      · rw [eN, eO]
        exact ih (p + 1) p' (P ++ ckX D0 (8 * s + f) (24 * s + oC D0 s p) fl) D1 (by omega) (by omega) (nx_to hs ho ed (by omega) hp') (by simpa [List.append_assoc] using g1) (by rw [List.append_assoc]; exact hP)
    · rw [chl_nxt hx, if_neg e, show csX D0 s f fl [] = [] from rfl, List.append_nil] at hP
      refine v249_76 ?_
      rw [if_neg e, if_pos (by omega), w32_id (by omega) (by omega)]
      rw [hP] at h
      exact hK D h
theorem q_copy {n : Int} {D1 : tD} (hn : 0 ≤ n ∧ n ≤ 12000) (h43 : D1 1977 43 = n) (hK : ∀ D', (∀ j, 0 ≤ j → j < n → D' 2013 j = D1 2014 j) → (∀ a j, a ≠ 2013 → D' a j = D1 a j) → K D' n) : ∀ (m : Nat) (k : Int) (D : tD), n - k = (m : Int) → 0 ≤ k → (∀ j, 0 ≤ j → j < k → D 2013 j = D1 2014 j) → (∀ a j, a ≠ 2013 → D a j = D1 a j) → WP sc 249 163 D [(0, (1211, 1977)), (3, (0, k))] [] K E := by
  intro m
  induction m with
  | zero =>
    intro k D hm hk h1 h2
    refine v249_163 ?_
    rw [h2 1977 43 (by omega), h43, if_neg (by omega)]
    exact hK D (fun j u v => h1 j u (by omega)) h2
  | succ m ih =>
    intro k D hm hk h1 h2
    refine v249_163 ?_
    rw [h2 1977 43 (by omega), h43, if_pos (by omega), w32_id (by omega) (by omega)]
    refine ⟨by omega, by omega, ih (k + 1) _ (by omega) (by omega) (fun j u v => ?_) (fun a j u => by rw [wr_ne u]; exact h2 a j u)⟩
    by_cases e : j = k
    · rw [e, wr_self, h2 _ _ (by omega)]
    · rw [wr_ni e]; exact h1 j u (by omega)
theorem q_fams (hok : okD D0) (hs : s = 0 ∨ s = 1) (hc : 0 ≤ c ∧ c ≤ 700) (h0 : shR c D0 0) (h1 : shR c D0 1) (hB : B 1977 22 = D0 1977 22) (hfl : fl = 0 ∨ fl = 1) (hT : (shX D0 s fl).length ≤ 12000 → ∀ D', D' 1977 43 = ((shX D0 s fl).length : Int) → atL D' 2013 0 (shX D0 s fl) → (∀ a j, a ≠ 2013 → a ≠ 2014 → ¬ (a = 1977 ∧ (j = 43 ∨ j = 44)) → D' a j = B a j) → K D' ((shX D0 s fl).length : Int)) (hO : 12000 < (shX D0 s fl).length → ∀ D', D' 1977 43 = 0 → (∀ a j, a ≠ 2013 → a ≠ 2014 → ¬ (a = 1977 ∧ (j = 43 ∨ j = 44)) → D' a j = B a j) → K D' 0) : ∀ (q : Nat) (f : Int) (P : List Int) (D : tD), D0 (5 + 975 * s) 4 - f = (q : Int) → 0 ≤ f → ms D0 B D P → P ++ fsX D0 s fl q f = fsX D0 s fl (D0 (5 + 975 * s) 4).toNat 0 → WP sc 249 45 D [(0, (1211, 1977)), (1, (0, s)), (2, (0, 1 - fl)), (3, (0, 8 * s + f))] [] K E := by
  have hsh : shR c D0 s := by rcases hs with rfl | rfl; exact h0; exact h1
  have ho := hsh.2.2.2
  have h24 : 0 ≤ oN D0 s ∧ oN D0 s ≤ 24 := ⟨ho.1.1, ho.1.2.1⟩
  have h8 := hsh.1
  have hbl := (bl_sh hok hs hc hsh hfl).1
  have fin : ∀ D, ms D0 B D (shX D0 s fl) → (if 12000 < D 1977 44 then (WP sc 249 163 (wr D 1977 43 0) [(0, (1211, 1977)), (3, (0, 0))] [] K E) else (WP sc 249 163 (wr D 1977 43 (D 1977 44)) [(0, (1211, 1977)), (3, (0, 0))] [] K E)) := fun D h => by
    obtain ⟨⟨m1, m2⟩, g2, g3⟩ := h
    by_cases e : 12000 < D 1977 44
    · rw [if_pos e]
      refine q_copy (n := 0) (D1 := wr D 1977 43 0) (by omega) wr_self (fun D' u1 u2 => hO (by omega) D' (by rw [u2 _ _ (by omega), wr_self]) (fun a j w1 w2 w3 => ?_)) 0 0 _ (by omega) (by omega) (fun j u v => by omega) (fun a j u => rfl)
      rw [u2 a j w1]
      by_cases ea : a = 1977
      · subst ea
        rw [wr_ni (by omega), g2 _ _ (by omega) (by omega)]
      · rw [wr_ne ea, g2 _ _ w2 (by omega)]
    · rw [if_neg e]
      refine q_copy (n := ((shX D0 s fl).length : Int)) (D1 := wr D 1977 43 (D 1977 44)) (by omega) (by rw [wr_self]; exact m1) (fun D' u1 u2 => hT (by omega) D' (by rw [u2 _ _ (by omega), wr_self]; exact m1) (atL_mov (D := D) (a := 2014) (o := 0) (fun j u v => by rw [show (0 : Int) + j = j from by omega, u1 j u v, wr_ne (by omega)]) (m2 (by omega))) (fun a j w1 w2 w3 => ?_)) (shX D0 s fl).length 0 _ (by omega) (by omega) (fun j u v => by omega) (fun a j u => rfl)
      rw [u2 a j w1]
      by_cases ea : a = 1977
      · subst ea
        rw [wr_ni (by omega), g2 _ _ (by omega) (by omega)]
      · rw [wr_ne ea, g2 _ _ w2 (by omega)]
  intro q
  induction q with
  | zero =>
    intro f P D hq hf h hP
    rw [show fsX D0 s fl 0 f = [] from rfl, List.append_nil] at hP
    refine v249_45 ⟨by omega, ?_⟩
    have h79 := h8.1
    rw [w32_id (x := 8 * s) (by omega) (by omega), h.2.2 1979 s (by omega), w32_id (x := 8 * s + D0 1979 s) (by omega) (by omega), if_neg (by omega)]
    unfold shX at fin hbl
    rw [← hP] at fin hbl
    by_cases e : fl = 0
    · rw [if_neg (by omega)]
      rw [if_neg (by omega), List.append_nil] at fin
      exact fin D h
    · rw [if_pos (by omega)]
      rw [if_pos (by omega)] at fin hbl
      refine q_push h (by simp only [List.length_append] at hbl; omega) (fun D1 g1 => q_push g1 (by simp only [List.length_append, List.length_cons, List.length_nil] at hbl ⊢; omega) (fun D2 g2 => q_word (by omega) g2 (by simp only [List.length_append, List.length_cons, List.length_nil] at hbl ⊢; omega) (fun D3 g3 => q_push g3 (by simp only [List.length_append, List.length_cons, List.length_nil] at hbl ⊢; omega) (fun D4 g4 => fin D4 (by simpa [List.append_assoc] using g4)))))
  | succ q ih =>
    intro f P D hq hf h hP
    have eP : fsX D0 s fl (q + 1) f = faX D0 s f fl ++ fsX D0 s fl q (f + 1) := rfl
    rw [eP] at hP
    have hfa := hsh.2.1 f hf (by omega)
    have hF := mfa_of hs (by omega) hfa
    have lP : (P ++ faX D0 s f fl).length ≤ 2000000 := by
      unfold shX at hbl
      rw [← hP] at hbl
      simp only [List.length_append] at hbl ⊢
      omega
    unfold faX at lP hP
    refine v249_45 ⟨by omega, ?_⟩
    have h79 := h8.1
    rw [w32_id (x := 8 * s) (by omega) (by omega), h.2.2 1979 s (by omega), w32_id (x := 8 * s + D0 1979 s) (by omega) (by omega), if_pos (by omega)]
    refine q_fhead hF.1 hF.2.1 hF.2.2.1 hF.2.2.2.1 ⟨rfl, hF.2.2.2.2.1⟩ hfl h (by simp only [List.length_append] at lP ⊢; omega) (fun D1 g1 => ?_)
    have sh : ∀ s', (s' = 0 ∨ s' = 1) → shR c D0 s' → shR c D1 s' := fun s' hs' hx' => shR_fr2 hs' (by omega) (fun a j u => by
      by_cases ea : a = 1977
      · have : j = 22 := by
          rcases u with z | z | ⟨z, _⟩ | z | z | ⟨z, _⟩ | z <;> omega
        rw [ea, this, g1.2.1 _ _ (by omega) (by omega), hB]
      · exact g1.2.2 a j (by rcases u with z | z | ⟨z, _⟩ | z | z | ⟨z, _⟩ | z <;> omega)) hx'
    have ed : ∀ a j, 5 ≤ a → a ≤ 1954 → D1 a j = D0 a j := fun a j u v => g1.2.2 a j (by omega)
    have eN : oN D1 s = oN D0 s := ed _ _ (by omega) (by omega)
    have eO : ∀ j, oC D1 s j = oC D0 s j := fun j => ed _ _ (by omega) (by omega)
    refine m_next (c := c) (q := 0) hs (sh 0 (Or.inl rfl) h0) (sh 1 (Or.inr rfl) h1) (by omega) (by omega) (fun j u v => ?_) (fun p hp => ?_)
    · rw [eO, g1.2.2 1996 _ (by omega)]
      exact ord_fst ho j u (by omega)
    · rw [eN, eO]
      refine q_kids (M := P ++ fhT (nmX D0 (8 * s + f)) (unX D0 (8 * s + f)) (hlX D0 (8 * s + f)) (D0 1980 (8 * s + f)) fl) hok hs hc h0 h1 hB ⟨hf, by omega⟩ hfl (by simp only [List.length_append] at lP ⊢; omega) (fun D2 g2 => ?_) (oN D0 s).toNat 0 p [] D1 (by omega) (by omega) (nx_to hs ho ed (by omega) hp) (by simpa using g1) (by rw [List.nil_append])
      rw [show 8 * s + f + 1 = 8 * s + (f + 1) from by omega]
      exact ih (f + 1) _ D2 (by omega) (by omega) g2 (by rw [← hP]; simp [List.append_assoc])
theorem m_write {x y : Int} (hok : okD D0) (hc : 0 ≤ c ∧ c ≤ 700) (h0 : shR c D0 0) (h1 : shR c D0 1) (hd : ∀ a j, (5 ≤ a ∧ a ≤ 1954) ∨ (1979 ≤ a ∧ a ≤ 2008) ∨ (a = 1977 ∧ j = 22) → D a j = D0 a j) (hF : ¬ ((x = 0 ∨ x = 1) ∧ (y = 0 ∨ y = 1)) → K (wr D 1977 0 1) 0) (hT : ∀ D', (x = 0 ∨ x = 1) → (y = 0 ∨ y = 1) → (shX D0 x (1 - y)).length ≤ 12000 → D' 1977 43 = ((shX D0 x (1 - y)).length : Int) → atL D' 2013 0 (shX D0 x (1 - y)) → (∀ a j, a ≠ 2013 → a ≠ 2014 → ¬ (a = 1977 ∧ (j = 0 ∨ j = 43 ∨ j = 44)) → D' a j = D a j) → D' 1977 0 = 0 → K D' ((shX D0 x (1 - y)).length : Int)) (hO : ∀ D', (x = 0 ∨ x = 1) → (y = 0 ∨ y = 1) → 12000 < (shX D0 x (1 - y)).length → D' 1977 43 = 0 → (∀ a j, a ≠ 2013 → a ≠ 2014 → ¬ (a = 1977 ∧ (j = 0 ∨ j = 43 ∨ j = 44)) → D' a j = D a j) → D' 1977 0 = 0 → K D' 0) : WP sc 249 0 D [(0, (1211, 1977)), (1, (0, x)), (2, (0, y))] [] K E := by
  refine v249_0 (c_within (fun hx => ?_) (fun hx => ?_))
  · rw [if_neg (by omega)]
    refine c_within (fun hy => ?_) (fun hy => ?_)
    · rw [if_neg (by omega)]
      refine c_fails0 ?_
      rw [if_pos rfl, w32_id (x := 8 * x) (by omega) (by omega)]
      have hs : x = 0 ∨ x = 1 := by omega
      have hy2 : y = 0 ∨ y = 1 := by omega
      have b : ∀ a j, a ≠ 1977 → (wr (wr D 1977 0 0) 1977 44 0) a j = D a j := fun a j u => by rw [wr_ne u, wr_ne u]
      have b7 : ∀ j, j ≠ 0 → j ≠ 44 → (wr (wr D 1977 0 0) 1977 44 0) 1977 j = D 1977 j := fun j u v => by rw [wr_ni v, wr_ni u]
      have hms : ms D0 (wr (wr D 1977 0 0) 1977 44 0) (wr (wr D 1977 0 0) 1977 44 0) [] := ⟨⟨by rw [wr_self]; rfl, fun _ => trivial⟩, frm_refl, fun a j u => by rw [b a j (by omega)]; exact hd a j (by omega)⟩
      have hsh : shR c D0 x := by rcases hs with rfl | rfl; exact h0; exact h1
      have h8 := hsh.1
      have g := q_fams (sc := sc) (E := E) (K := K) (c := c) (D0 := D0) (B := wr (wr D 1977 0 0) 1977 44 0) (s := x) (fl := 1 - y) hok hs hc h0 h1 (by rw [b7 _ (by omega) (by omega)]; exact hd _ _ (by omega)) (by omega) (fun hl D' u1 u2 u3 => hT D' hs hy2 hl u1 u2 (fun a j w1 w2 w3 => ?_) ?_) (fun hl D' u1 u3 => hO D' hs hy2 hl u1 (fun a j w1 w2 w3 => ?_) ?_) (D0 (5 + 975 * x) 4).toNat 0 [] _ (by omega) (by omega) hms (by rw [List.nil_append])
      · rw [show 1 - (1 - y) = y from by omega, show 8 * x + 0 = 8 * x from by omega] at g
        exact g
      · rw [u3 a j w1 w2 (by omega)]
        by_cases ea : a = 1977
        · subst ea; exact b7 _ (by omega) (by omega)
        · exact b a j ea
      · rw [u3 _ _ (by omega) (by omega) (by omega), wr_ni (by omega), wr_self]
      · rw [u3 a j w1 w2 (by omega)]
        by_cases ea : a = 1977
        · subst ea; exact b7 _ (by omega) (by omega)
        · exact b a j ea
      · rw [u3 _ _ (by omega) (by omega) (by omega), wr_ni (by omega), wr_self]
    · rw [if_pos rfl]
      refine c_fails1 ?_
      rw [if_neg (by omega)]
      exact hF (by omega)
  · rw [if_pos rfl]
    refine c_fails1 ?_
    rw [if_neg (by omega)]
    exact hF (by omega)
variable {i : Int}
theorem l_write (hR : RL RSc D c) (hc : c < 600) (hi : 0 ≤ i ∧ i + 5 ≤ (sc.1 : Int) ∧ (sc.1 : Int) ≤ 2560) (hgo : ∀ D', RL RSc D' (c + 1) → WP sc 317 1610 D' (LV i) [] K E) : WP sc 317 1130 D (LV i) [] K E := by
  refine wp_ok (fun hok => ?_)
  obtain ⟨r1, r2, r3, r4, r5, r6, r7, r8⟩ := id hR
  refine v317_1130 ?_
  rw [w32_id (x := i + 1) (by omega) (by omega), w32_id (x := i + 2) (by omega) (by omega)]
  refine ⟨by omega, fun hx => ⟨by omega, fun hy => ?_⟩⟩
  generalize tsv sc (i + 1) = x at hx ⊢
  generalize tsv sc (i + 2) = y at hy ⊢
  /- what stands afterwards where a text was written -/
  have RLw : ∀ {D1 D2 : tD} {v n : Int}, (∀ a j, a ≠ 3 → a ≠ 4 → a ≠ 1955 → D1 a j = D a j) → (∀ a j, a ≠ 2013 → a ≠ 2014 → ¬ (a = 1977 ∧ (j = 0 ∨ j = 43 ∨ j = 44)) → D2 a j = (wr D1 2017 0 v) a j) → rowm D2 3 12000 2013 0 (D2 1977 43) → RL RSc D2 (c + 1) := fun {D1 D2 v n} h1 h2 h3 => by
    have q : ∀ a j, a ≠ 3 → a ≠ 4 → a ≠ 1955 → a ≠ 2017 → a ≠ 2013 → a ≠ 2014 → ¬ (a = 1977 ∧ (j = 0 ∨ j = 43 ∨ j = 44)) → D2 a j = D a j := fun a j u1 u2 u3 u4 u5 u6 u7 => by rw [h2 a j u5 u6 u7, wr_ne u4, h1 a j u1 u2 u3]
    refine ⟨rowm_T ⟨fun j => q _ _ (by omega) (by omega) (by omega) (by omega) (by omega) (by omega) (by omega), fun j => q _ _ (by omega) (by omega) (by omega) (by omega) (by omega) (by omega) (by omega), fun j => q _ _ (by omega) (by omega) (by omega) (by omega) (by omega) (by omega) (by omega), q _ _ (by omega) (by omega) (by omega) (by omega) (by omega) (by omega) (by omega)⟩ r1, h3, ?_, ?_, ?_, ?_, by omega, RSc_dep D D2 (fun a j u => ?_) r8⟩
    · rw [q 0 8 (by omega) (by omega) (by omega) (by omega) (by omega) (by omega) (by omega), q 1977 3 (by omega) (by omega) (by omega) (by omega) (by omega) (by omega) (by omega)]; omega
    · rw [q 1957 3 (by omega) (by omega) (by omega) (by omega) (by omega) (by omega) (by omega), q 1977 46 (by omega) (by omega) (by omega) (by omega) (by omega) (by omega) (by omega)]; exact r4
    · rw [q 1957 0 (by omega) (by omega) (by omega) (by omega) (by omega) (by omega) (by omega), q 1968 0 (by omega) (by omega) (by omega) (by omega) (by omega) (by omega) (by omega)]; exact r5
    · rw [q (-1) 0 (by omega) (by omega) (by omega) (by omega) (by omega) (by omega) (by omega)]; omega
    · unfold depS at u
      exact q a j (by omega) (by omega) (by omega) (by omega) (by omega) (by omega) (by omega)
  have hbl := fun (h1 : x = 0 ∨ x = 1) (h2 : y = 0 ∨ y = 1) => bl_sh (D := D) (c := c) (s := x) (fl := 1 - y) hok h1 (by omega) (by rcases h1 with e | e <;> rw [e]; exact r8.1; exact r8.2.1) (by omega)
  have hd : ∀ {D1 : tD} {v : Int}, (∀ a j, a ≠ 3 → a ≠ 4 → a ≠ 1955 → D1 a j = D a j) → ∀ a j, (5 ≤ a ∧ a ≤ 1954) ∨ (1979 ≤ a ∧ a ≤ 2008) ∨ (a = 1977 ∧ j = 22) → (wr D1 2017 0 v) a j = D a j := fun {D1 v} h1 a j u => by rw [wr_ne (by omega), h1 a j (by omega) (by omega) (by omega)]
  refine v311_0 (c_write hok (c := c) (by omega) r8.1 r8.2.1 (by omega) (fun h => ?_) (fun D1 e1 e2 h1 hl w1 w2 => ?_) (fun D1 e1 e2 h1 hl w1 => ?_))
  · rw [if_pos rfl]
    refine ⟨by omega, fun _ => ⟨by omega, fun _ => m_write (c := c) hok (by omega) r8.1 r8.2.1 (fun a j u => bump_ne (by omega)) (fun _ => ?_) (fun D2 q1 q2 => absurd ⟨q1, q2⟩ h) (fun D2 q1 q2 => absurd ⟨q1, q2⟩ h)⟩⟩
    exact tail_r wr_self (by omega) (hgo _ (RL_thr hR hc))
  · refine ⟨⟨by omega, by decide +kernel⟩, by omega, fun _ => ⟨by omega, fun _ => m_write (c := c) (D0 := D) hok (by omega) r8.1 r8.2.1 (hd h1) (fun q => absurd ⟨e1, e2⟩ q) (fun D2 _ _ _ u1 u2 u3 u4 => ?_) (fun D2 _ _ q => absurd hl (by omega))⟩⟩
    refine tail_r u4 (fun _ => ?_) (hgo _ (RLw (n := 0) h1 u3 ?_))
    · rw [u3 _ _ (by omega) (by omega) (by omega), wr_self]
    · rw [u1]
      refine ⟨by rw [u3 _ _ (by omega) (by omega) (by omega), wr_ne (by omega)]; exact w1, by omega, by omega, fun j g1 g2 => ?_⟩
      rw [show (3 : Int) + 1 = 4 from rfl, u3 4 j (by omega) (by omega) (by omega), wr_ne (by omega)]
      have y1 := spn_at (D := fun _ j => D2 2013 j) (a := 0) (T := fun j => D2 2013 j) (n := (shX D x (1 - y)).length) (s := 0) (o := 0) (fun j _ _ => rfl)
      have e : shX D x (1 - y) = spn (fun j => D2 2013 j) 0 (shX D x (1 - y)).length := atL_lst u2 y1 (by rw [spn_len]) (fun j _ _ => rfl)
      have m1 : D2 2013 j ∈ shX D x (1 - y) := by
        have := atL_mem u2 j g1 g2
        rw [show (0 : Int) + j = j from by omega] at this
        exact this
      have b1 := (hbl e1 e2).2 _ m1
      rw [e, spn_map] at w2
      have w3 := atL_eq w2 (spn_at (D := fun _ j => w8 (D2 2013 j)) (a := 0) (T := fun j => w8 (D2 2013 j)) (n := (shX D x (1 - y)).length) (s := 0) (o := 0) (fun j _ _ => rfl)) j g1 (by rw [spn_len]; exact g2)
      rw [show (0 : Int) + j = j from by omega] at w3 ⊢
      rw [w3, w8_mod]
      omega
  · refine ⟨⟨by omega, by decide +kernel⟩, by omega, fun _ => ⟨by omega, fun _ => m_write (c := c) (D0 := D) hok (by omega) r8.1 r8.2.1 (hd h1) (fun q => absurd ⟨e1, e2⟩ q) (fun D2 _ _ q => absurd hl (by omega)) (fun D2 _ _ _ u1 u3 u4 => ?_)⟩⟩
    refine tail_r u4 (fun _ => ?_) (hgo _ (RLw (n := 0) h1 u3 ?_))
    · rw [u3 _ _ (by omega) (by omega) (by omega), wr_self]
    · rw [u1]
      exact ⟨by rw [u3 _ _ (by omega) (by omega) (by omega), wr_ne (by omega)]; exact w1, by omega, by omega, fun j g1 g2 => by omega⟩
end WRL
