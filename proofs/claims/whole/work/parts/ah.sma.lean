/-! same: sums, and the class's side -/
section SMA
variable {sc : Nat × (Nat → Int32)} {D D' : tD} {K : tD → Int → Prop} {E : tD → Nat → Prop} {c s : Int}
theorem sm_add2 (a b : Int → Int) : ∀ n : Nat, sm (fun p => a p + b p) n = sm a n + sm b n := by
  intro n
  induction n with
  | zero => rfl
  | succ n ih => rw [sm_succ, sm_succ, sm_succ, ih]; omega
theorem sm_swap (h : Int → Int → Int) (n : Nat) : ∀ m : Nat, sm (fun k => sm (fun p => h k p) n) m = sm (fun p => sm (fun k => h k p) m) n := by
  intro m
  induction m with
  | zero => exact (sm_z (g := fun p => sm (fun k => h k p) 0) (fun k _ _ => rfl)).symm
  | succ m ih =>
    rw [sm_succ, ih, ← sm_add2]
    exact sm_ext (fun p _ _ => (sm_succ (fun k => h k p) m).symm)
theorem sm_sng {Q : Int → Prop} [DecidablePred Q] {x : Int} : ∀ n : Nat, 0 ≤ x → x < (n : Int) → sm (fun k => if x = k ∧ Q k then 1 else 0) n = if Q x then 1 else 0 := by
  intro n
  induction n with
  | zero => intro h1 h2; omega
  | succ n ih =>
    intro h1 h2
    rw [sm_succ]
    by_cases e : x = (n : Int)
    · rw [sm_z (g := fun k => if x = k ∧ Q k then 1 else 0) (fun k u v => if_neg (fun w => by omega))]
      by_cases q : Q x
      · rw [if_pos q, if_pos ⟨e, by rw [← e]; exact q⟩]; omega
      · rw [if_neg q, if_neg (fun w => q (by rw [e]; exact w.2))]; omega
    · rw [ih h1 (by omega), if_neg (show ¬ (x = (n : Int) ∧ Q (n : Int)) from fun w => e w.1)]; omega
theorem sm_inj {g : Int → Int} {k : Int} {R : Prop} [Decidable R] : ∀ n : Nat, (∀ p q, 0 ≤ p → p < q → q < (n : Int) → g p ≠ g q) → ((∃ p, 0 ≤ p ∧ p < (n : Int) ∧ g p = k) ∧ R → sm (fun p => if g p = k ∧ R then 1 else 0) n = 1) ∧ (¬ ((∃ p, 0 ≤ p ∧ p < (n : Int) ∧ g p = k) ∧ R) → sm (fun p => if g p = k ∧ R then 1 else 0) n = 0) := by
  intro n
  induction n with
  | zero => intro _; exact ⟨fun ⟨⟨p, p1, p2, _⟩, _⟩ => by omega, fun _ => rfl⟩
  | succ n ih =>
    intro hi
    obtain ⟨i1, i2⟩ := ih (fun p q u v w => hi p q u v (by omega))
    rw [sm_succ]
    by_cases r : R
    · by_cases e : g (n : Int) = k
      · have no : ¬ ((∃ p, 0 ≤ p ∧ p < (n : Int) ∧ g p = k) ∧ R) := fun ⟨⟨p, p1, p2, p3⟩, _⟩ => hi p (n : Int) p1 p2 (by omega) (by rw [p3, e])
        rw [i2 no, if_pos ⟨e, r⟩]
        exact ⟨fun _ => by omega, fun w => absurd ⟨⟨(n : Int), by omega, by omega, e⟩, r⟩ w⟩
      · rw [if_neg (fun w => e w.1)]
        refine ⟨fun ⟨⟨p, p1, p2, p3⟩, _⟩ => ?_, fun w => ?_⟩
        · have pn : p ≠ (n : Int) := fun z => e (by rw [← z]; exact p3)
          rw [i1 ⟨⟨p, p1, by omega, p3⟩, r⟩]; omega
        · rw [i2 (fun ⟨⟨p, p1, p2, p3⟩, _⟩ => w ⟨⟨p, p1, by omega, p3⟩, r⟩)]; omega
    · rw [i2 (fun w => r w.2), if_neg (fun w => r w.2)]
      exact ⟨fun w => absurd w.2 r, fun _ => by omega⟩
theorem or_inj (ho : orR D s) : ∀ p q, 0 ≤ p → p < q → q < oN D s → oC D s p ≠ oC D s q := fun p q u v w e => by
  have := ho.2.2.1 p q u v w
  unfold oC at e
  rw [e] at this
  omega
theorem chl_len {f : Int} : ∀ (m : Nat) (p : Int), oN D s - p = (m : Int) → ((chl D s f p).length : Int) = sm (fun j => if oF D s (p + j) = f then 1 else 0) m := by
  intro m
  induction m with
  | zero => intro p hm; rw [chl_end (by omega)]; rfl
  | succ m ih =>
    intro p hm
    have i := ih (p + 1) (by omega)
    rw [show m + 1 = 1 + m from by omega, sm_add]
    have e1 : sm (fun j => if oF D s (p + j) = f then 1 else 0) 1 = if oF D s p = f then 1 else 0 := by
      rw [show (1 : Nat) = 0 + 1 from rfl, sm_succ]
      show 0 + (if oF D s (p + 0) = f then (1 : Int) else 0) = _
      rw [show p + 0 = p from by omega]; omega
    have e2 : sm (fun k => if oF D s (p + (((1 : Nat) : Int) + k)) = f then 1 else 0) m = sm (fun j => if oF D s (p + 1 + j) = f then 1 else 0) m := sm_ext (fun k _ _ => by rw [show p + (((1 : Nat) : Int) + k) = p + 1 + k from by omega])
    rw [e1, e2, ← i]
    by_cases e : oF D s p = f
    · rw [chl_yes (by omega) e, if_pos e, List.length_cons]; omega
    · rw [chl_no (by omega) e, if_neg e]; omega
/-- how many children of a family there are -/
theorem nch_len (hs : shR c D s) {f : Int} : nch D s f = ((chl D s f 0).length : Int) := by
  have ho := hs.2.2.2
  have h0 : 0 ≤ oN D s ∧ oN D s ≤ 24 := ⟨ho.1.1, ho.1.2.1⟩
  rw [chl_len (oN D s).toNat 0 (by omega)]
  have e1 : nch D s f = sm (fun k => sm (fun p => if oC D s p = k ∧ D (aC s k) 4 = f then 1 else 0) (oN D s).toNat) 24 := by
    unfold nch
    refine sm_ext (fun k u v => ?_)
    obtain ⟨i1, i2⟩ := sm_inj (g := oC D s) (k := k) (R := D (aC s k) 4 = f) (oN D s).toNat (fun p q x y z => or_inj ho p q x y (by omega))
    have hx : (D (aC s k) 3 ≠ 0 ∧ D (aC s k) 4 = f) ↔ ((∃ p, 0 ≤ p ∧ p < (((oN D s).toNat : Nat) : Int) ∧ oC D s p = k) ∧ D (aC s k) 4 = f) := by
      have b2 := (hs.2.2.1 k u (by omega)).2.1
      constructor
      · rintro ⟨a, b⟩
        obtain ⟨p, p1, p2, p3⟩ := ho.2.2.2 k u (by omega) (by omega)
        refine ⟨⟨p, p1, ?_, p3⟩, b⟩
        show p < (((oN D s).toNat : Nat) : Int)
        have : p < oN D s := p2
        omega
      · rintro ⟨⟨p, p1, p2, p3⟩, b⟩
        have := (or_in ho (p := p) (by omega)).2.2
        rw [p3] at this
        exact ⟨by omega, b⟩
    by_cases e : D (aC s k) 3 ≠ 0 ∧ D (aC s k) 4 = f
    · rw [if_pos e, i1 (hx.mp e)]
    · rw [if_neg e, i2 (fun w => e (hx.mpr w))]
  rw [e1, sm_swap]
  refine sm_ext (fun p u v => ?_)
  have z := or_in ho (p := p) (by omega)
  rw [sm_sng (Q := fun k => D (aC s k) 4 = f) 24 z.1 (by have := z.2.1; omega), show (0 : Int) + p = p from by omega]
  rfl
theorem oN_sum (hs : shR c D s) : oN D s = sm (fun f => nch D s f) (D (5 + 975 * s) 4).toNat := by
  have ho := hs.2.2.2
  have h8 := hs.1
  unfold nch
  rw [sm_swap]
  have e : oN D s = sm (fun k => D (aC s k) 3) 24 := ho.1.2.2.symm
  rw [e]
  refine sm_ext (fun k u v => ?_)
  obtain ⟨b1, b2, b3⟩ := hs.2.2.1 k u (by omega)
  rcases b2 with z | z
  · have q := sm_z (n := (D (5 + 975 * s) 4).toNat) (g := fun f => if D (aC s k) 3 ≠ 0 ∧ D (aC s k) 4 = f then 1 else 0) (fun f _ _ => if_neg (fun w => w.1 z))
    show D (aC s k) 3 = sm (fun f => if D (aC s k) 3 ≠ 0 ∧ D (aC s k) 4 = f then 1 else 0) (D (5 + 975 * s) 4).toNat
    omega
  · have p1 := (b3 z).1
    have q := sm_sng (Q := fun _ => True) (x := D (aC s k) 4) (D (5 + 975 * s) 4).toNat p1.1 (by omega)
    rw [if_pos trivial] at q
    have q2 : sm (fun f => if D (aC s k) 3 ≠ 0 ∧ D (aC s k) 4 = f then 1 else 0) (D (5 + 975 * s) 4).toNat = sm (fun f => if D (aC s k) 4 = f ∧ True then 1 else 0) (D (5 + 975 * s) 4).toNat := sm_ext (fun f _ _ => by
      by_cases w : D (aC s k) 4 = f
      · rw [if_pos ⟨by omega, w⟩, if_pos ⟨w, trivial⟩]
      · rw [if_neg (fun y => w y.2), if_neg (fun y => w y.1)])
    show D (aC s k) 3 = sm (fun f => if D (aC s k) 3 ≠ 0 ∧ D (aC s k) 4 = f then 1 else 0) (D (5 + 975 * s) 4).toNat
    omega
/-! the class -/
def exk (D : tD) (X Y : Int) : Prop := D X 1 = D Y 1 ∧ D X 2 = D Y 2 ∧ D X 3 = D Y 3 ∧ eqr D (X + 2) (Y + 2)
def chk (D : tD) (k k' : Int) : Prop := eqr D (aC 0 k + 2) (aC 1 k' + 2) ∧ D (aC 0 k) 5 = D (aC 1 k') 5 ∧ D (aC 0 k) 6 = D (aC 1 k') 6 ∧ D (aC 0 k) 7 = D (aC 1 k') 7 ∧ ∀ b, 0 ≤ b → b < 7 → D (aC 0 k + 4) b = D (aC 1 k' + 4) b ∧ exk D (aX 0 k b) (aX 1 k' b)
theorem ex_sz {k b : Int} (hs : s = 0 ∨ s = 1) (hk : 0 ≤ k ∧ k < 24) (hb : 0 ≤ b ∧ b < 7) (h01 : 0 ≤ D (aX s k b) 1 ∧ D (aX s k b) 1 ≤ 1) (h : exR D (aX s k b) (7 * (24 * s + k) + b)) : 0 ≤ D (aX s k b + 2) 1 ∧ D (aX s k b + 2) 1 ≤ 44 := by
  obtain ⟨h1, h2, h3⟩ := h
  by_cases e : D (aX s k b) 1 = 1
  · have := (h2 e).2.2.1
    rw [this.1]; exact ⟨this.2.1, this.2.2.1⟩
  · have := (h3 (by omega)).2.2
    omega
theorem c_exlike {k k' b : Int} (hk : 0 ≤ k ∧ k < 24) (hk' : 0 ≤ k' ∧ k' < 24) (hb : 0 ≤ b ∧ b < 7) (h1 : exR D (aX 0 k b) (7 * (24 * 0 + k) + b)) (h2 : exR D (aX 1 k' b) (7 * (24 * 1 + k') + b)) (hT : exk D (aX 0 k b) (aX 1 k' b) → K D 1) (hN : ¬ exk D (aX 0 k b) (aX 1 k' b) → K D 0) : WP sc 54 0 D [(0, (1203, aX 0 k b)), (1, (1203, aX 1 k' b))] [] K E := by
  refine v54_0 (fun a1 a2 => ?_)
  have z1 := ex_sz (Or.inl rfl) hk hb a1 h1
  have z2 := ex_sz (Or.inr rfl) hk' hb a2 h2
  by_cases e1 : D (aX 0 k b) 1 = D (aX 1 k' b) 1
  · rw [if_pos e1]
    by_cases e2 : D (aX 0 k b) 2 = D (aX 1 k' b) 2
    · rw [if_pos (tlc_eq.mpr e2)]
      by_cases e3 : D (aX 0 k b) 3 = D (aX 1 k' b) 3
      · rw [if_pos (tlc_eq.mpr e3), show aX 0 k b + 1 + 1 = aX 0 k b + 2 from by omega, show aX 1 k' b + 1 + 1 = aX 1 k' b + 2 from by omega]
        refine c_like (by rw [show aX 0 k b + 2 + 1 = aX 0 k b + 3 from by omega, ln_ex (Or.inl rfl) hk hb]; omega) (by rw [show aX 1 k' b + 2 + 1 = aX 1 k' b + 3 from by omega, ln_ex (Or.inr rfl) hk' hb]; omega) (by omega) (fun q => ?_) (fun q => ?_)
        · rw [if_neg (by omega)]; exact hT ⟨e1, e2, e3, q⟩
        · rw [if_pos rfl]; exact hN (fun w => q w.2.2.2)
      · rw [if_neg (fun w => e3 (tlc_eq.mp w))]; exact hN (fun w => e3 w.2.2.1)
    · rw [if_neg (fun w => e2 (tlc_eq.mp w))]; exact hN (fun w => e2 w.2.1)
  · rw [if_neg e1]; exact hN (fun w => e1 w.1)
theorem c_chlike1 {k k' : Int} (hk : 0 ≤ k ∧ k < 24) (hk' : 0 ≤ k' ∧ k' < 24) (h1 : chR c D 0 k) (h2 : chR c D 1 k') (hT : chk D k k' → K D 1) (hN : ¬ chk D k k' → K D 0) : ∀ (m : Nat) (b g : Int), 7 - b = (m : Int) → 0 ≤ b → ((g = 0 ∧ ¬ chk D k k') ∨ (g = 1 ∧ (eqr D (aC 0 k + 2) (aC 1 k' + 2) ∧ D (aC 0 k) 5 = D (aC 1 k') 5 ∧ D (aC 0 k) 6 = D (aC 1 k') 6 ∧ D (aC 0 k) 7 = D (aC 1 k') 7) ∧ ∀ j, 0 ≤ j → j < b → D (aC 0 k + 4) j = D (aC 1 k' + 4) j ∧ exk D (aX 0 k j) (aX 1 k' j))) → WP sc 39 63 D [(0, (1201, aC 0 k)), (1, (1201, aC 1 k')), (2, (0, g)), (3, (0, b))] [] K E := by
  intro m
  induction m with
  | zero =>
    intro b g hm hb hg
    refine v39_63 ?_
    rcases hg with ⟨e, h⟩ | ⟨e, h, h'⟩
    · rw [if_pos e, e]; exact tbl_of (Or.inl rfl) (hN h)
    · rw [if_neg (by omega), ln_cnt (Or.inl rfl) hk, if_neg (by omega), e]
      exact tbl_of (Or.inr rfl) (hT ⟨h.1, h.2.1, h.2.2.1, h.2.2.2, fun j u v => h' j u (by omega)⟩)
  | succ m ih =>
    intro b g hm hb hg
    refine v39_63 ?_
    rcases hg with ⟨e, h⟩ | ⟨e, h, h'⟩
    · rw [if_pos e, e]; exact tbl_of (Or.inl rfl) (hN h)
    · rw [if_neg (by omega), ln_cnt (Or.inl rfl) hk, if_pos (by omega), w32_id (x := b + 1) (by omega) (by omega)]
      refine ⟨by omega, v34_0 ?_⟩
      rw [if_neg (by omega), ln_cnt (Or.inr rfl) hk', if_pos (by omega)]
      refine ⟨by omega, ?_⟩
      by_cases e1 : D (aC 0 k + 4) b = D (aC 1 k' + 4) b
      · rw [if_pos (tlc_eq.mpr e1), ln_exs (Or.inl rfl) hk, ln_exs (Or.inr rfl) hk', show aC 0 k + 5 + 1 + 4 * b = aX 0 k b from by unfold aC aX; omega, show aC 1 k' + 5 + 1 + 4 * b = aX 1 k' b from by unfold aC aX; omega]
        refine ⟨by omega, by omega, c_exlike hk hk' (by omega) (h1.2.2.2.2.2.2 b hb (by omega)) (h2.2.2.2.2.2.2 b hb (by omega)) (fun q => ?_) (fun q => ?_)⟩
        · rw [if_neg (by omega)]
          refine ih _ _ (by omega) (by omega) (Or.inr ⟨rfl, h, fun j u v => ?_⟩)
          by_cases z : j = b
          · rw [z]; exact ⟨e1, q⟩
          · exact h' j u (by omega)
        · rw [if_pos rfl]
          exact ih _ _ (by omega) (by omega) (Or.inl ⟨rfl, fun w => q (w.2.2.2.2 b hb (by omega)).2⟩)
      · rw [if_neg (fun w => e1 (tlc_eq.mp w))]
        exact ih _ _ (by omega) (by omega) (Or.inl ⟨rfl, fun w => e1 (w.2.2.2.2 b hb (by omega)).1⟩)
theorem c_chlike {k k' : Int} (hk : 0 ≤ k ∧ k < 24) (hk' : 0 ≤ k' ∧ k' < 24) (h1 : chR c D 0 k) (h2 : chR c D 1 k') (hT : chk D k k' → K D 1) (hN : ¬ chk D k k' → K D 0) : WP sc 39 0 D [(0, (1201, aC 0 k)), (1, (1201, aC 1 k'))] [] K E := by
  have z1 := h1.2.1.1
  have z2 := h2.2.1.1
  have go := c_chlike1 (sc := sc) (E := E) hk hk' h1 h2 hT hN 7 0
  refine v39_0 ?_
  rw [show aC 0 k + 1 + 1 = aC 0 k + 2 from by omega, show aC 1 k' + 1 + 1 = aC 1 k' + 2 from by omega]
  refine c_like (by rw [show aC 0 k + 2 + 1 = aC 0 k + 3 from by omega, ln_lab (Or.inl rfl) hk, z1.1]; exact z1.2.2.1) (by rw [show aC 1 k' + 2 + 1 = aC 1 k' + 3 from by omega, ln_lab (Or.inr rfl) hk', z2.1]; exact z2.2.2.1) (by rw [z1.1]; have := z1.2.2.1; omega) (fun q => ?_) (fun q => ?_)
  · rw [if_neg (by omega)]
    by_cases e1 : D (aC 0 k) 5 = D (aC 1 k') 5
    · rw [if_pos (tlc_eq.mpr e1)]
      by_cases e2 : D (aC 0 k) 6 = D (aC 1 k') 6
      · rw [if_pos (tlc_eq.mpr e2)]
        by_cases e3 : D (aC 0 k) 7 = D (aC 1 k') 7
        · rw [if_pos e3]
          exact go 1 (by omega) (by omega) (Or.inr ⟨rfl, ⟨q, e1, e2, e3⟩, fun j u v => by omega⟩)
        · rw [if_neg e3]; exact go 0 (by omega) (by omega) (Or.inl ⟨rfl, fun w => e3 w.2.2.2.1⟩)
      · rw [if_neg (fun w => e2 (tlc_eq.mp w))]; exact go 0 (by omega) (by omega) (Or.inl ⟨rfl, fun w => e2 w.2.2.1⟩)
    · rw [if_neg (fun w => e1 (tlc_eq.mp w))]; exact go 0 (by omega) (by omega) (Or.inl ⟨rfl, fun w => e1 w.2.1⟩)
  · rw [if_pos rfl]; exact go 0 (by omega) (by omega) (Or.inl ⟨rfl, fun w => q w.1⟩)
/-- two lists match -/
def mtc (P : Int → Int → Prop) : List Int → List Int → Prop
  | [], [] => True
  | a :: l, b :: m => P a b ∧ mtc P l m
  | _, _ => False
theorem mtc_len {P : Int → Int → Prop} : ∀ {l m : List Int}, mtc P l m → l.length = m.length := by
  intro l
  induction l with
  | nil =>
    intro m h
    cases m with
    | nil => rfl
    | cons b m => exact absurd h (fun z => z)
  | cons a l ih =>
    intro m h
    cases m with
    | nil => exact absurd h (fun z => z)
    | cons b m => rw [List.length_cons, List.length_cons, ih h.2]
theorem mtc_iff {P Q : Int → Int → Prop} : ∀ {l m : List Int}, (∀ a ∈ l, ∀ b ∈ m, P a b ↔ Q a b) → (mtc P l m ↔ mtc Q l m) := by
  intro l
  induction l with
  | nil =>
    intro m _
    cases m with
    | nil => exact Iff.rfl
    | cons b m => exact Iff.rfl
  | cons a l ih =>
    intro m h
    cases m with
    | nil => exact Iff.rfl
    | cons b m =>
      show P a b ∧ mtc P l m ↔ Q a b ∧ mtc Q l m
      rw [h a (by simp) b (by simp), ih (fun x hx y hy => h x (by simp [hx]) y (by simp [hy]))]
theorem c_likeCh1 {f : Int} (h0 : shR c D 0) (h1 : shR c D 1) (hT : mtc (chk D) (chl D 0 f 0) (chl D 1 f 0) → K D 1) (hN : ¬ mtc (chk D) (chl D 0 f 0) (chl D 1 f 0) → K D 0) : ∀ (m : Nat) (p q : Int), oN D 0 - p = (m : Int) → 0 ≤ p → (0 ≤ q ∧ q ≤ oN D 1) → (mtc (chk D) (chl D 0 f p) (chl D 1 f q) ↔ mtc (chk D) (chl D 0 f 0) (chl D 1 f 0)) → WP sc 121 5 D [(0, (1208, 5)), (1, (0, f)), (2, (1208, 980)), (3, (0, q)), (4, (0, p))] [] K E := by
  have o0 := h0.2.2.2
  have o1 := h1.2.2.2
  have n0 : 0 ≤ oN D 0 ∧ oN D 0 ≤ 24 := ⟨o0.1.1, o0.1.2.1⟩
  have n1 : 0 ≤ oN D 1 ∧ oN D 1 ≤ 24 := ⟨o1.1.1, o1.1.2.1⟩
  have N0 : D 5 5 = oN D 0 := rfl
  have N1 : D 980 5 = oN D 1 := rfl
  intro m
  induction m with
  | zero =>
    intro p q hm hp hq hi
    refine v121_5 ?_
    rw [N0, if_neg (by omega)]
    rw [show (980 : Int) = 5 + 975 * 1 from rfl]
    refine c_next (s := 1) (Or.inr rfl) o1 hq (fun p' hp' => ?_)
    rw [show D (5 + 975 * 1) 5 = oN D 1 from rfl]
    rw [chl_end (s := 0) (by omega), chl_nxt hp'] at hi
    have := hp'.1
    by_cases e : p' = oN D 1
    · rw [if_pos e]
      rw [if_neg (by omega)] at hi
      exact hT (hi.mp trivial)
    · rw [if_neg e]
      rw [if_pos (by omega)] at hi
      exact hN (fun w => hi.mpr w)
  | succ m ih =>
    intro p q hm hp hq hi
    refine v121_5 ?_
    rw [N0, if_pos (by omega), show (5 : Int) = 5 + 975 * 0 from rfl, w32_id (x := p + 1) (by omega) (by omega)]
    refine c_inOrd (s := 0) (Or.inl rfl) o0 hp (fun u => ?_) (fun u => absurd (by omega) u)
    have z := or_in o0 (p := p) (by omega)
    rw [if_neg (by unfold aC; omega)]
    by_cases e : D (aC 0 (oC D 0 p)) 4 = f
    · rw [if_pos e]
      rw [chl_yes (s := 0) (by omega) e] at hi
      rw [show (980 : Int) = 5 + 975 * 1 from rfl]
      refine c_next (s := 1) (Or.inr rfl) o1 hq (fun p' hp' => c_inOrd (s := 1) (Or.inr rfl) o1 (by have := hp'.1; omega) (fun u' => ?_) (fun u' => ?_))
      · rw [chl_nxt hp', if_pos u'] at hi
        have q1 := hp'.1
        have z' := or_in o1 (p := p') (by omega)
        rw [if_neg (by unfold aC; omega)]
        refine c_chlike ⟨z.1, z.2.1⟩ ⟨z'.1, z'.2.1⟩ ((h0.2.2.1 _ z.1 z.2.1).2.2 z.2.2) ((h1.2.2.1 _ z'.1 z'.2.1).2.2 z'.2.2) (fun w => ?_) (fun w => ?_)
        · rw [if_neg (by omega), w32_id (x := p' + 1) (by omega) (by omega)]
          exact ih (p + 1) (p' + 1) (by omega) (by omega) (by omega) ⟨fun y => hi.mp ⟨w, y⟩, fun y => (hi.mpr y).2⟩
        · rw [if_pos rfl]
          exact hN (fun y => w (hi.mpr y).1)
      · rw [chl_nxt hp', if_neg u'] at hi
        rw [if_pos rfl]
        exact hN (fun y => hi.mpr y)
    · rw [if_neg e]
      rw [chl_no (s := 0) (by omega) e] at hi
      exact ih (p + 1) q (by omega) (by omega) hq hi
theorem c_likeCh {f : Int} (h0 : shR c D 0) (h1 : shR c D 1) (hT : mtc (chk D) (chl D 0 f 0) (chl D 1 f 0) → K D 1) (hN : ¬ mtc (chk D) (chl D 0 f 0) (chl D 1 f 0) → K D 0) : WP sc 121 0 D [(0, (1208, 5)), (1, (0, f)), (2, (1208, 980))] [] K E := by
  have n0 : 0 ≤ oN D 0 := h0.2.2.2.1.1
  have n1 : 0 ≤ oN D 1 := h1.2.2.2.1.1
  exact v121_0 (c_likeCh1 h0 h1 hT hN (oN D 0).toNat 0 0 (by omega) (by omega) (by omega) Iff.rfl)
/-- bounds and states -/
def prk (D : tD) (f : Int) : Prop := D (aF 0 f) 6 = D (aF 1 f) 6 ∧ D (aF 0 f) 7 = D (aF 1 f) 7 ∧ (∀ j, 0 ≤ j → j < D (aF 0 f) 6 → D (aF 0 f + 7) j = D (aF 1 f + 7) j) ∧ ∀ j, 0 ≤ j → j < D (aF 0 f) 7 → eqr D (aF 0 f + 9 + 2 * j) (aF 1 f + 9 + 2 * j)
theorem c_parts {f : Int} (hf : 0 ≤ f ∧ f < 8) (h0 : faR D 0 f) (h1 : faR D 1 f) (hT : prk D f → K D 1) (hN : ¬ prk D f → K D 0) : WP sc 63 0 D [(0, (1204, aF 0 f)), (1, (1204, aF 1 f))] [] K E := by
  have a6 := h0.2.2.2.2.1
  have a7 := h0.2.2.2.2.2.1
  have b7 := h1.2.2.2.2.2.1
  refine v63_0 ?_
  by_cases e6 : D (aF 0 f) 6 = D (aF 1 f) 6
  · rw [if_pos e6]
    by_cases e7 : D (aF 0 f) 7 = D (aF 1 f) 7
    · rw [if_pos e7]
      have st : (∀ j, 0 ≤ j → j < D (aF 0 f) 6 → D (aF 0 f + 7) j = D (aF 1 f + 7) j) → ∀ (m : Nat) (k : Int), 4 - k = (m : Int) → 0 ≤ k → (∀ j, 0 ≤ j → j < k → j < D (aF 0 f) 7 → eqr D (aF 0 f + 9 + 2 * j) (aF 1 f + 9 + 2 * j)) → WP sc 63 66 D [(0, (1204, aF 0 f)), (1, (1204, aF 1 f)), (2, (0, k))] [] K E := by
        intro hb m
        induction m with
        | zero =>
          intro k hm hk hj
          refine v63_66 ?_
          rw [if_neg (by omega)]
          exact hT ⟨e6, e7, hb, fun j u v => hj j u (by omega) v⟩
        | succ m ih =>
          intro k hm hk hj
          refine v63_66 ?_
          by_cases e : k < D (aF 0 f) 7
          · have g1 := (a7.2.2.2.2 k hk e).1
            have g2 := (b7.2.2.2.2 k hk (by omega)).1
            rw [if_pos e, if_pos (by omega), ln_sts (Or.inl rfl) (by omega), ln_sts (Or.inr rfl) (by omega), show aF 0 f + 8 + 1 + 2 * k = aF 0 f + 9 + 2 * k from by omega, show aF 1 f + 8 + 1 + 2 * k = aF 1 f + 9 + 2 * k from by omega]
            refine ⟨by omega, by omega, c_like (by rw [show aF 0 f + 9 + 2 * k + 1 = aF 0 f + 10 + 2 * k from by omega, ln_st (Or.inl rfl) (by omega) (by omega), g1.1]; exact g1.2.2.1) (by rw [show aF 1 f + 9 + 2 * k + 1 = aF 1 f + 10 + 2 * k from by omega, ln_st (Or.inr rfl) (by omega) (by omega), g2.1]; exact g2.2.2.1) (by rw [g1.1]; have := g1.2.2.1; omega) (fun q => ?_) (fun q => ?_)⟩
            · rw [if_neg (by omega), w32_id (by omega) (by omega)]
              refine ih (k + 1) (by omega) (by omega) (fun j u v w => ?_)
              by_cases z : j = k
              · rw [z]; exact q
              · exact hj j u (by omega) w
            · rw [if_pos rfl]
              exact hN (fun w => q (w.2.2.2 k hk e))
          · rw [if_neg e]
            exact hT ⟨e6, e7, hb, fun j u v => hj j u (by omega) v⟩
      have bd : ∀ (m : Nat) (k : Int), 6 - k = (m : Int) → 0 ≤ k → (∀ j, 0 ≤ j → j < k → j < D (aF 0 f) 6 → D (aF 0 f + 7) j = D (aF 1 f + 7) j) → WP sc 63 26 D [(0, (1204, aF 0 f)), (1, (1204, aF 1 f)), (2, (0, k))] [] K E := by
        intro m
        induction m with
        | zero =>
          intro k hm hk hj
          refine v63_26 ?_
          rw [if_neg (by omega)]
          exact st (fun j u v => hj j u (by omega) v) 4 0 (by omega) (by omega) (fun j u v => by omega)
        | succ m ih =>
          intro k hm hk hj
          refine v63_26 ?_
          by_cases e : k < D (aF 0 f) 6
          · rw [if_pos e, if_pos (by omega), ln_bnd (Or.inl rfl) (by omega), ln_bnd (Or.inr rfl) (by omega)]
            refine ⟨by omega, by omega, ?_⟩
            by_cases q : D (aF 0 f + 7) k = D (aF 1 f + 7) k
            · rw [if_pos (tlc_eq.mpr q), w32_id (by omega) (by omega)]
              refine ih (k + 1) (by omega) (by omega) (fun j u v w => ?_)
              by_cases z : j = k
              · rw [z]; exact q
              · exact hj j u (by omega) w
            · rw [if_neg (fun w => q (tlc_eq.mp w))]
              exact hN (fun w => q (w.2.2.1 k hk e))
          · rw [if_neg e]
            exact st (fun j u v => hj j u (by omega) v) 4 0 (by omega) (by omega) (fun j u v => by omega)
      exact bd 6 0 (by omega) (by omega) (fun j u v => by omega)
    · rw [if_neg e7]; exact hN (fun w => e7 w.2.1)
  · rw [if_neg e6]; exact hN (fun w => e6 w.1)
/-- a family is alike on both sheets, for the class -/
def fmC (D : tD) (f : Int) : Prop := flk D (aF 0 f) (aF 1 f) ∧ mtc (chk D) (chl D 0 f 0) (chl D 1 f 0) ∧ (0 < nch D 0 f → prk D f)
def smC (D : tD) : Prop := D 5 4 = D 980 4 ∧ oN D 0 = oN D 1 ∧ ∀ f, 0 ≤ f → f < D 5 4 → fmC D f
theorem fsz_of {f : Int} (hs : s = 0 ∨ s = 1) (hf : 0 ≤ f ∧ f < 8) (h : faR D s f) : fsz D (aF s f) := by
  obtain ⟨_, ⟨g1, _⟩, g2, ⟨g3, _⟩, _⟩ := h
  refine ⟨?_, ?_, ?_, ln_nam hs (by omega), ln_uni hs (by omega), ln_hel hs (by omega)⟩
  · rw [g1.1]; exact ⟨g1.2.1, g1.2.2.1⟩
  · rw [g2.1]; exact ⟨g2.2.1, g2.2.2.1⟩
  · rw [g3.1]; exact ⟨g3.2.1, g3.2.2.1⟩
theorem c_same (h0 : shR c D 0) (h1 : shR c D 1) (hT : smC D → K D 1) (hN : ¬ smC D → K D 0) : WP sc 21 0 D [(0, (1200, 0))] [] K E := by
  have a8 := h0.1
  have b8 := h1.1
  rw [show (5 : Int) + 975 * 0 = 5 from rfl] at a8
  rw [show (5 : Int) + 975 * 1 = 980 from rfl] at b8
  have l6 : ln (5 + 1) = 9 := rfl
  have l7 : ln (980 + 1) = 9 := rfl
  have yes : smC D → tbl 1 (K D 1) := fun h => tbl_of (Or.inr rfl) (hT h)
  have no : ¬ smC D → tbl 0 (K D 0) := fun h => tbl_of (Or.inl rfl) (hN h)
  refine v21_0 (v120_0 ?_)
  by_cases e4 : D 5 4 = D 980 4
  · rw [if_pos e4]
    by_cases e5 : D 5 5 = D 980 5
    · rw [if_pos e5]
      have loop : ∀ (m : Nat) (f : Int), D 5 4 - f = (m : Int) → 0 ≤ f → (∀ g, 0 ≤ g → g < f → fmC D g) → WP sc 120 26 D [(0, (1208, 5)), (1, (1208, 980)), (2, (0, f))] [] (fun D1 r2 => tbl r2 (K D1 r2)) E := by
        intro m
        induction m with
        | zero =>
          intro f hm hf hg
          refine v120_26 ?_
          rw [if_neg (by omega)]
          exact yes ⟨e4, e5, fun g u v => hg g u (by omega)⟩
        | succ m ih =>
          intro f hm hf hg
          have fa0 := h0.2.1 f hf (by rw [show (5 : Int) + 975 * 0 = 5 from rfl]; omega)
          have fa1 := h1.2.1 f hf (by rw [show (5 : Int) + 975 * 1 = 980 from rfl]; omega)
          have go : fmC D f → WP sc 120 26 D [(0, (1208, 5)), (1, (1208, 980)), (2, (0, f + 1))] [] (fun D1 r2 => tbl r2 (K D1 r2)) E := fun w => ih (f + 1) (by omega) (by omega) (fun g u v => by
            by_cases z : g = f
            · rw [z]; exact w
            · exact hg g u (by omega))
          refine v120_26 ?_
          rw [if_pos (by omega), l6, l7, show (5 : Int) + 1 + 1 + 17 * f = aF 0 f from by unfold aF; omega, show (980 : Int) + 1 + 1 + 17 * f = aF 1 f from by unfold aF; omega, w32_id (x := f + 1) (by omega) (by omega)]
          refine ⟨by omega, by omega, c_flike (fsz_of (Or.inl rfl) (by omega) fa0) (fsz_of (Or.inr rfl) (by omega) fa1) (fun w1 => ?_) (fun w1 => ?_)⟩
          · rw [if_neg (by omega)]
            refine c_likeCh h0 h1 (fun w2 => ?_) (fun w2 => ?_)
            · rw [if_neg (by omega), show (5 : Int) = 5 + 975 * 0 from rfl]
              refine c_chOf (s := 0) (Or.inl rfl) ?_
              rw [show (5 : Int) + 975 * 0 = 5 from rfl]
              by_cases e : 0 < nch D 0 f
              · rw [if_pos e]
                refine ⟨by omega, by omega, c_parts (by omega) fa0 fa1 (fun w3 => ?_) (fun w3 => ?_)⟩
                · rw [if_neg (by omega)]
                  exact go ⟨w1, w2, fun _ => w3⟩
                · rw [if_pos rfl]
                  exact no (fun w => w3 ((w.2.2 f hf (by omega)).2.2 e))
              · rw [if_neg e]
                exact go ⟨w1, w2, fun z => absurd z e⟩
            · rw [if_pos rfl]
              exact no (fun w => w2 (w.2.2 f hf (by omega)).2.1)
          · rw [if_pos rfl]
            exact no (fun w => w1 (w.2.2 f hf (by omega)).1)
      exact loop (D 5 4).toNat 0 (by omega) (by omega) (fun g u v => by omega)
    · rw [if_neg e5]; exact no (fun w => e5 w.2.1)
  · rw [if_neg e4]; exact no (fun w => e4 w.1)
end SMA
