/-! same: the other side, and the law's loop -/
section SMB
variable {sc : Nat × (Nat → Int32)} {D D' : tD} {K : tD → Int → Prop} {E : tD → Nat → Prop} {c s i : Int}
def mrw (D : tD) (arr a n b m : Int) : Prop := n = m ∧ ∀ j, 0 ≤ j → j < n → D arr (a + j) = D arr (b + j)
theorem m_rows1 {arr a n b m : Int} (hb : 0 ≤ a ∧ 0 ≤ b ∧ a + n ≤ ln arr ∧ b + n ≤ ln arr ∧ a + n ≤ 1000000 ∧ b + n ≤ 1000000) (hT : mrw D arr a n b m → K D 1) (hN : ¬ mrw D arr a n b m → K D 0) : ∀ (q : Nat) (k g : Int), n - k ≤ (q : Int) → 0 ≤ k → k ≤ 1000000 → ((g = 0 ∧ ¬ mrw D arr a n b m) ∨ (g = 1 ∧ n = m ∧ ∀ j, 0 ≤ j → j < k → D arr (a + j) = D arr (b + j))) → WP sc 286 16 D [(1, (1000, arr)), (2, (0, a)), (3, (0, n)), (4, (0, b)), (6, (0, g)), (7, (0, k))] [] K E := by
  intro q
  have fin : ∀ (k g : Int), n ≤ k → ((g = 0 ∧ ¬ mrw D arr a n b m) ∨ (g = 1 ∧ n = m ∧ ∀ j, 0 ≤ j → j < k → D arr (a + j) = D arr (b + j))) → tbl g (K D g) := fun k g hk hg => by
    rcases hg with ⟨e, h⟩ | ⟨e, h, h'⟩
    · rw [e]; exact tbl_of (Or.inl rfl) (hN h)
    · rw [e]; exact tbl_of (Or.inr rfl) (hT ⟨h, fun j u v => h' j u (by omega)⟩)
  induction q with
  | zero =>
    intro k g hq hk hk2 hg
    refine v286_16 ?_
    rw [if_neg (by omega)]
    exact fin k g (by omega) hg
  | succ q ih =>
    intro k g hq hk hk2 hg
    refine v286_16 ?_
    by_cases e : k < n
    · rw [if_pos e]
      rcases hg with ⟨e0, h⟩ | ⟨e0, h, h'⟩
      · rw [if_pos e0, e0]; exact tbl_of (Or.inl rfl) (hN h)
      · rw [if_neg (by omega), w32_id (x := a + k) (by omega) (by omega), w32_id (x := b + k) (by omega) (by omega), w32_id (x := k + 1) (by omega) (by omega)]
        refine ⟨by omega, by omega, ?_⟩
        by_cases z : D arr (a + k) = D arr (b + k)
        · rw [if_pos z]
          refine ih _ _ (by omega) (by omega) (by omega) (Or.inr ⟨rfl, h, fun j u v => ?_⟩)
          by_cases y : j = k
          · rw [y]; exact z
          · exact h' j u (by omega)
        · rw [if_neg z]
          exact ih _ _ (by omega) (by omega) (by omega) (Or.inl ⟨rfl, fun w => z (w.2 k hk e)⟩)
    · rw [if_neg e]
      exact fin k g (by omega) hg
theorem m_rows {arr a n b m : Int} (hb : 0 ≤ a ∧ 0 ≤ b ∧ a + n ≤ ln arr ∧ b + n ≤ ln arr ∧ a + n ≤ 1000000 ∧ b + n ≤ 1000000) (hn : 0 ≤ n) (hT : mrw D arr a n b m → K D 1) (hN : ¬ mrw D arr a n b m → K D 0) : WP sc 286 0 D [(0, (1211, 1977)), (1, (1000, arr)), (2, (0, a)), (3, (0, n)), (4, (0, b)), (5, (0, m))] [] K E := by
  have go := m_rows1 (sc := sc) (E := E) hb hT hN n.toNat 0
  refine v286_0 ?_
  by_cases e : n = m
  · rw [if_pos e]; exact go 1 (by omega) (by omega) (by omega) (Or.inr ⟨rfl, e, fun j u v => by omega⟩)
  · rw [if_neg e]; exact go 0 (by omega) (by omega) (by omega) (Or.inl ⟨rfl, fun w => e w.1⟩)
def msk (D : tD) (q r : Int) : Prop := D 2003 q = D 2003 r ∧ (D 2003 q = 1 → D 2004 q = D 2004 r ∧ D 2005 q = D 2005 r ∧ mrw D 2006 (44 * q) (D 2007 q) (44 * r) (D 2007 r))
theorem m_samp {q r : Int} (hq : 0 ≤ q ∧ q < 336) (hr : 0 ≤ r ∧ r < 336) (zq : D 2003 q = 1 → 0 ≤ D 2007 q ∧ D 2007 q ≤ 44) (hT : msk D q r → K D 1) (hN : ¬ msk D q r → K D 0) : WP sc 289 0 D [(0, (1211, 1977)), (1, (0, q)), (2, (0, r))] [] K E := by
  have l6 : ln 2006 = 14784 := rfl
  refine v289_0 ⟨hq, fun a1 => ?_⟩
  by_cases e1 : D 2003 q = 0
  · rw [if_pos e1]
    refine ⟨hq, fun _ => ⟨hr, fun a2 => ?_⟩⟩
    by_cases e : D 2003 q = D 2003 r
    · rw [if_pos e]; exact hT ⟨e, fun w => by omega⟩
    · rw [if_neg e]; exact hN (fun w => e w.1)
  rw [if_neg e1]
  refine ⟨hr, fun a2 => ?_⟩
  by_cases e2 : D 2003 r = 0
  · rw [if_pos e2]
    refine ⟨hq, fun _ => ⟨hr, fun _ => ?_⟩⟩
    rw [if_neg (by omega)]
    exact hN (fun w => by have := w.1; omega)
  rw [if_neg e2]
  refine ⟨hq, hr, ?_⟩
  by_cases e3 : D 2004 q = D 2004 r
  · rw [if_pos (tlc_eq.mpr e3)]
    refine ⟨hq, hr, ?_⟩
    by_cases e4 : D 2005 q = D 2005 r
    · rw [if_pos (tlc_eq.mpr e4), w32_id (x := 44 * q) (by omega) (by omega), w32_id (x := 44 * r) (by omega) (by omega)]
      have z := zq (by omega)
      refine ⟨hq, hr, m_rows (by rw [l6]; omega) z.1 (fun w => ?_) (fun w => ?_)⟩
      · rw [if_neg (by omega)]; exact hT ⟨by omega, fun _ => ⟨e3, e4, w⟩⟩
      · rw [if_pos rfl]; exact hN (fun y => w (y.2 (by omega)).2.2)
    · rw [if_neg (fun w => e4 (tlc_eq.mp w))]; exact hN (fun y => e4 (y.2 (by omega)).2.1)
  · rw [if_neg (fun w => e3 (tlc_eq.mp w))]; exact hN (fun y => e3 (y.2 (by omega)).1)
def mck (D : tD) (x y : Int) : Prop := mrw D 1997 (66 * x) (D 1998 x) (66 * y) (D 1998 y) ∧ D 1999 x = D 1999 y ∧ D 2000 x = D 2000 y ∧ D 2001 x = D 2001 y ∧ ∀ b, 0 ≤ b → b < 7 → D 2002 (7 * x + b) = D 2002 (7 * y + b) ∧ msk D (7 * x + b) (7 * y + b)
theorem m_chs {x y : Int} (hx : 0 ≤ x ∧ x < 48) (hy : 0 ≤ y ∧ y < 48) (zx : 0 ≤ D 1998 x ∧ D 1998 x ≤ 66) (ze : ∀ b, 0 ≤ b → b < 7 → D 2003 (7 * x + b) = 1 → 0 ≤ D 2007 (7 * x + b) ∧ D 2007 (7 * x + b) ≤ 44) (hT : mck D x y → K D 1) (hN : ¬ mck D x y → K D 0) : WP sc 288 0 D [(0, (1211, 1977)), (1, (0, x)), (2, (0, y))] [] K E := by
  have l97 : ln 1997 = 3168 := rfl
  have loop : ∀ (m : Nat) (b g : Int), 7 - b = (m : Int) → 0 ≤ b → ((g = 0 ∧ ¬ mck D x y) ∨ (g = 1 ∧ (mrw D 1997 (66 * x) (D 1998 x) (66 * y) (D 1998 y) ∧ D 1999 x = D 1999 y ∧ D 2000 x = D 2000 y ∧ D 2001 x = D 2001 y) ∧ ∀ j, 0 ≤ j → j < b → D 2002 (7 * x + j) = D 2002 (7 * y + j) ∧ msk D (7 * x + j) (7 * y + j))) → WP sc 288 87 D [(0, (1211, 1977)), (1, (0, x)), (2, (0, y)), (3, (0, g)), (4, (0, b))] [] K E := by
    intro m
    induction m with
    | zero =>
      intro b g hm hb hg
      refine v288_87 ?_
      rw [if_neg (by omega)]
      rcases hg with ⟨e, h⟩ | ⟨e, h, h'⟩
      · rw [e]; exact tbl_of (Or.inl rfl) (hN h)
      · rw [e]; exact tbl_of (Or.inr rfl) (hT ⟨h.1, h.2.1, h.2.2.1, h.2.2.2, fun j u v => h' j u (by omega)⟩)
    | succ m ih =>
      intro b g hm hb hg
      refine v288_87 ?_
      rw [if_pos (by omega), w32_id (x := b + 1) (by omega) (by omega)]
      rcases hg with ⟨e, h⟩ | ⟨e, h, h'⟩
      · rw [if_pos e]; exact ih _ _ (by omega) (by omega) (Or.inl ⟨rfl, h⟩)
      · rw [if_neg (by omega), w32_id (x := 7 * x) (by omega) (by omega), w32_id (x := 7 * y) (by omega) (by omega), w32_id (x := 7 * x + b) (by omega) (by omega), w32_id (x := 7 * y + b) (by omega) (by omega)]
        refine ⟨by omega, by omega, ?_⟩
        by_cases z : D 2002 (7 * x + b) = D 2002 (7 * y + b)
        · rw [if_pos (tlc_eq.mpr z)]
          refine m_samp (by omega) (by omega) (ze b hb (by omega)) (fun w => ?_) (fun w => ?_)
          · rw [if_neg (by omega)]
            refine ih _ _ (by omega) (by omega) (Or.inr ⟨rfl, h, fun j u v => ?_⟩)
            by_cases y : j = b
            · rw [y]; exact ⟨z, w⟩
            · exact h' j u (by omega)
          · rw [if_pos rfl]
            exact ih _ _ (by omega) (by omega) (Or.inl ⟨rfl, fun y => w (y.2.2.2.2 b hb (by omega)).2⟩)
        · rw [if_neg (fun w => z (tlc_eq.mp w))]
          exact ih _ _ (by omega) (by omega) (Or.inl ⟨rfl, fun y => z (y.2.2.2.2 b hb (by omega)).1⟩)
  refine v288_0 ⟨hx, hy, ?_⟩
  rw [w32_id (x := 66 * x) (by omega) (by omega), w32_id (x := 66 * y) (by omega) (by omega)]
  refine m_rows (by rw [l97]; omega) zx.1 (fun w => ?_) (fun w => ?_)
  · rw [if_neg (by omega)]
    refine ⟨hx, hy, ?_⟩
    by_cases e1 : D 1999 x = D 1999 y
    · rw [if_pos (tlc_eq.mpr e1)]
      refine ⟨hx, hy, ?_⟩
      by_cases e2 : D 2000 x = D 2000 y
      · rw [if_pos (tlc_eq.mpr e2)]
        refine ⟨hx, hy, ?_⟩
        by_cases e3 : D 2001 x = D 2001 y
        · rw [if_pos e3]; exact loop 7 0 1 (by omega) (by omega) (Or.inr ⟨rfl, ⟨w, e1, e2, e3⟩, fun j u v => by omega⟩)
        · rw [if_neg e3]; exact loop 7 0 0 (by omega) (by omega) (Or.inl ⟨rfl, fun y => e3 y.2.2.2.1⟩)
      · rw [if_neg (fun w => e2 (tlc_eq.mp w))]; exact loop 7 0 0 (by omega) (by omega) (Or.inl ⟨rfl, fun y => e2 y.2.2.1⟩)
    · rw [if_neg (fun w => e1 (tlc_eq.mp w))]; exact loop 7 0 0 (by omega) (by omega) (Or.inl ⟨rfl, fun y => e1 y.2.1⟩)
  · rw [if_pos rfl]; exact loop 7 0 0 (by omega) (by omega) (Or.inl ⟨rfl, fun y => w y.1⟩)
/-- the lists of the children, walked by the other side -/
theorem m_seq {f : Int} (h0 : shR c D 0) (h1 : shR c D 1) (hf : 0 ≤ f ∧ f < 8) (hT : mtc (fun a b => mck D (24 * 0 + a) (24 * 1 + b)) (chl D 0 f 0) (chl D 1 f 0) → K D 1) (hN : ¬ mtc (fun a b => mck D (24 * 0 + a) (24 * 1 + b)) (chl D 0 f 0) (chl D 1 f 0) → K D 0) : ∀ (m : Nat) (p q g : Int), oN D 0 - p ≤ (m : Int) → 0 ≤ p → 0 ≤ q → (p < oN D 0 → oF D 0 p = f) → (q < oN D 1 → oF D 1 q = f) → (p ≤ oN D 0 ∧ q ≤ oN D 1) → (chl D 0 f p).length = (chl D 1 f q).length → ((g = 0 ∧ ¬ mtc (fun a b => mck D (24 * 0 + a) (24 * 1 + b)) (chl D 0 f 0) (chl D 1 f 0)) ∨ (g = 1 ∧ (mtc (fun a b => mck D (24 * 0 + a) (24 * 1 + b)) (chl D 0 f p) (chl D 1 f q) ↔ mtc (fun a b => mck D (24 * 0 + a) (24 * 1 + b)) (chl D 0 f 0) (chl D 1 f 0)))) → WP sc 287 330 D [(0, (1211, 1977)), (1, (0, f)), (2, (0, 8 + f)), (3, (0, g)), (4, (0, if q < oN D 1 then 24 * 1 + oC D 1 q else -1)), (5, (0, if p < oN D 0 then 24 * 0 + oC D 0 p else -1))] [] K E := by
  have o0 := h0.2.2.2
  have o1 := h1.2.2.2
  intro m
  have done : ∀ (p q g : Int), oN D 0 ≤ p → (chl D 0 f p).length = (chl D 1 f q).length → ((g = 0 ∧ ¬ mtc (fun a b => mck D (24 * 0 + a) (24 * 1 + b)) (chl D 0 f 0) (chl D 1 f 0)) ∨ (g = 1 ∧ (mtc (fun a b => mck D (24 * 0 + a) (24 * 1 + b)) (chl D 0 f p) (chl D 1 f q) ↔ mtc (fun a b => mck D (24 * 0 + a) (24 * 1 + b)) (chl D 0 f 0) (chl D 1 f 0)))) → tbl g (K D g) := fun p q g hp hl hg => by
    rcases hg with ⟨e, h⟩ | ⟨e, h⟩
    · rw [e]; exact tbl_of (Or.inl rfl) (hN h)
    · rw [e]
      refine tbl_of (Or.inr rfl) (hT (h.mp ?_))
      rw [chl_end (s := 0) hp] at hl ⊢
      rw [List.length_eq_zero_iff.mp hl.symm]
      trivial
  induction m with
  | zero =>
    intro p q g hm hp hq hpf hqf hb hl hg
    refine v287_330 ?_
    rw [if_neg (show ¬ p < oN D 0 from by omega), if_pos (by omega)]
    exact done p q g (by omega) hl hg
  | succ m ih =>
    intro p q g hm hp hq hpf hqf hb hl hg
    refine v287_330 ?_
    by_cases e : p < oN D 0
    · have z := or_in o0 (p := p) ⟨hp, e⟩
      have yp := chl_yes e (hpf e)
      have eq : q < oN D 1 := by
        by_cases w : q < oN D 1
        · exact w
        · rw [yp, chl_end (s := 1) (by omega)] at hl
          simp at hl
      have z' := or_in o1 (p := q) ⟨hq, eq⟩
      have yq := chl_yes eq (hqf eq)
      rw [yp, yq] at hl hg
      rw [List.length_cons, List.length_cons] at hl
      have hch := (h0.2.2.1 _ z.1 z.2.1).2.2 z.2.2
      rw [if_pos e, if_neg (by omega), if_pos eq]
      rcases hg with ⟨eg, h⟩ | ⟨eg, h⟩
      · rw [if_pos eg, eg]; exact tbl_of (Or.inl rfl) (hN h)
      · rw [if_neg (by omega)]
        have go : ∀ g', ((g' = 0 ∧ ¬ mtc (fun a b => mck D (24 * 0 + a) (24 * 1 + b)) (chl D 0 f 0) (chl D 1 f 0)) ∨ (g' = 1 ∧ (mtc (fun a b => mck D (24 * 0 + a) (24 * 1 + b)) (chl D 0 f (p + 1)) (chl D 1 f (q + 1)) ↔ mtc (fun a b => mck D (24 * 0 + a) (24 * 1 + b)) (chl D 0 f 0) (chl D 1 f 0)))) → (0 ≤ 24 * 1 + oC D 1 q ∧ 24 * 1 + oC D 1 q < 48) ∧ (WP sc 248 0 D [(0, (1211, 1977)), (1, (0, 8 + f)), (2, (1, D 1996 (24 * 1 + oC D 1 q)))] [] (fun D4 r5 => (0 ≤ 24 * 0 + oC D 0 p ∧ 24 * 0 + oC D 0 p < 48) ∧ (WP sc 248 0 D4 [(0, (1211, 1977)), (1, (0, f)), (2, (1, D4 1996 (24 * 0 + oC D 0 p)))] [] (fun D7 r8 => WP sc 287 330 D7 [(0, (1211, 1977)), (1, (0, f)), (2, (0, 8 + f)), (3, (0, g')), (4, (0, r5)), (5, (0, r8))] [] K E) E)) E) := fun g' hg' => by
          refine ⟨by omega, ?_⟩
          have nb := m_next (sc := sc) (E := E) (K := fun D4 r5 => (0 ≤ 24 * 0 + oC D 0 p ∧ 24 * 0 + oC D 0 p < 48) ∧ (WP sc 248 0 D4 [(0, (1211, 1977)), (1, (0, f)), (2, (1, D4 1996 (24 * 0 + oC D 0 p)))] [] (fun D7 r8 => WP sc 287 330 D7 [(0, (1211, 1977)), (1, (0, f)), (2, (0, 8 + f)), (3, (0, g')), (4, (0, r5)), (5, (0, r8))] [] K E) E)) (c := c) (s := 1) (f := f) (q := q + 1) (b := D 1996 (24 * 1 + oC D 1 q)) (Or.inr rfl) h0 h1 hf (by omega) (ord_aft o1 ⟨hq, eq⟩) (fun q' hq' => ⟨by omega, ?_⟩)
          · rw [show 8 * (1 : Int) + f = 8 + f from by omega] at nb
            exact nb
          · have na := m_next (sc := sc) (E := E) (K := fun D7 r8 => WP sc 287 330 D7 [(0, (1211, 1977)), (1, (0, f)), (2, (0, 8 + f)), (3, (0, g')), (4, (0, if q' < oN D 1 then 24 * 1 + oC D 1 q' else -1)), (5, (0, r8))] [] K E) (c := c) (s := 0) (f := f) (q := p + 1) (b := D 1996 (24 * 0 + oC D 0 p)) (Or.inl rfl) h0 h1 hf (by omega) (ord_aft o0 ⟨hp, e⟩) (fun p' hp' => ?_)
            · rw [show 8 * (0 : Int) + f = f from by omega] at na
              exact na
            · have a1 := hp'.1
              have a2 := hq'.1
              have l1 := chl_nx (p' - (p + 1)).toNat (p + 1) (by omega) hp'
              have l2 := chl_nx (q' - (q + 1)).toNat (q + 1) (by omega) hq'
              exact ih p' q' g' (by omega) (by omega) (by omega) hp'.2.2 hq'.2.2 ⟨a1.2, a2.2⟩ (by rw [← l1, ← l2]; omega) (by rw [← l1, ← l2]; exact hg')
        refine m_chs (by omega) (by omega) (by have := hch.2.1.1; exact ⟨this.2.1, this.2.2.1⟩) (fun b u v w => ?_) (fun w => ?_) (fun w => ?_)
        · have ex := hch.2.2.2.2.2.2 b u v
          have := (ex.2.1 (by rw [ex.1]; exact w)).2.2.1
          exact ⟨this.2.1, this.2.2.1⟩
        · exact go 1 (Or.inr ⟨rfl, ⟨fun y => h.mp ⟨w, y⟩, fun y => (h.mpr y).2⟩⟩)
        · exact go 0 (Or.inl ⟨rfl, fun y => w (h.mpr y).1⟩)
    · rw [if_neg e, if_pos (by omega)]
      exact done p q g (by omega) hl hg
def mpk (D : tD) (f : Int) : Prop := D 1988 f = D 1988 (8 + f) ∧ D 1991 f = D 1991 (8 + f) ∧ (∀ j, 0 ≤ j → j < D 1988 f → D 1987 (6 * f + j) = D 1987 (6 * (8 + f) + j)) ∧ ∀ j, 0 ≤ j → j < D 1991 f → mrw D 1989 (12 * (4 * f + j)) (D 1990 (4 * f + j)) (12 * (4 * (8 + f) + j)) (D 1990 (4 * (8 + f) + j))
def mfk (D : tD) (f : Int) : Prop := D 1980 f = D 1980 (8 + f) ∧ mrw D 1981 (24 * f) (D 1982 f) (24 * (8 + f)) (D 1982 (8 + f)) ∧ mrw D 1983 (8 * f) (D 1984 f) (8 * (8 + f)) (D 1984 (8 + f)) ∧ mrw D 1985 (40 * f) (D 1986 f) (40 * (8 + f)) (D 1986 (8 + f))
def fmM (D : tD) (f : Int) : Prop := mfk D f ∧ nch D 0 f = nch D 1 f ∧ (nch D 0 f = 0 ∨ (mpk D f ∧ mtc (fun a b => mck D (24 * 0 + a) (24 * 1 + b)) (chl D 0 f 0) (chl D 1 f 0)))
theorem m_fams {f : Int} (h0 : shR c D 0) (h1 : shR c D 1) (hf : 0 ≤ f ∧ f < 8) (f0 : mfa D f) (f1 : mfa D (8 + f)) (hT : fmM D f → K D 1) (hN : ¬ fmM D f → K D 0) : WP sc 287 0 D [(0, (1211, 1977)), (1, (0, f)), (2, (0, 8 + f))] [] K E := by
  have l81 : ln 1981 = 384 := rfl
  have l83 : ln 1983 = 128 := rfl
  have l85 : ln 1985 = 640 := rfl
  have l89 : ln 1989 = 768 := rfl
  obtain ⟨a1, a2, a3, a4, a5, a6, a7, a8, a9⟩ := f0
  have e0 := mch_eq (s := 0) (f := f) (Or.inl rfl) h0 h1 hf
  have e1 := mch_eq (s := 1) (f := f) (Or.inr rfl) h0 h1 hf
  rw [show 8 * (0 : Int) + f = f from by omega] at e0
  rw [show 8 * (1 : Int) + f = 8 + f from by omega] at e1
  have o0 := h0.2.2.2
  have o1 := h1.2.2.2
  have n0 : 0 ≤ oN D 0 := o0.1.1
  have n1 : 0 ≤ oN D 1 := o1.1.1
  refine v287_0 ⟨by omega, by omega, ?_⟩
  rw [w32_id (x := 24 * f) (by omega) (by omega), w32_id (x := 24 * (8 + f)) (by omega) (by omega), w32_id (x := 8 * f) (by omega) (by omega), w32_id (x := 8 * (8 + f)) (by omega) (by omega), w32_id (x := 40 * f) (by omega) (by omega), w32_id (x := 40 * (8 + f)) (by omega) (by omega)]
  by_cases k1 : D 1980 f = D 1980 (8 + f)
  · rw [if_pos k1]
    refine ⟨by omega, by omega, m_rows (by rw [l81]; omega) a2.1 (fun w1 => ?_) (fun w1 => ?_)⟩
    · rw [if_neg (by omega)]
      refine ⟨by omega, by omega, m_rows (by rw [l83]; omega) a3.1 (fun w2 => ?_) (fun w2 => ?_)⟩
      · rw [if_neg (by omega)]
        refine ⟨by omega, by omega, m_rows (by rw [l85]; omega) a4.1 (fun w3 => ?_) (fun w3 => ?_)⟩
        · rw [if_neg (by omega)]
          have hm : mfk D f := ⟨k1, w1, w2, w3⟩
          refine c_mchOf ?_
          rw [e0]
          refine c_mchOf ?_
          rw [e1]
          by_cases en : nch D 0 f = nch D 1 f
          · rw [if_pos en]
            refine c_mchOf ?_
            rw [e0]
            by_cases ez : nch D 0 f = 0
            · rw [if_pos ez]; exact hT ⟨hm, en, Or.inl ez⟩
            · rw [if_neg ez]
              have hl : (chl D 0 f 0).length = (chl D 1 f 0).length := by
                have q0 := nch_len h0 (f := f)
                have q1 := nch_len h1 (f := f)
                omega
              /- the children -/
              have kids : ∀ g, (g = 0 → ¬ fmM D f) → (g = 0 ∨ g = 1) → (g = 1 → mpk D f) → WP sc 248 0 D [(0, (1211, 1977)), (1, (0, 8 + f)), (2, (1, (-1)))] [] (fun D1 r2 => WP sc 248 0 D1 [(0, (1211, 1977)), (1, (0, f)), (2, (1, (-1)))] [] (fun D4 r5 => WP sc 287 330 D4 [(0, (1211, 1977)), (1, (0, f)), (2, (0, 8 + f)), (3, (0, g)), (4, (0, r2)), (5, (0, r5))] [] K E) E) E := fun g hg0 hg hg1 => by
                have nb := m_next (sc := sc) (E := E) (K := fun D1 r2 => WP sc 248 0 D1 [(0, (1211, 1977)), (1, (0, f)), (2, (1, (-1)))] [] (fun D4 r5 => WP sc 287 330 D4 [(0, (1211, 1977)), (1, (0, f)), (2, (0, 8 + f)), (3, (0, g)), (4, (0, r2)), (5, (0, r5))] [] K E) E) (c := c) (s := 1) (f := f) (q := 0) (b := -1) (Or.inr rfl) h0 h1 hf (by omega) (ord_fst o1) (fun q' hq' => ?_)
                · rw [show 8 * (1 : Int) + f = 8 + f from by omega] at nb
                  exact nb
                · have na := m_next (sc := sc) (E := E) (K := fun D4 r5 => WP sc 287 330 D4 [(0, (1211, 1977)), (1, (0, f)), (2, (0, 8 + f)), (3, (0, g)), (4, (0, if q' < oN D 1 then 24 * 1 + oC D 1 q' else -1)), (5, (0, r5))] [] K E) (c := c) (s := 0) (f := f) (q := 0) (b := -1) (Or.inl rfl) h0 h1 hf (by omega) (ord_fst o0) (fun p' hp' => ?_)
                  · rw [show 8 * (0 : Int) + f = f from by omega] at na
                    exact na
                  · have b1 := hp'.1
                    have b2 := hq'.1
                    have l1 := chl_nx p'.toNat 0 (by omega) hp'
                    have l2 := chl_nx q'.toNat 0 (by omega) hq'
                    rcases hg with e | e
                    · rw [e]
                      /- the flag is down: the first step ends -/
                      refine v287_330 ?_
                      have t0 : tbl 0 (K D 0) := tbl_of (Or.inl rfl) (hN (hg0 e))
                      by_cases ep : (if p' < oN D 0 then 24 * 0 + oC D 0 p' else -1) < 0
                      · rw [if_pos ep]; exact t0
                      · rw [if_neg ep, if_pos rfl]; exact t0
                    · refine m_seq h0 h1 hf (fun w => hT ⟨hm, en, Or.inr ⟨hg1 e, w⟩⟩) (fun w => hN (fun y => ?_)) (oN D 0 - p').toNat p' q' g (by omega) (by omega) (by omega) hp'.2.2 hq'.2.2 ⟨b1.2, b2.2⟩ (by rw [← l1, ← l2]; exact hl) (Or.inr ⟨e, by rw [← l1, ← l2]⟩)
                      rcases y.2.2 with y | y
                      · exact ez y
                      · exact w y.2
              have kidsN : ¬ mpk D f → ¬ fmM D f := fun h y => by
                rcases y.2.2 with y | y
                · exact ez y
                · exact h y.1
              /- the states -/
              have sts : (D 1988 f = D 1988 (8 + f) ∧ D 1991 f = D 1991 (8 + f) → True) → ∀ (m : Nat) (k g : Int), 5 - k = (m : Int) → 0 ≤ k → ((g = 0 ∧ ¬ mpk D f) ∨ (g = 1 ∧ (D 1988 f = D 1988 (8 + f) ∧ D 1991 f = D 1991 (8 + f) ∧ ∀ j, 0 ≤ j → j < D 1988 f → D 1987 (6 * f + j) = D 1987 (6 * (8 + f) + j)) ∧ ∀ j, 0 ≤ j → j < k → j < D 1991 f → mrw D 1989 (12 * (4 * f + j)) (D 1990 (4 * f + j)) (12 * (4 * (8 + f) + j)) (D 1990 (4 * (8 + f) + j)))) → WP sc 287 240 D [(0, (1211, 1977)), (1, (0, f)), (2, (0, 8 + f)), (3, (0, g)), (4, (0, k))] [] K E := by
                intro _ m
                have fin : ∀ k g, D 1991 f ≤ k → ((g = 0 ∧ ¬ mpk D f) ∨ (g = 1 ∧ (D 1988 f = D 1988 (8 + f) ∧ D 1991 f = D 1991 (8 + f) ∧ ∀ j, 0 ≤ j → j < D 1988 f → D 1987 (6 * f + j) = D 1987 (6 * (8 + f) + j)) ∧ ∀ j, 0 ≤ j → j < k → j < D 1991 f → mrw D 1989 (12 * (4 * f + j)) (D 1990 (4 * f + j)) (12 * (4 * (8 + f) + j)) (D 1990 (4 * (8 + f) + j)))) → WP sc 248 0 D [(0, (1211, 1977)), (1, (0, 8 + f)), (2, (1, (-1)))] [] (fun D1 r2 => WP sc 248 0 D1 [(0, (1211, 1977)), (1, (0, f)), (2, (1, (-1)))] [] (fun D4 r5 => WP sc 287 330 D4 [(0, (1211, 1977)), (1, (0, f)), (2, (0, 8 + f)), (3, (0, g)), (4, (0, r2)), (5, (0, r5))] [] K E) E) E := fun k g hk hg => by
                  rcases hg with ⟨e, h⟩ | ⟨e, h, h'⟩
                  · exact kids g (fun _ => kidsN h) (Or.inl e) (fun z => by omega)
                  · exact kids g (fun z => by omega) (Or.inr e) (fun _ => ⟨h.1, h.2.1, h.2.2, fun j u v => h' j u (by omega) v⟩)
                induction m with
                | zero =>
                  intro k g hm hk hg
                  refine v287_240 ⟨by omega, ?_⟩
                  rw [if_neg (by omega)]
                  exact fin k g (by omega) hg
                | succ m ih =>
                  intro k g hm hk hg
                  refine v287_240 ⟨by omega, ?_⟩
                  by_cases e : k < D 1991 f
                  · rw [if_pos e]
                    rcases hg with ⟨eg, h⟩ | ⟨eg, h, h'⟩
                    · rw [if_pos eg]
                      exact kids g (fun _ => kidsN h) (Or.inl eg) (fun z => by omega)
                    · have z9 := a9 k hk e
                      rw [if_neg (by omega), w32_id (x := 4 * f) (by omega) (by omega), w32_id (x := 4 * (8 + f)) (by omega) (by omega), w32_id (x := 4 * f + k) (by omega) (by omega), w32_id (x := 4 * (8 + f) + k) (by omega) (by omega), w32_id (x := 12 * (4 * f + k)) (by omega) (by omega), w32_id (x := 12 * (4 * (8 + f) + k)) (by omega) (by omega), w32_id (x := k + 1) (by omega) (by omega)]
                      refine ⟨by omega, by omega, m_rows (by rw [l89]; omega) z9.1 (fun w => ?_) (fun w => ?_)⟩
                      · refine ih _ _ (by omega) (by omega) (Or.inr ⟨rfl, h, fun j u v y => ?_⟩)
                        by_cases z : j = k
                        · rw [z]; exact w
                        · exact h' j u (by omega) y
                      · exact ih _ _ (by omega) (by omega) (Or.inl ⟨rfl, fun y => w (y.2.2.2 k hk e)⟩)
                  · rw [if_neg e]
                    exact fin k g (by omega) hg
              /- the bounds -/
              have bds : ∀ (m : Nat) (k g : Int), 7 - k = (m : Int) → 0 ≤ k → ((g = 0 ∧ ¬ mpk D f) ∨ (g = 1 ∧ (D 1988 f = D 1988 (8 + f) ∧ D 1991 f = D 1991 (8 + f)) ∧ ∀ j, 0 ≤ j → j < k → j < D 1988 f → D 1987 (6 * f + j) = D 1987 (6 * (8 + f) + j))) → WP sc 287 182 D [(0, (1211, 1977)), (1, (0, f)), (2, (0, 8 + f)), (3, (0, g)), (4, (0, k))] [] K E := by
                intro m
                have fin : ∀ k g, D 1988 f ≤ k → ((g = 0 ∧ ¬ mpk D f) ∨ (g = 1 ∧ (D 1988 f = D 1988 (8 + f) ∧ D 1991 f = D 1991 (8 + f)) ∧ ∀ j, 0 ≤ j → j < k → j < D 1988 f → D 1987 (6 * f + j) = D 1987 (6 * (8 + f) + j))) → WP sc 287 240 D [(0, (1211, 1977)), (1, (0, f)), (2, (0, 8 + f)), (3, (0, g)), (4, (0, 0))] [] K E := fun k g hk hg => by
                  refine sts (fun _ => trivial) 5 0 g (by omega) (by omega) ?_
                  rcases hg with ⟨e, h⟩ | ⟨e, h, h'⟩
                  · exact Or.inl ⟨e, h⟩
                  · exact Or.inr ⟨e, ⟨h.1, h.2, fun j u v => h' j u (by omega) v⟩, fun j u v => by omega⟩
                induction m with
                | zero =>
                  intro k g hm hk hg
                  refine v287_182 ⟨by omega, ?_⟩
                  rw [if_neg (by omega)]
                  exact fin k g (by omega) hg
                | succ m ih =>
                  intro k g hm hk hg
                  refine v287_182 ⟨by omega, ?_⟩
                  by_cases e : k < D 1988 f
                  · rw [if_pos e]
                    rcases hg with ⟨eg, h⟩ | ⟨eg, h, h'⟩
                    · rw [if_pos eg]
                      exact sts (fun _ => trivial) 5 0 g (by omega) (by omega) (Or.inl ⟨eg, h⟩)
                    · rw [if_neg (by omega), w32_id (x := 6 * f) (by omega) (by omega), w32_id (x := 6 * (8 + f)) (by omega) (by omega), w32_id (x := 6 * f + k) (by omega) (by omega), w32_id (x := 6 * (8 + f) + k) (by omega) (by omega), w32_id (x := k + 1) (by omega) (by omega)]
                      refine ⟨by omega, by omega, ?_⟩
                      by_cases w : D 1987 (6 * f + k) = D 1987 (6 * (8 + f) + k)
                      · rw [if_pos (tlc_eq.mpr w)]
                        refine ih _ _ (by omega) (by omega) (Or.inr ⟨rfl, h, fun j u v y => ?_⟩)
                        by_cases z : j = k
                        · rw [z]; exact w
                        · exact h' j u (by omega) y
                      · rw [if_neg (fun y => w (tlc_eq.mp y))]
                        exact ih _ _ (by omega) (by omega) (Or.inl ⟨rfl, fun y => w (y.2.2.1 k hk e)⟩)
                  · rw [if_neg e]
                    exact fin k g (by omega) hg
              refine ⟨by omega, by omega, ?_⟩
              by_cases e6 : D 1988 f = D 1988 (8 + f)
              · rw [if_pos e6]
                refine ⟨by omega, by omega, ?_⟩
                by_cases e7 : D 1991 f = D 1991 (8 + f)
                · rw [if_pos e7]
                  exact bds 7 0 1 (by omega) (by omega) (Or.inr ⟨rfl, ⟨e6, e7⟩, fun j u v => by omega⟩)
                · rw [if_neg e7]
                  exact bds 7 0 0 (by omega) (by omega) (Or.inl ⟨rfl, fun y => e7 y.2.1⟩)
              · rw [if_neg e6]
                exact bds 7 0 0 (by omega) (by omega) (Or.inl ⟨rfl, fun y => e6 y.1⟩)
          · rw [if_neg en]; exact hN (fun w => en w.2.1)
        · rw [if_pos rfl]; exact hN (fun w => w3 w.1.2.2.2)
      · rw [if_pos rfl]; exact hN (fun w => w2 w.1.2.2.1)
    · rw [if_pos rfl]; exact hN (fun w => w1 w.1.2.1)
  · rw [if_neg k1]; exact hN (fun w => k1 w.1.1)
def smM (D : tD) : Prop := D 1979 0 = D 1979 1 ∧ ∀ f, 0 ≤ f → f < D 1979 0 → fmM D f
theorem m_sameL (h0 : shR c D 0) (h1 : shR c D 1) (hT : smM D → K D 1) (hN : ¬ smM D → K D 0) : ∀ (m : Nat) (f g : Int), D 1979 0 - f = (m : Int) → 0 ≤ f → ((g = 0 ∧ ¬ smM D) ∨ (g = 1 ∧ D 1979 0 = D 1979 1 ∧ ∀ j, 0 ≤ j → j < f → fmM D j)) → WP sc 290 28 D [(0, (1211, 1977)), (1, (0, g)), (2, (0, f))] [] K E := by
  have a8 := h0.1
  have b8 := h1.1
  intro m
  induction m with
  | zero =>
    intro f g hm hf hg
    refine v290_28 ⟨by decide +kernel, ?_⟩
    rw [if_neg (by omega)]
    rcases hg with ⟨e, h⟩ | ⟨e, h, h'⟩
    · rw [e]; exact tbl_of (Or.inl rfl) (hN h)
    · rw [e]; exact tbl_of (Or.inr rfl) (hT ⟨h, fun j u v => h' j u (by omega)⟩)
  | succ m ih =>
    intro f g hm hf hg
    refine v290_28 ⟨by decide +kernel, ?_⟩
    rw [if_pos (by omega), w32_id (x := 8 + f) (by omega) (by omega), w32_id (x := f + 1) (by omega) (by omega)]
    rcases hg with ⟨e, h⟩ | ⟨e, h, h'⟩
    · rw [if_pos e, e]; exact tbl_of (Or.inl rfl) (hN h)
    · rw [if_neg (by omega)]
      have fa0 := mfa_of (Or.inl rfl) (by omega) (h0.2.1 f hf (by omega))
      have fa1 := mfa_of (Or.inr rfl) (by omega) (h1.2.1 f hf (by omega))
      rw [show 8 * (0 : Int) + f = f from by omega] at fa0
      rw [show 8 * (1 : Int) + f = 8 + f from by omega] at fa1
      refine m_fams h0 h1 (by omega) fa0 fa1 (fun w => ?_) (fun w => ?_)
      · refine ih _ _ (by omega) (by omega) (Or.inr ⟨rfl, h, fun j u v => ?_⟩)
        by_cases z : j = f
        · rw [z]; exact w
        · exact h' j u (by omega)
      · exact ih _ _ (by omega) (by omega) (Or.inl ⟨rfl, fun y => w (y.2 f hf (by omega))⟩)
/-! the two sides are one -/
theorem okD_bool (h : okD D) {a j : Int} (ha : 0 ≤ a ∧ a < 2018) (hk : tkd a.toNat = 3) (hj : 0 ≤ j ∧ j < ln a) : 0 ≤ D a j ∧ D a j ≤ 1 := by
  obtain ⟨h, hh⟩ := h
  have h5 := hh.2 a.toNat (by omega)
  rw [cer_3 hk] at h5
  obtain ⟨f, -, g2⟩ := h5
  have hlt : j.toNat < tln a.toNat := by unfold ln at hj; omega
  have g3 := g2 j.toNat hlt
  rw [Int.toNat_of_nonneg ha.1, Int.toNat_of_nonneg hj.1] at g3
  exact g3.2
theorem has_01 (hok : okD D) {q : Int} (hq : 0 ≤ q ∧ q < 336) : 0 ≤ D 2003 q ∧ D 2003 q ≤ 1 := okD_bool hok (by omega) (by decide +kernel) ⟨hq.1, by rw [show ln 2003 = 336 from rfl]; exact hq.2⟩
theorem eqr_mrw {r q cap arr a n b m : Int} (h1 : rowm D r cap arr a n) (h2 : rowm D q cap arr b m) (y1 : ∀ j, 0 ≤ j → j < n → -128 ≤ D (r + 1) j ∧ D (r + 1) j ≤ 127) (y2 : ∀ j, 0 ≤ j → j < m → -128 ≤ D (q + 1) j ∧ D (q + 1) j ≤ 127) : eqr D r q ↔ mrw D arr a n b m := by
  unfold eqr mrw
  rw [h1.1, h2.1]
  constructor
  · rintro ⟨e, h⟩
    refine ⟨e, fun j u v => ?_⟩
    rw [← h1.2.2.2 j u v, ← h2.2.2.2 j u (by omega), h j u v]
  · rintro ⟨e, h⟩
    refine ⟨e, fun j u v => ?_⟩
    have := h j u v
    rw [← h1.2.2.2 j u v, ← h2.2.2.2 j u (by omega)] at this
    have := y1 j u v
    have := y2 j u (by omega)
    omega
theorem chk_iff (hok : okD D) {k k' : Int} (hk : 0 ≤ k ∧ k < 24) (hk' : 0 ≤ k' ∧ k' < 24) (h1 : chR c D 0 k) (h2 : chR c D 1 k') : chk D k k' ↔ mck D (24 * 0 + k) (24 * 1 + k') := by
  obtain ⟨_, ⟨a2, _⟩, a4, a5, a6, a7, a8⟩ := h1
  obtain ⟨_, ⟨b2, _⟩, b4, b5, b6, b7, b8⟩ := h2
  have eC : aC 0 k = 161 + 34 * k := by unfold aC; omega
  have eC' : aC 1 k' = 1136 + 34 * k' := by unfold aC; omega
  have rows := eqr_mrw a2 b2 (fun j u v => by
    rw [show aC 0 k + 2 + 1 = aC 0 k + 3 from by omega]
    exact okD_byte hok (by omega) (kd_lab (Or.inl rfl) hk) ⟨u, by rw [ln_lab (Or.inl rfl) hk]; have := a2.2.2.1; omega⟩) (fun j u v => by
    rw [show aC 1 k' + 2 + 1 = aC 1 k' + 3 from by omega]
    exact okD_byte hok (by omega) (kd_lab (Or.inr rfl) hk') ⟨u, by rw [ln_lab (Or.inr rfl) hk']; have := b2.2.2.1; omega⟩)
  have exs : ∀ b, 0 ≤ b → b < 7 → (exk D (aX 0 k b) (aX 1 k' b) ↔ msk D (7 * (24 * 0 + k) + b) (7 * (24 * 1 + k') + b)) := fun b u v => by
    obtain ⟨e1, e2, e3⟩ := a8 b u v
    obtain ⟨g1, g2, g3⟩ := b8 b u v
    have eX : aX 0 k b = 167 + 34 * k + 4 * b := by unfold aX; omega
    have eX' : aX 1 k' b = 1142 + 34 * k' + 4 * b := by unfold aX; omega
    have h01 := has_01 hok (q := 7 * (24 * 0 + k) + b) (by omega)
    have h01' := has_01 hok (q := 7 * (24 * 1 + k') + b) (by omega)
    unfold exk msk
    rw [← e1, ← g1]
    by_cases z : D (aX 0 k b) 1 = D (aX 1 k' b) 1
    · by_cases z1 : D (aX 0 k b) 1 = 1
      · obtain ⟨p1, p2, p3, _⟩ := e2 z1
        obtain ⟨q1, q2, q3, _⟩ := g2 (by omega)
        have rw2 := eqr_mrw p3 q3 (fun j x y => by
          rw [show aX 0 k b + 2 + 1 = aX 0 k b + 3 from by omega]
          exact okD_byte hok (by omega) (kd_ex (Or.inl rfl) hk ⟨u, v⟩) ⟨x, by rw [ln_ex (Or.inl rfl) hk ⟨u, v⟩]; have := p3.2.2.1; omega⟩) (fun j x y => by
          rw [show aX 1 k' b + 2 + 1 = aX 1 k' b + 3 from by omega]
          exact okD_byte hok (by omega) (kd_ex (Or.inr rfl) hk' ⟨u, v⟩) ⟨x, by rw [ln_ex (Or.inr rfl) hk' ⟨u, v⟩]; have := q3.2.2.1; omega⟩)
        rw [rw2, ← p1.1, ← q1.1, ← p2.1, ← q2.1]
        constructor
        · rintro ⟨x1, x2, x3, x4⟩
          exact ⟨x1, fun _ => ⟨x2, x3, x4⟩⟩
        · rintro ⟨x1, x2⟩
          exact ⟨x1, x2 z1⟩
      · obtain ⟨p1, p2, p3⟩ := e3 (by omega)
        obtain ⟨q1, q2, q3⟩ := g3 (by omega)
        constructor
        · rintro ⟨x1, _⟩
          exact ⟨x1, fun w => absurd w z1⟩
        · rintro ⟨x1, _⟩
          exact ⟨x1, by omega, by omega, by omega, fun j x y => by omega⟩
    · constructor
      · rintro ⟨x1, _⟩; exact absurd x1 z
      · rintro ⟨x1, _⟩; exact absurd x1 z
  unfold chk mck
  rw [rows, ← a4.1, ← b4.1, ← a5.1, ← b5.1, ← a6.1, ← b6.1]
  constructor
  · rintro ⟨x1, x2, x3, x4, x5⟩
    refine ⟨x1, x2, x3, x4, fun b u v => ?_⟩
    have := x5 b u v
    rw [(a7 b u v).1, (b7 b u v).1] at this
    exact ⟨this.1, (exs b u v).mp this.2⟩
  · rintro ⟨x1, x2, x3, x4, x5⟩
    refine ⟨x1, x2, x3, x4, fun b u v => ?_⟩
    have := x5 b u v
    rw [(a7 b u v).1, (b7 b u v).1]
    exact ⟨this.1, (exs b u v).mpr this.2⟩
theorem flk_iff (hok : okD D) {f : Int} (hf : 0 ≤ f ∧ f < 8) (h0 : faR D 0 f) (h1 : faR D 1 f) : flk D (aF 0 f) (aF 1 f) ↔ mfk D f := by
  obtain ⟨g0, ⟨g1, _⟩, g2, ⟨g3, _⟩, _⟩ := h0
  obtain ⟨k0, ⟨k1, _⟩, k2, ⟨k3, _⟩, _⟩ := h1
  rw [show 8 * (0 : Int) + f = f from by omega] at g0 g1 g2 g3
  rw [show 8 * (1 : Int) + f = 8 + f from by omega] at k0 k1 k2 k3
  obtain ⟨d1, d2, d3⟩ := kd_fam (s := 0) (f := f) (Or.inl rfl) (by omega)
  obtain ⟨c1, c2, c3⟩ := kd_fam (s := 1) (f := f) (Or.inr rfl) (by omega)
  have eF : aF 0 f = 7 + 17 * f := by unfold aF; omega
  have eF' : aF 1 f = 982 + 17 * f := by unfold aF; omega
  have n1 : ∀ y : Int, y + 1 + 1 = y + 2 := fun y => by omega
  have n3 : ∀ y : Int, y + 3 + 1 = y + 4 := fun y => by omega
  have n5 : ∀ y : Int, y + 5 + 1 = y + 6 := fun y => by omega
  unfold flk mfk
  rw [g0.1, k0.1, eqr_mrw g1 k1 (fun j u v => by rw [n1]; exact okD_byte hok (by omega) d1 ⟨u, by rw [ln_nam (Or.inl rfl) (by omega)]; have := g1.2.2.1; omega⟩) (fun j u v => by rw [n1]; exact okD_byte hok (by omega) c1 ⟨u, by rw [ln_nam (Or.inr rfl) (by omega)]; have := k1.2.2.1; omega⟩), eqr_mrw g2 k2 (fun j u v => by rw [n3]; exact okD_byte hok (by omega) d2 ⟨u, by rw [ln_uni (Or.inl rfl) (by omega)]; have := g2.2.2.1; omega⟩) (fun j u v => by rw [n3]; exact okD_byte hok (by omega) c2 ⟨u, by rw [ln_uni (Or.inr rfl) (by omega)]; have := k2.2.2.1; omega⟩), eqr_mrw g3 k3 (fun j u v => by rw [n5]; exact okD_byte hok (by omega) d3 ⟨u, by rw [ln_hel (Or.inl rfl) (by omega)]; have := g3.2.2.1; omega⟩) (fun j u v => by rw [n5]; exact okD_byte hok (by omega) c3 ⟨u, by rw [ln_hel (Or.inr rfl) (by omega)]; have := k3.2.2.1; omega⟩)]
theorem prk_iff (hok : okD D) {f : Int} (hf : 0 ≤ f ∧ f < 8) (h0 : faR D 0 f) (h1 : faR D 1 f) : prk D f ↔ mpk D f := by
  have g6 := h0.2.2.2.2.1
  have g7 := h0.2.2.2.2.2.1
  have k6 := h1.2.2.2.2.1
  have k7 := h1.2.2.2.2.2.1
  rw [show 8 * (0 : Int) + f = f from by omega] at g6 g7
  rw [show 8 * (1 : Int) + f = 8 + f from by omega] at k6 k7
  have eF : aF 0 f = 7 + 17 * f := by unfold aF; omega
  have eF' : aF 1 f = 982 + 17 * f := by unfold aF; omega
  have rowj : ∀ j, 0 ≤ j → j < D 1991 f → D 1991 f = D 1991 (8 + f) → (eqr D (aF 0 f + 9 + 2 * j) (aF 1 f + 9 + 2 * j) ↔ mrw D 1989 (12 * (4 * f + j)) (D 1990 (4 * f + j)) (12 * (4 * (8 + f) + j)) (D 1990 (4 * (8 + f) + j))) := fun j u v w => by
    have p1 := (g7.2.2.2.2 j u (by omega)).1
    have p2 := (k7.2.2.2.2 j u (by omega)).1
    refine eqr_mrw p1 p2 (fun i x y => ?_) (fun i x y => ?_)
    · rw [show aF 0 f + 9 + 2 * j + 1 = aF 0 f + 10 + 2 * j from by omega]
      exact okD_byte hok (by omega) (kd_sts (Or.inl rfl) (by omega) (by omega)) ⟨x, by rw [ln_st (Or.inl rfl) (by omega) (by omega)]; have := p1.2.2.1; omega⟩
    · rw [show aF 1 f + 9 + 2 * j + 1 = aF 1 f + 10 + 2 * j from by omega]
      exact okD_byte hok (by omega) (kd_sts (Or.inr rfl) (by omega) (by omega)) ⟨x, by rw [ln_st (Or.inr rfl) (by omega) (by omega)]; have := p2.2.2.1; omega⟩
  unfold prk mpk
  rw [g6.1, k6.1, g7.1, k7.1]
  constructor
  · rintro ⟨x1, x2, x3, x4⟩
    refine ⟨x1, x2, fun j u v => ?_, fun j u v => (rowj j u v x2).mp (x4 j u v)⟩
    have := x3 j u v
    rw [(g6.2.2.2.2.1 j u (by omega)).1, (k6.2.2.2.2.1 j u (by omega)).1] at this
    exact this
  · rintro ⟨x1, x2, x3, x4⟩
    refine ⟨x1, x2, fun j u v => ?_, fun j u v => (rowj j u v x2).mpr (x4 j u v)⟩
    rw [(g6.2.2.2.2.1 j u (by omega)).1, (k6.2.2.2.2.1 j u (by omega)).1]
    exact x3 j u v
theorem sm_iff (hok : okD D) (h0 : shR c D 0) (h1 : shR c D 1) : smC D ↔ smM D := by
  have a8 := h0.1
  have b8 := h1.1
  rw [show (5 : Int) + 975 * 0 = 5 from rfl] at a8
  rw [show (5 : Int) + 975 * 1 = 980 from rfl] at b8
  have o0 := h0.2.2.2
  have o1 := h1.2.2.2
  have n0 : 0 ≤ oN D 0 := o0.1.1
  have n1 : 0 ≤ oN D 1 := o1.1.1
  have mt : ∀ f, mtc (chk D) (chl D 0 f 0) (chl D 1 f 0) ↔ mtc (fun a b => mck D (24 * 0 + a) (24 * 1 + b)) (chl D 0 f 0) (chl D 1 f 0) := fun f => mtc_iff (fun a ha b hb => by
    have p := (chl_in o0 (oN D 0).toNat 0 (by omega) (by omega)).2 a ha
    have q := (chl_in o1 (oN D 1).toNat 0 (by omega) (by omega)).2 b hb
    exact chk_iff hok ⟨p.1, p.2.1⟩ ⟨q.1, q.2.1⟩ ((h0.2.2.1 a p.1 p.2.1).2.2 p.2.2.1) ((h1.2.2.1 b q.1 q.2.1).2.2 q.2.2.1))
  have fam : ∀ f, 0 ≤ f → f < D 5 4 → D 5 4 = D 980 4 → (fmC D f ↔ fmM D f) := fun f u v e => by
    have fa0 := h0.2.1 f u (by rw [show (5 : Int) + 975 * 0 = 5 from rfl]; exact v)
    have fa1 := h1.2.1 f u (by rw [show (5 : Int) + 975 * 1 = 980 from rfl]; omega)
    have l0 := nch_len h0 (f := f)
    have l1 := nch_len h1 (f := f)
    unfold fmC fmM
    rw [flk_iff hok (by omega) fa0 fa1, mt f, prk_iff hok (by omega) fa0 fa1]
    constructor
    · rintro ⟨x1, x2, x3⟩
      have := mtc_len x2
      refine ⟨x1, by omega, ?_⟩
      by_cases z : nch D 0 f = 0
      · exact Or.inl z
      · exact Or.inr ⟨x3 (by omega), x2⟩
    · rintro ⟨x1, x2, x3⟩
      rcases x3 with x3 | x3
      · have e0 : chl D 0 f 0 = [] := List.length_eq_zero_iff.mp (by omega)
        have e1 : chl D 1 f 0 = [] := List.length_eq_zero_iff.mp (by omega)
        refine ⟨x1, ?_, fun w => by omega⟩
        rw [e0, e1]
        trivial
      · exact ⟨x1, x3.2, fun _ => x3.1⟩
  unfold smC smM
  constructor
  · rintro ⟨x1, x2, x3⟩
    exact ⟨by omega, fun f u v => (fam f u (by omega) x1).mp (x3 f u (by omega))⟩
  · rintro ⟨x1, x3⟩
    have e : D 5 4 = D 980 4 := by omega
    refine ⟨e, ?_, fun f u v => (fam f u v e).mpr (x3 f u (by omega))⟩
    rw [oN_sum h0, oN_sum h1, show (5 : Int) + 975 * 0 = 5 from rfl, show (5 : Int) + 975 * 1 = 980 from rfl, ← e]
    exact sm_ext (fun f u v => (x3 f u (by omega)).2.1)
theorem nw7 {a j : Int} (hs : s = 0 ∨ s = 1) (u : sdep s a j) : (wr D 1977 0 0) a j = D a j := by
  by_cases e : a = 1977
  · subst e
    refine wr_ni ?_
    rcases u with z | z | ⟨z, _⟩ | z | z | ⟨z, _⟩ | z
    · omega
    all_goals omega
  · exact wr_ne e
theorem l_same (hR : RL RSc D c) (hc : c < 600) (hi : 0 ≤ i ∧ i + 5 ≤ (sc.1 : Int) ∧ (sc.1 : Int) ≤ 2560) (hgo : ∀ D', RL RSc D' (c + 1) → WP sc 317 1610 D' (LV i) [] K E) : WP sc 317 1279 D (LV i) [] K E := by
  refine wp_ok (fun hok => ?_)
  have r8 := hR.2.2.2.2.2.2.2
  have h0 := r8.1
  have h1 := r8.2.1
  have iff := sm_iff hok h0 h1
  have fin : RL RSc (wr D 1977 0 0) (c + 1) := RL_frame RSc_dep hR hc (Or.inl (by simp [wr])) (fun a j h => by
    by_cases e : a = 1977
    · subst e
      refine wr_ni ?_
      rcases h with h | h | h | h | h | h | h | h
      · unfold depS at h; omega
      all_goals omega
    · exact wr_ne e)
  have w0 : shR c (wr D 1977 0 0) 0 := shR_fr2 (Or.inl rfl) (by omega) (fun a j u => nw7 (Or.inl rfl) u) h0
  have w1 : shR c (wr D 1977 0 0) 1 := shR_fr2 (Or.inr rfl) (by omega) (fun a j u => nw7 (Or.inr rfl) u) h1
  have a8 := w0.1
  rw [show (5 : Int) + 975 * 0 = 5 from rfl] at a8
  have eqM : smM (wr D 1977 0 0) ↔ smM D := by
    have hD : ∀ a, a ≠ 1977 → (wr D 1977 0 0) a = D a := fun a u => funext (fun j => wr_ne u)
    unfold smM fmM mfk mpk
    simp only [hD 1979 (by omega), hD 1980 (by omega), hD 1982 (by omega), hD 1984 (by omega), hD 1986 (by omega), hD 1988 (by omega), hD 1990 (by omega), hD 1991 (by omega), hD 1987 (by omega)]
    have rowE : ∀ arr, arr ≠ 1977 → ∀ x1 x2 x3 x4, (mrw (wr D 1977 0 0) arr x1 x2 x3 x4 ↔ mrw D arr x1 x2 x3 x4) := fun arr u x1 x2 x3 x4 => by
      unfold mrw
      rw [hD arr u]
    have ckE : ∀ x y, mck (wr D 1977 0 0) x y ↔ mck D x y := fun x y => by
      unfold mck msk
      rw [rowE 1997 (by omega), hD 1998 (by omega), hD 1999 (by omega), hD 2000 (by omega), hD 2001 (by omega), hD 2002 (by omega), hD 2003 (by omega), hD 2004 (by omega), hD 2005 (by omega), hD 2007 (by omega)]
      constructor
      · rintro ⟨y1, y2, y3, y4, y5⟩
        exact ⟨y1, y2, y3, y4, fun b u v => ⟨(y5 b u v).1, (y5 b u v).2.1, fun w => ⟨((y5 b u v).2.2 w).1, ((y5 b u v).2.2 w).2.1, (rowE 2006 (by omega) _ _ _ _).mp ((y5 b u v).2.2 w).2.2⟩⟩⟩
      · rintro ⟨y1, y2, y3, y4, y5⟩
        exact ⟨y1, y2, y3, y4, fun b u v => ⟨(y5 b u v).1, (y5 b u v).2.1, fun w => ⟨((y5 b u v).2.2 w).1, ((y5 b u v).2.2 w).2.1, (rowE 2006 (by omega) _ _ _ _).mpr ((y5 b u v).2.2 w).2.2⟩⟩⟩
    have chE : ∀ s' f, (s' = 0 ∨ s' = 1) → ∀ (m : Nat) (p : Int), oN D s' - p = (m : Int) → 0 ≤ p → chl (wr D 1977 0 0) s' f p = chl D s' f p := by
      intro s' f hs' m
      have oE : oN (wr D 1977 0 0) s' = oN D s' := wr_ne (by omega)
      have ho : orR D s' := by rcases hs' with e | e <;> rw [e]; exact h0.2.2.2; exact h1.2.2.2
      induction m with
      | zero => intro p hm hp; rw [chl_end (by omega), chl_end (by omega)]
      | succ m ih =>
        intro p hm hp
        have z := or_in ho (p := p) (by omega)
        have e1 : oC (wr D 1977 0 0) s' p = oC D s' p := wr_ne (by omega)
        have e2 : oF (wr D 1977 0 0) s' p = oF D s' p := by
          unfold oF
          rw [e1]
          exact wr_ne (by unfold aC; omega)
        by_cases e : oF D s' p = f
        · rw [chl_yes (by omega) (by rw [e2]; exact e), chl_yes (by omega) e, e1, ih (p + 1) (by omega) (by omega)]
        · rw [chl_no (by omega) (by rw [e2]; exact e), chl_no (by omega) e, ih (p + 1) (by omega) (by omega)]
    have n0 : 0 ≤ oN D 0 := h0.2.2.2.1.1
    have n1 : 0 ≤ oN D 1 := h1.2.2.2.1.1
    have nE : ∀ s' f, (s' = 0 ∨ s' = 1) → nch (wr D 1977 0 0) s' f = nch D s' f := fun s' f hs' => sm_ext (fun k u v => by rw [wr_ne (by unfold aC; omega), wr_ne (by unfold aC; omega)])
    refine and_congr Iff.rfl (forall_congr' (fun f => forall_congr' (fun u => forall_congr' (fun v => ?_))))
    rw [rowE 1981 (by omega), rowE 1983 (by omega), rowE 1985 (by omega), nE 0 f (Or.inl rfl), nE 1 f (Or.inr rfl), chE 0 f (Or.inl rfl) (oN D 0).toNat 0 (by omega) (by omega), chE 1 f (Or.inr rfl) (oN D 1).toNat 0 (by omega) (by omega), mtc_iff (Q := fun a b => mck D (24 * 0 + a) (24 * 1 + b)) (fun a _ b _ => ckE _ _)]
    refine and_congr Iff.rfl (and_congr Iff.rfl (or_congr Iff.rfl (and_congr (and_congr Iff.rfl (and_congr Iff.rfl (and_congr Iff.rfl (forall_congr' (fun j => forall_congr' (fun u => forall_congr' (fun v => rowE 1989 (by omega) _ _ _ _))))))) Iff.rfl)))
  have mm : ∀ {x : Int}, (smM D → x = 1) → (¬ smM D → x = 0) → WP sc 290 0 D [(0, (1211, 1977))] [] (fun D4 r5 => if x = r5 then (WP sc 317 1610 D4 (LV i) [] K E) else (K D4 0)) E := fun {x} x1 x0 => by
    have go := m_sameL (sc := sc) (E := E) (K := fun D4 r5 => if x = r5 then (WP sc 317 1610 D4 (LV i) [] K E) else (K D4 0)) (c := c) w0 w1 (fun w => by rw [if_pos (x1 (eqM.mp w))]; exact hgo _ fin) (fun w => by rw [if_pos (x0 (fun y => w (eqM.mpr y)))]; exact hgo _ fin) ((wr D 1977 0 0) 1979 0).toNat 0
    refine v290_0 ⟨by decide +kernel, by decide +kernel, ?_⟩
    by_cases e : (wr D 1977 0 0) 1979 0 = (wr D 1977 0 0) 1979 1
    · rw [if_pos e]; exact go 1 (by omega) (by omega) (Or.inr ⟨rfl, e, fun j u v => by omega⟩)
    · rw [if_neg e]; exact go 0 (by omega) (by omega) (Or.inl ⟨rfl, fun w => e w.1⟩)
  refine v317_1279 (c_same h0 h1 (fun w => ?_) (fun w => ?_))
  · exact mm (fun _ => rfl) (fun y => absurd (iff.mp w) y)
  · exact mm (fun y => absurd (iff.mpr y) w) (fun _ => rfl)
end SMB
