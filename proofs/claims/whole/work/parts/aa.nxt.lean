/-! the children of a family in their order -/
section NXT
variable {sc : Nat × (Nat → Int32)} {D D' : tD} {K : tD → Int → Prop} {E : tD → Nat → Prop} {c c' s : Int}
/-- the child at a place of the order, its family, how many there are -/
def oC (D : tD) (s p : Int) : Int := D (977 + 975 * s) p
def oF (D : tD) (s p : Int) : Int := D (aC s (oC D s p)) 4
def oN (D : tD) (s : Int) : Int := D (5 + 975 * s) 5
/-- the next place, from a place on, at which a child of a family stands -/
def nxP (D : tD) (s f q p : Int) : Prop := (q ≤ p ∧ p ≤ oN D s) ∧ (∀ j, q ≤ j → j < p → oF D s j ≠ f) ∧ (p < oN D s → oF D s p = f)
theorem nxP_uni {f q p p' : Int} (h : nxP D s f q p) (h' : nxP D s f q p') : p = p' := by
  obtain ⟨a1, a2, a3⟩ := h
  obtain ⟨b1, b2, b3⟩ := h'
  by_cases u : p < p'
  · exact absurd (a3 (by omega)) (b2 p a1.1 u)
  · by_cases v : p' < p
    · exact absurd (b3 (by omega)) (a2 p' b1.1 v)
    · omega
theorem or_in (h : orR D s) {p : Int} (hp : 0 ≤ p ∧ p < oN D s) : 0 ≤ oC D s p ∧ oC D s p < 24 ∧ D (aC s (oC D s p)) 3 = 1 := by
  have := h.2.1 p hp.1 hp.2
  exact ⟨this.1, this.2.1, this.2.2.1⟩
theorem c_inOrd {p : Int} (hs : s = 0 ∨ s = 1) (h : orR D s) (hp : 0 ≤ p) (hT : p < oN D s → K D (aC s (oC D s p))) (hN : ¬ p < oN D s → K D (-1)) : WP sc 112 0 D [(0, (1208, 5 + 975 * s)), (1, (0, p))] [] K E := by
  have h24 : oN D s ≤ 24 := h.1.2.1
  refine v112_0 ?_
  rw [if_neg (by omega)]
  by_cases e : p < D (5 + 975 * s) 5
  · have q := or_in h (p := p) ⟨hp, e⟩
    have e2 : p < oN D s := e
    rw [if_pos e, if_pos (by omega), show 5 + 975 * s + 972 = 977 + 975 * s from by omega, ln_ord hs]
    refine ⟨by omega, c_chAt hs (fun u v => ?_) (fun u => ?_)⟩
    · rw [if_neg (by unfold aC; omega)]
      exact hT e
    · exact absurd ⟨q.1, q.2.1, by show D (aC s (oC D s p)) 3 ≠ 0; omega⟩ u
  · rw [if_neg e]
    exact hN e
theorem c_next1 {f : Int} (hs : s = 0 ∨ s = 1) (h : orR D s) {q : Int} (hK : ∀ p, nxP D s f q p → K D p) : ∀ (m : Nat) (p : Int), oN D s - p = (m : Int) → 0 ≤ p → q ≤ p → (∀ j, q ≤ j → j < p → oF D s j ≠ f) → WP sc 122 2 D [(0, (1208, 5 + 975 * s)), (1, (0, f)), (3, (0, p))] [] K E := by
  have h24 : oN D s ≤ 24 := h.1.2.1
  intro m
  induction m with
  | zero =>
    intro p hm hp hq hj
    refine v122_2 ?_
    rw [if_neg (by show ¬ p < oN D s; omega)]
    have e : p = oN D s := by omega
    show K D (oN D s)
    rw [← e]
    exact hK p ⟨by omega, hj, fun u => by omega⟩
  | succ m ih =>
    intro p hm hp hq hj
    refine v122_2 ?_
    rw [if_pos (by show p < oN D s; omega)]
    have go : oF D s p ≠ f → WP sc 122 2 D [(0, (1208, 5 + 975 * s)), (1, (0, f)), (3, (0, w32 (p + 1)))] [] K E := fun hn => by
      rw [w32_id (by omega) (by omega)]
      refine ih (p + 1) (by omega) (by omega) (by omega) (fun j u v => ?_)
      by_cases e : j = p
      · rw [e]; exact hn
      · exact hj j u (by omega)
    refine c_inOrd hs h hp (fun u => ?_) (fun u => absurd (by omega) u)
    have q3 := or_in h (p := p) (by omega)
    rw [if_neg (by unfold aC; omega)]
    by_cases e : D (aC s (oC D s p)) 4 = f
    · rw [if_pos e]
      exact hK p ⟨by omega, hj, fun _ => e⟩
    · rw [if_neg e]
      exact go e
theorem c_next {f q : Int} (hs : s = 0 ∨ s = 1) (h : orR D s) (hq : 0 ≤ q ∧ q ≤ oN D s) (hK : ∀ p, nxP D s f q p → K D p) : WP sc 122 0 D [(0, (1208, 5 + 975 * s)), (1, (0, f)), (2, (0, q))] [] K E :=
  v122_0 (c_next1 hs h hK (oN D s - q).toNat q (by omega) hq.1 (by omega) (fun j u v => by omega))
/-- the other side -/
def cnd (D : tD) (F b x : Int) : Prop := D 1994 x = 1 ∧ D 1995 x = F ∧ b < D 1996 x
def bst (D : tD) (F b n x : Int) : Prop := (x = -1 ∧ ∀ j, 0 ≤ j → j < n → ¬ cnd D F b j) ∨ (0 ≤ x ∧ x < n ∧ cnd D F b x ∧ ∀ j, 0 ≤ j → j < n → cnd D F b j → D 1996 x ≤ D 1996 j)
theorem m_next1 {F b : Int} (hK : ∀ x, bst D F b 48 x → K D x) : ∀ (m : Nat) (n x : Int), 48 - n = (m : Int) → 0 ≤ n → bst D F b n x → WP sc 248 6 D [(0, (1211, 1977)), (1, (0, F)), (2, (1, b)), (4, (0, x)), (5, (0, n))] [] K E := by
  intro m
  induction m with
  | zero =>
    intro n x hm hn hb
    refine v248_6 ?_
    rw [if_neg (by omega)]
    have e : n = 48 := by omega
    subst e
    exact hK x hb
  | succ m ih =>
    intro n x hm hn hb
    refine v248_6 ?_
    rw [if_pos (by omega), w32_id (x := n + 1) (by omega) (by omega)]
    have skip : ¬ cnd D F b n → WP sc 248 6 D [(0, (1211, 1977)), (1, (0, F)), (2, (1, b)), (4, (0, x)), (5, (0, n + 1))] [] K E := fun h => by
      refine ih _ _ (by omega) (by omega) ?_
      rcases hb with ⟨e, hb⟩ | ⟨b1, b2, b3, b4⟩
      · refine Or.inl ⟨e, fun j u v => ?_⟩
        by_cases q : j = n
        · rw [q]; exact h
        · exact hb j u (by omega)
      · refine Or.inr ⟨b1, by omega, b3, fun j u v w => ?_⟩
        by_cases q : j = n
        · rw [q] at w; exact absurd w h
        · exact b4 j u (by omega) w
    refine ⟨by omega, fun h01 => ?_⟩
    by_cases e1 : D 1994 n = 0
    · rw [if_pos e1]; exact skip (fun w => by have := w.1; omega)
    rw [if_neg e1]
    refine ⟨by omega, ?_⟩
    by_cases e2 : D 1995 n = F
    · rw [if_pos e2]
      refine ⟨by omega, ?_⟩
      by_cases e3 : 0 < tlc (D 1996 n) b
      · rw [if_pos e3]
        rw [tlc_gt] at e3
        have hc : cnd D F b n := ⟨by omega, e2, e3⟩
        by_cases e4 : x < 0
        · rw [if_pos e4]
          refine ih _ _ (by omega) (by omega) (Or.inr ⟨hn, by omega, hc, fun j u v w => ?_⟩)
          rcases hb with ⟨e, hb⟩ | ⟨b1, b2, b3, b4⟩
          · by_cases q : j = n
            · rw [q]; omega
            · exact absurd w (hb j u (by omega))
          · omega
        · rw [if_neg e4]
          rcases hb with ⟨e, hb⟩ | ⟨b1, b2, b3, b4⟩
          · omega
          · refine ⟨by omega, by omega, ?_⟩
            by_cases e5 : tlc (D 1996 n) (D 1996 x) < 0
            · rw [if_pos e5]
              rw [tlc_lt] at e5
              refine ih _ _ (by omega) (by omega) (Or.inr ⟨hn, by omega, hc, fun j u v w => ?_⟩)
              by_cases q : j = n
              · rw [q]; omega
              · have := b4 j u (by omega) w; omega
            · rw [if_neg e5]
              rw [tlc_lt] at e5
              refine ih _ _ (by omega) (by omega) (Or.inr ⟨b1, by omega, b3, fun j u v w => ?_⟩)
              by_cases q : j = n
              · rw [q]; omega
              · exact b4 j u (by omega) w
      · rw [if_neg e3]
        rw [tlc_gt] at e3
        exact skip (fun w => e3 w.2.2)
    · rw [if_neg e2]
      exact skip (fun w => e2 w.2.1)
theorem m_next {f q b : Int} (hs : s = 0 ∨ s = 1) (h0 : shR c D 0) (h1 : shR c D 1) (hf : 0 ≤ f ∧ f < 8) (hq : 0 ≤ q ∧ q ≤ oN D s) (hb : ∀ p, 0 ≤ p → p < oN D s → (b < D 1996 (24 * s + oC D s p) ↔ q ≤ p)) (hK : ∀ p, nxP D s f q p → K D (if p < oN D s then 24 * s + oC D s p else -1)) : WP sc 248 0 D [(0, (1211, 1977)), (1, (0, 8 * s + f)), (2, (1, b))] [] K E := by
  have hss : shR c D s := by rcases hs with rfl | rfl; exact h0; exact h1
  have ho := hss.2.2.2
  have key : ∀ p, 0 ≤ p → p < oN D s → (cnd D (8 * s + f) b (24 * s + oC D s p) ↔ oF D s p = f ∧ q ≤ p) := fun p u v => by
    have z := or_in ho ⟨u, v⟩
    obtain ⟨b1, _, b3⟩ := hss.2.2.1 _ z.1 z.2.1
    have p1 := (b3 z.2.2).1
    have p2 := hb p u v
    unfold cnd oF
    constructor
    · rintro ⟨x1, x2, x3⟩
      exact ⟨by omega, p2.mp x3⟩
    · rintro ⟨x1, x2⟩
      exact ⟨by omega, by omega, p2.mpr x2⟩
  have back : ∀ x, 0 ≤ x → x < 48 → cnd D (8 * s + f) b x → ∃ p, 0 ≤ p ∧ p < oN D s ∧ x = 24 * s + oC D s p := fun x u v hc => by
    obtain ⟨x1, x2, x3⟩ := hc
    by_cases e : x < 24
    · obtain ⟨b1, b2, b3⟩ := h0.2.2.1 x u e
      rw [show 24 * (0 : Int) + x = x from by omega] at b1
      have t : D (aC 0 x) 3 = 1 := by omega
      have p1 := (b3 t).1
      have q1 := h0.1
      rw [show 24 * (0 : Int) + x = x from by omega] at p1
      have es : s = 0 := by rcases hs with rfl | rfl; rfl; omega
      subst es
      obtain ⟨p, a1, a2, a3⟩ := h0.2.2.2.2.2.2 x u e t
      exact ⟨p, a1, a2, by unfold oC; omega⟩
    · obtain ⟨b1, b2, b3⟩ := h1.2.2.1 (x - 24) (by omega) (by omega)
      rw [show 24 * (1 : Int) + (x - 24) = x from by omega] at b1
      have t : D (aC 1 (x - 24)) 3 = 1 := by omega
      have p1 := (b3 t).1
      have q1 := h1.1
      rw [show 24 * (1 : Int) + (x - 24) = x from by omega] at p1
      have es : s = 1 := by rcases hs with rfl | rfl; omega; rfl
      subst es
      obtain ⟨p, a1, a2, a3⟩ := h1.2.2.2.2.2.2 (x - 24) (by omega) (by omega) t
      exact ⟨p, a1, a2, by unfold oC; omega⟩
  refine v248_0 (m_next1 (fun x hx => ?_) 48 0 (-1) (by omega) (by omega) (Or.inl ⟨rfl, fun j u v => by omega⟩))
  rcases hx with ⟨e, hx⟩ | ⟨x1, x2, x3, x4⟩
  · have n : nxP D s f q (oN D s) := ⟨by omega, fun j u v w => hx (24 * s + oC D s j) (by have := or_in ho (p := j) (by omega); omega) (by have := or_in ho (p := j) (by omega); omega) ((key j (by omega) v).mpr ⟨w, u⟩), fun u => by omega⟩
    have := hK _ n
    rw [if_neg (by omega)] at this
    rw [e]; exact this
  · obtain ⟨p, p1, p2, p3⟩ := back x x1 x2 x3
    rw [p3] at x3 x4
    have k1 := (key p p1 p2).mp x3
    have n : nxP D s f q p := ⟨by omega, fun j u v w => ?_, fun _ => k1.1⟩
    · have := hK _ n
      rw [if_pos p2] at this
      rw [p3]; exact this
    · have z := or_in ho (p := j) (by omega)
      have m := x4 (24 * s + oC D s j) (by omega) (by omega) ((key j (by omega) (by omega)).mpr ⟨w, u⟩)
      have := ho.2.2.1 j p (by omega) v p2
      unfold oC at m
      omega
/-- the list of the children of a family from a place on -/
def frL (D : tD) (s f : Int) : Nat → Int → List Int
  | 0, _ => []
  | n + 1, p => if oF D s p = f then oC D s p :: frL D s f n (p + 1) else frL D s f n (p + 1)
def chl (D : tD) (s f p : Int) : List Int := frL D s f (oN D s - p).toNat p
theorem chl_end {f p : Int} (h : oN D s ≤ p) : chl D s f p = [] := by
  unfold chl
  rw [show (oN D s - p).toNat = 0 from by omega]
  rfl
theorem chl_yes {f p : Int} (h : p < oN D s) (hf : oF D s p = f) : chl D s f p = oC D s p :: chl D s f (p + 1) := by
  unfold chl
  rw [show (oN D s - p).toNat = (oN D s - (p + 1)).toNat + 1 from by omega]
  show (if oF D s p = f then _ else _) = _
  rw [if_pos hf]
theorem chl_no {f p : Int} (h : p < oN D s) (hf : oF D s p ≠ f) : chl D s f p = chl D s f (p + 1) := by
  unfold chl
  rw [show (oN D s - p).toNat = (oN D s - (p + 1)).toNat + 1 from by omega]
  show (if oF D s p = f then _ else _) = _
  rw [if_neg hf]
theorem chl_nx {f p : Int} : ∀ (m : Nat) (q : Int), p - q = (m : Int) → nxP D s f q p → chl D s f q = chl D s f p := by
  intro m
  induction m with
  | zero => intro q hm _; rw [show q = p from by omega]
  | succ m ih =>
    intro q hm h
    have h1 := h.1
    rw [chl_no (by omega) (h.2.1 q (by omega) (by omega))]
    exact ih (q + 1) (by omega) ⟨by omega, fun j u v => h.2.1 j (by omega) v, h.2.2⟩
theorem chl_nxt {f p q : Int} (h : nxP D s f q p) : chl D s f q = if p < oN D s then oC D s p :: chl D s f (p + 1) else [] := by
  have h1 := h.1
  rw [chl_nx (p - q).toNat q (by omega) h]
  by_cases e : p < oN D s
  · rw [if_pos e]; exact chl_yes e (h.2.2 e)
  · rw [if_neg e]; exact chl_end (by omega)
theorem nxP_ex {f : Int} : ∀ (m : Nat) (q : Int), oN D s - q = (m : Int) → ∃ p, nxP D s f q p := by
  intro m
  induction m with
  | zero => intro q hm; exact ⟨q, ⟨by omega, fun j u v => by omega, fun u => by omega⟩⟩
  | succ m ih =>
    intro q hm
    by_cases e : oF D s q = f
    · exact ⟨q, ⟨by omega, fun j u v => by omega, fun _ => e⟩⟩
    · obtain ⟨p, h⟩ := ih (q + 1) (by omega)
      have h1 := h.1
      refine ⟨p, ⟨by omega, fun j u v => ?_, h.2.2⟩⟩
      by_cases z : j = q
      · rw [z]; exact e
      · exact h.2.1 j (by omega) v
/-- the child behind another -/
theorem ord_aft (ho : orR D s) {p : Int} (hp : 0 ≤ p ∧ p < oN D s) : ∀ j, 0 ≤ j → j < oN D s → (D 1996 (24 * s + oC D s p) < D 1996 (24 * s + oC D s j) ↔ p + 1 ≤ j) := fun j u v => by
  constructor
  · intro h
    by_cases e : j < p
    · have := ho.2.2.1 j p u e hp.2
      unfold oC at h
      omega
    · by_cases e2 : j = p
      · rw [e2] at h; omega
      · omega
  · intro h
    exact ho.2.2.1 p j hp.1 (by omega) v
theorem ord_fst (ho : orR D s) : ∀ j, 0 ≤ j → j < oN D s → ((-1 : Int) < D 1996 (24 * s + oC D s j) ↔ 0 ≤ j) := fun j u v => by
  have := (ho.2.1 j u v).2.2.2.1
  unfold oC
  omega
end NXT
