/-! a child of these labels found; children counted -/
section FND
variable {sc : Nat × (Nat → Int32)} {D D' : tD} {K : tD → Int → Prop} {E : tD → Nat → Prop} {c s : Int}
/-- the first place where P holds -/
def fstP (P : Int → Prop) (n r : Int) : Prop := (r = -1 ∧ ∀ k, 0 ≤ k → k < n → ¬ P k) ∨ (0 ≤ r ∧ r < n ∧ P r ∧ ∀ k, 0 ≤ k → k < r → ¬ P k)
theorem fstP_uni {P Q : Int → Prop} {n r r' : Int} (h : ∀ k, 0 ≤ k → k < n → (P k ↔ Q k)) (h1 : fstP P n r) (h2 : fstP Q n r') : r = r' := by
  rcases h1 with ⟨a, b⟩ | ⟨a, b, d, e⟩
  · rcases h2 with ⟨a', b'⟩ | ⟨a', b', d', e'⟩
    · omega
    · exact absurd ((h r' a' b').mpr d') (b r' a' b')
  · rcases h2 with ⟨a', b'⟩ | ⟨a', b', d', e'⟩
    · exact absurd ((h r a b).mp d) (b' r a b)
    · by_cases g : r < r'
      · exact absurd ((h r a b).mp d) (e' r a g)
      · by_cases g2 : r' < r
        · exact absurd ((h r' a' b').mpr d') (e r' a' g2)
        · omega
def fcC (D : tD) (s f a2 k : Int) : Prop := D (aC s k) 3 = 1 ∧ D (aC s k) 4 = f ∧ eqr D (aC s k + 2) (a2 + 1)
theorem c_fch1 {f a2 : Int} (hs : s = 0 ∨ s = 1) (h66 : ∀ k, 0 ≤ k → k < 24 → D (aC s k) 3 = 1 → D (aC s k + 2) 1 ≤ 66) (h2 : D (a2 + 1) 1 ≤ ln (a2 + 2)) (hK : ∀ r, fstP (fcC D s f a2) 24 r → K D r) : ∀ (m : Nat) (k : Int), 24 - k = (m : Int) → 0 ≤ k → (∀ j, 0 ≤ j → j < k → ¬ fcC D s f a2 j) → WP sc 113 2 D [(0, (1208, 5 + 975 * s)), (1, (0, f)), (2, (1205, a2)), (3, (0, k))] [] K E := by
  intro m
  induction m with
  | zero =>
    intro k hm hk h
    refine v113_2 ?_
    rw [if_neg (by omega)]
    exact hK _ (Or.inl ⟨rfl, fun j u v => h j u (by omega)⟩)
  | succ m ih =>
    intro k hm hk h
    have eC : 5 + 975 * s + 155 + 1 + 34 * k = aC s k := by unfold aC; omega
    refine v113_2 ?_
    rw [if_pos (by omega), ln_chs hs, eC, w32_id (x := k + 1) (by omega) (by omega)]
    have nx : ¬ fcC D s f a2 k → WP sc 113 2 D [(0, (1208, 5 + 975 * s)), (1, (0, f)), (2, (1205, a2)), (3, (0, k + 1))] [] K E := fun g => ih _ (by omega) (by omega) (fun j u v => by
      by_cases e : j = k
      · rw [e]; exact g
      · exact h j u (by omega))
    refine ⟨by omega, fun h01 => ?_⟩
    by_cases e3 : D (aC s k) 3 = 0
    · rw [if_pos e3]
      exact nx (fun g => by have := g.1; omega)
    · rw [if_neg e3]
      refine ⟨by omega, ?_⟩
      by_cases e4 : D (aC s k) 4 = f
      · rw [if_pos e4]
        have l6 := h66 k hk (by omega) (by omega)
        refine ⟨by omega, c_like ?_ ?_ ?_ (fun g => ?_) (fun g => ?_)⟩
        · rw [show aC s k + 1 + 1 = aC s k + 2 from by omega, show aC s k + 2 + 1 = aC s k + 3 from by omega, ln_lab hs (by omega)]; exact l6
        · rw [show a2 + 1 + 1 = a2 + 2 from by omega]; exact h2
        · rw [show aC s k + 1 + 1 = aC s k + 2 from by omega]; omega
        · rw [if_neg (by omega)]
          rw [show aC s k + 1 + 1 = aC s k + 2 from by omega] at g
          exact hK _ (Or.inr ⟨hk, by omega, ⟨by omega, e4, g⟩, h⟩)
        · rw [if_pos rfl]
          rw [show aC s k + 1 + 1 = aC s k + 2 from by omega] at g
          exact nx (fun q => g q.2.2)
      · rw [if_neg e4]
        exact nx (fun g => e4 g.2.1)
theorem c_findCh {f a2 : Int} (hs : s = 0 ∨ s = 1) (h66 : ∀ k, 0 ≤ k → k < 24 → D (aC s k) 3 = 1 → D (aC s k + 2) 1 ≤ 66) (h2 : D (a2 + 1) 1 ≤ ln (a2 + 2)) (hK : ∀ r, fstP (fcC D s f a2) 24 r → K D r) : WP sc 113 0 D [(0, (1208, 5 + 975 * s)), (1, (0, f)), (2, (1205, a2))] [] K E :=
  v113_0 (c_fch1 hs h66 h2 hK 24 0 (by omega) (by omega) (fun j u v => by omega))
/-- the other side -/
def isS (D : tD) (x : Int) (l : List Int) : Prop := D 1998 x = (l.length : Int) ∧ atL D 1997 (66 * x) l
theorem m_isSet1 {x : Int} {l : List Int} (hx : 0 ≤ x ∧ x < 48) (hS : setIs D l) (hl : D 1998 x = (l.length : Int)) (h66 : l.length ≤ 66) (hT : isS D x l → K D 1) (hN : ¬ isS D x l → K D 0) : ∀ (t p : List Int), l = p ++ t → atL D 1997 (66 * x) p → WP sc 199 21 D [(0, (1211, 1977)), (1, (0, x)), (2, (0, 1)), (3, (0, (p.length : Int)))] [] K E := by
  intro t
  induction t with
  | nil =>
    intro p h hp
    rw [List.append_nil] at h
    subst h
    refine v199_21 ?_
    rw [hS.1, if_neg (by omega)]
    exact tbl_of (Or.inr rfl) (hT ⟨hl, hp⟩)
  | cons b t ih =>
    intro p h hp
    have ll : l.length = p.length + (t.length + 1) := by rw [h, List.length_append, List.length_cons]
    have hb : D 2009 (p.length : Int) = b := by
      have := hS.2
      rw [h, atL_app] at this
      have := this.2.1
      rw [show (0 : Int) + (p.length : Int) = (p.length : Int) from by omega] at this
      exact this
    refine v199_21 ?_
    rw [hS.1, if_pos (by omega), if_neg (by omega), w32_id (x := 66 * x) (by omega) (by omega), w32_id (x := 66 * x + (p.length : Int)) (by omega) (by omega), hb, w32_id (x := (p.length : Int) + 1) (by omega) (by omega)]
    refine ⟨by omega, by omega, ?_⟩
    by_cases e : D 1997 (66 * x + (p.length : Int)) = b
    · rw [if_pos e]
      have := ih (p ++ [b]) (by rw [h]; simp) (by rw [atL_app]; exact ⟨hp, e, trivial⟩)
      rw [List.length_append, List.length_singleton, show ((p.length + 1 : Nat) : Int) = (p.length : Int) + 1 from by omega] at this
      exact this
    · rw [if_neg e]
      have no : ¬ isS D x l := fun g => by
        have g2 := g.2
        rw [h, atL_app] at g2
        exact e g2.2.1
      refine v199_21 ?_
      rw [hS.1]
      split
      · rw [if_pos rfl]
        exact tbl_of (Or.inl rfl) (hN no)
      · exact tbl_of (Or.inl rfl) (hN no)
theorem m_isSet {x : Int} {l : List Int} (hx : 0 ≤ x ∧ x < 48) (hS : setIs D l) (h66 : D 1998 x ≤ 66) (hT : isS D x l → K D 1) (hN : ¬ isS D x l → K D 0) : WP sc 199 0 D [(0, (1211, 1977)), (1, (0, x))] [] K E := by
  refine v199_0 ⟨hx, ?_⟩
  rw [hS.1]
  by_cases e : D 1998 x = (l.length : Int)
  · rw [if_pos e]
    exact m_isSet1 hx hS e (by omega) hT hN l [] (by simp) trivial
  · rw [if_neg e]
    refine v199_21 ?_
    have no : ¬ isS D x l := fun g => e g.1
    rw [hS.1]
    split
    · rw [if_pos rfl]
      exact tbl_of (Or.inl rfl) (hN no)
    · exact tbl_of (Or.inl rfl) (hN no)
def fcM (D : tD) (s f : Int) (l : List Int) (k : Int) : Prop := D 1994 (24 * s + k) = 1 ∧ D 1995 (24 * s + k) = f ∧ isS D (24 * s + k) l
theorem m_finds1 {f : Int} {l : List Int} (hs : s = 0 ∨ s = 1) (hS : setIs D l) (h66 : ∀ k, 0 ≤ k → k < 24 → D 1994 (24 * s + k) = 1 → D 1998 (24 * s + k) ≤ 66) (hK : ∀ r, fstP (fcM D s f l) 24 r → K D (if r = -1 then -1 else 24 * s + r)) : ∀ (m : Nat) (k : Int), 24 - k = (m : Int) → 0 ≤ k → (∀ j, 0 ≤ j → j < k → ¬ fcM D s f l j) → WP sc 200 5 D [(0, (1211, 1977)), (1, (0, s)), (2, (0, f)), (3, (0, 24 * s + k))] [] K E := by
  have e24 : w32 (w32 (24 * s) + 24) = 24 * s + 24 := by rw [w32_id (x := 24 * s) (by omega) (by omega), w32_id (by omega) (by omega)]
  intro m
  induction m with
  | zero =>
    intro k hm hk h
    refine v200_5 ?_
    rw [e24, if_neg (by omega)]
    have := hK _ (Or.inl ⟨rfl, fun j u v => h j u (by omega)⟩)
    rw [if_pos rfl] at this
    exact this
  | succ m ih =>
    intro k hm hk h
    refine v200_5 ?_
    rw [e24, if_pos (by omega), w32_id (x := 24 * s + k + 1) (by omega) (by omega)]
    have nx : ¬ fcM D s f l k → WP sc 200 5 D [(0, (1211, 1977)), (1, (0, s)), (2, (0, f)), (3, (0, 24 * s + k + 1))] [] K E := fun g => by
      have := ih (k + 1) (by omega) (by omega) (fun j u v => by
        by_cases e : j = k
        · rw [e]; exact g
        · exact h j u (by omega))
      rw [show 24 * s + (k + 1) = 24 * s + k + 1 from by omega] at this
      exact this
    refine ⟨by omega, fun h01 => ?_⟩
    by_cases e3 : D 1994 (24 * s + k) = 0
    · rw [if_pos e3]
      exact nx (fun g => by have := g.1; omega)
    · rw [if_neg e3]
      refine ⟨by omega, ?_⟩
      by_cases e4 : D 1995 (24 * s + k) = f
      · rw [if_pos e4]
        refine m_isSet (by omega) hS (h66 k hk (by omega) (by omega)) (fun g => ?_) (fun g => ?_)
        · rw [if_neg (by omega)]
          have := hK k (Or.inr ⟨hk, by omega, ⟨by omega, e4, g⟩, h⟩)
          rw [if_neg (by omega)] at this
          exact this
        · rw [if_pos rfl]
          exact nx (fun q => g q.2.2)
      · rw [if_neg e4]
        exact nx (fun g => e4 g.2.1)
theorem m_finds {f : Int} {l : List Int} (hs : s = 0 ∨ s = 1) (hS : setIs D l) (h66 : ∀ k, 0 ≤ k → k < 24 → D 1994 (24 * s + k) = 1 → D 1998 (24 * s + k) ≤ 66) (hK : ∀ r, fstP (fcM D s f l) 24 r → K D (if r = -1 then -1 else 24 * s + r)) : WP sc 200 0 D [(0, (1211, 1977)), (1, (0, s)), (2, (0, f))] [] K E := by
  refine v200_0 ?_
  have := m_finds1 (sc := sc) (E := E) hs hS h66 hK 24 0 (by omega) (by omega) (fun j u v => by omega)
  rw [w32_id (by omega) (by omega)]
  rw [show 24 * s + 0 = 24 * s from by omega] at this
  exact this
/-! children counted -/
def cofC (D : tD) (s f : Int) : Int → Int := fun k => if D (aC s k) 3 = 1 ∧ D (aC s k) 4 = f then 1 else 0
def cofM (D : tD) (f : Int) : Int → Int := fun k => if D 1994 k = 1 ∧ D 1995 k = f then 1 else 0
theorem sm01 {g : Int → Int} (h : ∀ k, g k = 0 ∨ g k = 1) (n : Nat) : 0 ≤ sm g n ∧ sm g n ≤ (n : Int) := by
  have := sm_bound (g := g) (a := 0) (b := 1) (n := n) (fun k _ _ => by have := h k; omega)
  omega
theorem cofC01 (D : tD) (s f k : Int) : cofC D s f k = 0 ∨ cofC D s f k = 1 := by unfold cofC; split <;> simp
theorem cofM01 (D : tD) (f k : Int) : cofM D f k = 0 ∨ cofM D f k = 1 := by unfold cofM; split <;> simp
theorem c_chFam1 {f : Int} (hs : s = 0 ∨ s = 1) (hK : K D (sm (cofC D s f) 24)) : ∀ (m k : Nat), m + k = 24 → WP sc 114 4 D [(0, (1208, 5 + 975 * s)), (1, (0, f)), (2, (0, sm (cofC D s f) k)), (3, (0, (k : Int)))] [] K E := by
  intro m
  induction m with
  | zero =>
    intro k hm
    refine v114_4 ?_
    rw [if_neg (by omega)]
    rw [show k = 24 from by omega]
    exact hK
  | succ m ih =>
    intro k hm
    have eC : 5 + 975 * s + 155 + 1 + 34 * (k : Int) = aC s (k : Int) := by unfold aC; omega
    have b01 := sm01 (cofC01 D s f) k
    have nx := ih (k + 1) (by omega)
    rw [sm_succ, show ((k + 1 : Nat) : Int) = (k : Int) + 1 from by omega] at nx
    refine v114_4 ?_
    rw [if_pos (by omega), ln_chs hs, eC, w32_id (x := (k : Int) + 1) (by omega) (by omega), w32_id (x := sm (cofC D s f) k + 1) (by omega) (by omega), w32_id (x := sm (cofC D s f) k + 0) (by omega) (by omega)]
    refine ⟨by omega, fun h01 => ?_⟩
    by_cases e3 : D (aC s (k : Int)) 3 = 0
    · rw [if_pos e3]
      rw [show cofC D s f (k : Int) = 0 from if_neg (fun g => by have := g.1; omega)] at nx
      exact nx
    · rw [if_neg e3]
      refine ⟨by omega, ?_⟩
      by_cases e4 : D (aC s (k : Int)) 4 = f
      · rw [if_pos e4]
        rw [show cofC D s f (k : Int) = 1 from if_pos ⟨by omega, e4⟩] at nx
        exact nx
      · rw [if_neg e4]
        rw [show cofC D s f (k : Int) = 0 from if_neg (fun g => e4 g.2)] at nx
        exact nx
theorem c_chFam {f : Int} (hs : s = 0 ∨ s = 1) (hK : K D (sm (cofC D s f) 24)) : WP sc 114 0 D [(0, (1208, 5 + 975 * s)), (1, (0, f))] [] K E :=
  v114_0 (c_chFam1 hs hK 24 0 (by omega))
theorem m_chOf1 {f : Int} (hK : K D (sm (cofM D f) 48)) : ∀ (m k : Nat), m + k = 48 → WP sc 201 4 D [(0, (1211, 1977)), (1, (0, f)), (2, (0, sm (cofM D f) k)), (3, (0, (k : Int)))] [] K E := by
  intro m
  induction m with
  | zero =>
    intro k hm
    refine v201_4 ?_
    rw [if_neg (by omega)]
    rw [show k = 48 from by omega]
    exact hK
  | succ m ih =>
    intro k hm
    have b01 := sm01 (cofM01 D f) k
    have nx := ih (k + 1) (by omega)
    rw [sm_succ, show ((k + 1 : Nat) : Int) = (k : Int) + 1 from by omega] at nx
    refine v201_4 ?_
    rw [if_pos (by omega), w32_id (x := (k : Int) + 1) (by omega) (by omega), w32_id (x := sm (cofM D f) k + 1) (by omega) (by omega), w32_id (x := sm (cofM D f) k + 0) (by omega) (by omega)]
    refine ⟨by omega, fun h01 => ?_⟩
    by_cases e3 : D 1994 (k : Int) = 0
    · rw [if_pos e3]
      rw [show cofM D f (k : Int) = 0 from if_neg (fun g => by have := g.1; omega)] at nx
      exact nx
    · rw [if_neg e3]
      refine ⟨by omega, ?_⟩
      by_cases e4 : D 1995 (k : Int) = f
      · rw [if_pos e4]
        rw [show cofM D f (k : Int) = 1 from if_pos ⟨by omega, e4⟩] at nx
        exact nx
      · rw [if_neg e4]
        rw [show cofM D f (k : Int) = 0 from if_neg (fun g => e4 g.2)] at nx
        exact nx
theorem m_chOf {f : Int} (hK : K D (sm (cofM D f) 48)) : WP sc 201 0 D [(0, (1211, 1977)), (1, (0, f))] [] K E :=
  v201_0 (m_chOf1 hK 48 0 (by omega))
def thM (D : tD) (s : Int) : Int → Int := fun k => if D 1994 (24 * s + k) = 1 then 1 else 0
theorem thM01 (D : tD) (s k : Int) : thM D s k = 0 ∨ thM D s k = 1 := by unfold thM; split <;> simp
theorem m_chIn1 (hs : s = 0 ∨ s = 1) (hK : K D (sm (thM D s) 24)) : ∀ (m k : Nat), m + k = 24 → WP sc 202 7 D [(0, (1211, 1977)), (1, (0, s)), (2, (0, sm (thM D s) k)), (3, (0, 24 * s + (k : Int)))] [] K E := by
  have e24 : w32 (w32 (24 * s) + 24) = 24 * s + 24 := by rw [w32_id (x := 24 * s) (by omega) (by omega), w32_id (by omega) (by omega)]
  intro m
  induction m with
  | zero =>
    intro k hm
    refine v202_7 ?_
    rw [e24, if_neg (by omega)]
    rw [show k = 24 from by omega]
    exact hK
  | succ m ih =>
    intro k hm
    have b01 := sm01 (thM01 D s) k
    have nx := ih (k + 1) (by omega)
    rw [sm_succ, show 24 * s + ((k + 1 : Nat) : Int) = 24 * s + (k : Int) + 1 from by omega] at nx
    refine v202_7 ?_
    rw [e24, if_pos (by omega), w32_id (x := 24 * s + (k : Int) + 1) (by omega) (by omega), w32_id (x := sm (thM D s) k + 1) (by omega) (by omega), w32_id (x := sm (thM D s) k + 0) (by omega) (by omega)]
    refine ⟨by omega, fun h01 => ?_⟩
    by_cases e3 : D 1994 (24 * s + (k : Int)) = 0
    · rw [if_pos e3]
      rw [show thM D s (k : Int) = 0 from if_neg (by omega)] at nx
      exact nx
    · rw [if_neg e3]
      rw [show thM D s (k : Int) = 1 from if_pos (by omega)] at nx
      exact nx
theorem m_chIn (hs : s = 0 ∨ s = 1) (hK : K D (sm (thM D s) 24)) : WP sc 202 0 D [(0, (1211, 1977)), (1, (0, s))] [] K E := by
  refine v202_0 ?_
  have := m_chIn1 (sc := sc) (E := E) hs hK 24 0 (by omega)
  rw [w32_id (by omega) (by omega)]
  rw [show 24 * s + ((0 : Nat) : Int) = 24 * s from by omega] at this
  exact this
end FND
