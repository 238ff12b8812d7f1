/-! sheets: how the two sides stand to each other -/
section SHT
variable {sc : Nat × (Nat → Int32)} {D : tD} {K : tD → Int → Prop} {E : tD → Nat → Prop}
/-- sums -/
def sm (g : Int → Int) (n : Nat) : Int := Nat.rec (motive := fun _ => Int) 0 (fun k ih => ih + g (k : Nat)) n
theorem sm_succ (g : Int → Int) (n : Nat) : sm g (n + 1) = sm g n + g (n : Nat) := rfl
theorem sm_ext {g h : Int → Int} : ∀ {n : Nat}, (∀ k : Int, 0 ≤ k → k < (n : Nat) → g k = h k) → sm g n = sm h n := by
  intro n
  induction n with
  | zero => intro _; rfl
  | succ n ih =>
    intro hg
    rw [sm_succ, sm_succ, ih (fun k h1 h2 => hg k h1 (by omega)), hg (n : Nat) (by omega) (by omega)]
theorem sm_bound {g : Int → Int} {a b : Int} : ∀ {n : Nat}, (∀ k : Int, 0 ≤ k → k < (n : Nat) → a ≤ g k ∧ g k ≤ b) → a * (n : Nat) ≤ sm g n ∧ sm g n ≤ b * (n : Nat) := by
  intro n
  induction n with
  | zero => intro _; show a * 0 ≤ 0 ∧ 0 ≤ b * 0; omega
  | succ n ih =>
    intro hg
    have h1 := ih (fun k h1 h2 => hg k h1 (by omega))
    have h2 := hg (n : Nat) (by omega) (by omega)
    rw [sm_succ]
    have e1 : a * ((n + 1 : Nat) : Int) = a * (n : Nat) + a := by rw [Int.natCast_add, Int.mul_add]; simp
    have e2 : b * ((n + 1 : Nat) : Int) = b * (n : Nat) + b := by rw [Int.natCast_add, Int.mul_add]; simp
    omega
theorem sm_add (g : Int → Int) (a : Nat) : ∀ b : Nat, sm g (a + b) = sm g a + sm (fun k => g ((a : Nat) + k)) b := by
  intro b
  induction b with
  | zero => show sm g a = sm g a + 0; omega
  | succ b ih =>
    rw [show a + (b + 1) = (a + b) + 1 from rfl, sm_succ, sm_succ, ih]
    rw [show (((a + b : Nat)) : Int) = (a : Nat) + (b : Nat) from by omega]
    omega
theorem sm_z {g : Int → Int} {n : Nat} (h : ∀ k : Int, 0 ≤ k → k < (n : Nat) → g k = 0) : sm g n = 0 := by
  have := sm_bound (g := g) (a := 0) (b := 0) (n := n) (fun k h1 h2 => by rw [h k h1 h2]; omega)
  omega
/-- places -/
def aF (s f : Int) : Int := 7 + 975 * s + 17 * f
def aC (s k : Int) : Int := 161 + 975 * s + 34 * k
def aX (s k b : Int) : Int := 167 + 975 * s + 34 * k + 4 * b
/-- a label set, by rising names -/
def labW (D : tD) (r a b : Int) : Prop := ∃ m, namP 1 D r a m ∧ rat D r m = 1 ∧ m + 1 ≤ b - 1 ∧ txtP D r (m + 1) (b - 1) 12 ∧ rat D r (b - 1) = 2 ∧ b ≤ D r 1
def nmlt (D : tD) (r a b : Int) : Prop := ∃ k, 0 ≤ k ∧ (∀ j, 0 ≤ j → j < k → rat D r (a + j) = rat D r (b + j) ∧ rat D r (a + j) ≠ 1) ∧ rat D r (a + k) < rat D r (b + k)
def lsW (D : tD) (r n : Int) : Prop := 0 ≤ n ∧ ∃ p : Int → Int, p 0 = 0 ∧ p n = D r 1 ∧ ∀ q, 0 ≤ q → q < n → 0 ≤ p q ∧ labW D r (p q) (p (q + 1)) ∧ (q + 1 < n → nmlt D r (p q) (p (q + 1)))
def mostN : Int := 999999999999999
/-- an exemplar and its cell -/
def exR (D : tD) (e q : Int) : Prop := D e 1 = D 2003 q ∧ (D e 1 = 1 → (D e 2 = D 2004 q ∧ -mostN ≤ D e 2 ∧ D e 2 ≤ mostN) ∧ (D e 3 = D 2005 q ∧ 0 ≤ D e 3 ∧ D e 3 ≤ 2000000000000000) ∧ rowm D (e + 2) 44 2006 (44 * q) (D 2007 q) ∧ lsW D (e + 2) (D (e + 1) 1)) ∧ (D e 1 = 0 → D e 2 = 0 ∧ D e 3 = 0 ∧ D (e + 2) 1 = 0)
/-- a child of both -/
def chR (c : Int) (D : tD) (s k : Int) : Prop := (0 ≤ D (aC s k) 4 ∧ D (aC s k) 4 < D (5 + 975 * s) 4 ∧ D 1995 (24 * s + k) = D (aC s k) 4 + 8 * s) ∧ (rowm D (aC s k + 2) 66 1997 (66 * (24 * s + k)) (D 1998 (24 * s + k)) ∧ lsW D (aC s k + 2) (D (aC s k + 1) 1)) ∧ (D (aC s k) 5 = D 1999 (24 * s + k) ∧ -mostN ≤ D (aC s k) 5 ∧ D (aC s k) 5 ≤ mostN) ∧ (D (aC s k) 6 = D 2000 (24 * s + k) ∧ -1 ≤ D (aC s k) 6 ∧ D (aC s k) 6 ≤ 2000000000000000) ∧ (D (aC s k) 7 = D 2001 (24 * s + k) ∧ 0 ≤ D (aC s k) 7 ∧ D (aC s k) 7 ≤ 15) ∧ (∀ b, 0 ≤ b → b < 7 → D (aC s k + 4) b = D 2002 (7 * (24 * s + k) + b) ∧ 0 ≤ D (aC s k + 4) b ∧ D (aC s k + 4) b ≤ 1000000000000 + c ∧ (D (aF s (D (aC s k) 4)) 5 ≠ 2 ∨ D (aF s (D (aC s k) 4)) 6 < b → D (aC s k + 4) b = 0)) ∧ ∀ b, 0 ≤ b → b < 7 → exR D (aX s k b) (7 * (24 * s + k) + b)
/-- a family of both -/
def faR (D : tD) (s f : Int) : Prop := (D (aF s f) 5 = D 1980 (8 * s + f) ∧ 0 ≤ D (aF s f) 5 ∧ D (aF s f) 5 ≤ 4) ∧ (rowm D (aF s f + 1) 24 1981 (24 * (8 * s + f)) (D 1982 (8 * s + f)) ∧ namP 0 D (aF s f + 1) 0 (D (aF s f + 1) 1)) ∧ rowm D (aF s f + 3) 8 1983 (8 * (8 * s + f)) (D 1984 (8 * s + f)) ∧ (rowm D (aF s f + 5) 40 1985 (40 * (8 * s + f)) (D 1986 (8 * s + f)) ∧ txtP D (aF s f + 5) 0 (D (aF s f + 5) 1) 40) ∧
  (D (aF s f) 6 = D 1988 (8 * s + f) ∧ 0 ≤ D (aF s f) 6 ∧ D (aF s f) 6 ≤ 6 ∧ (D (aF s f) 5 ≠ 2 → D (aF s f) 6 = 0) ∧ (∀ k, 0 ≤ k → k < D (aF s f) 6 → D (aF s f + 7) k = D 1987 (6 * (8 * s + f) + k) ∧ -mostN ≤ D (aF s f + 7) k ∧ D (aF s f + 7) k ≤ mostN) ∧ ∀ k, 0 ≤ k → k + 1 < D (aF s f) 6 → D (aF s f + 7) k < D (aF s f + 7) (k + 1)) ∧
  (D (aF s f) 7 = D 1991 (8 * s + f) ∧ 0 ≤ D (aF s f) 7 ∧ D (aF s f) 7 ≤ 4 ∧ (D (aF s f) 5 ≠ 4 → D (aF s f) 7 = 0) ∧ ∀ k, 0 ≤ k → k < D (aF s f) 7 → rowm D (aF s f + 9 + 2 * k) 12 1989 (12 * (4 * (8 * s + f) + k)) (D 1990 (4 * (8 * s + f) + k)) ∧ txtP D (aF s f + 9 + 2 * k) 0 (D (aF s f + 9 + 2 * k) 1) 12) ∧
  (s = 0 → D (aF s f) 8 = D 1993 f ∧ 0 ≤ D (aF s f) 8 ∧ D (aF s f) 8 ≤ 24 ∧ D (aF s f) 9 = D 1992 f)
/-- the order of the children -/
def orR (D : tD) (s : Int) : Prop := (0 ≤ D (5 + 975 * s) 5 ∧ D (5 + 975 * s) 5 ≤ 24 ∧ sm (fun k => D (aC s k) 3) 24 = D (5 + 975 * s) 5) ∧ (∀ p, 0 ≤ p → p < D (5 + 975 * s) 5 → 0 ≤ D (977 + 975 * s) p ∧ D (977 + 975 * s) p < 24 ∧ D (aC s (D (977 + 975 * s) p)) 3 = 1 ∧ 0 ≤ D 1996 (24 * s + D (977 + 975 * s) p) ∧ D 1996 (24 * s + D (977 + 975 * s) p) < D 1977 22) ∧ (∀ p q, 0 ≤ p → p < q → q < D (5 + 975 * s) 5 → D 1996 (24 * s + D (977 + 975 * s) p) < D 1996 (24 * s + D (977 + 975 * s) q)) ∧ ∀ k, 0 ≤ k → k < 24 → D (aC s k) 3 = 1 → ∃ p, 0 ≤ p ∧ p < D (5 + 975 * s) 5 ∧ D (977 + 975 * s) p = k
def shR (c : Int) (D : tD) (s : Int) : Prop := (D (5 + 975 * s) 4 = D 1979 s ∧ 0 ≤ D (5 + 975 * s) 4 ∧ D (5 + 975 * s) 4 ≤ 8) ∧ (∀ f, 0 ≤ f → f < D (5 + 975 * s) 4 → faR D s f) ∧ (∀ k, 0 ≤ k → k < 24 → D (aC s k) 3 = D 1994 (24 * s + k) ∧ (D (aC s k) 3 = 0 ∨ D (aC s k) 3 = 1) ∧ (D (aC s k) 3 = 1 → chR c D s k)) ∧ orR D s
/-- the common label -/
def coR (D : tD) : Prop := rowm D 1972 22 2008 0 (D 1977 35) ∧ lsW D 1972 (D 1971 1) ∧ D 1971 1 ≤ 1
/-- no two kept families have the same name -/
def unq (D : tD) : Prop := ∀ f g, 0 ≤ f → f < g → g < D 1979 0 → ¬ (D 1982 f = D 1982 g ∧ ∀ j, 0 ≤ j → j < D 1982 f → D 1981 (24 * f + j) = D 1981 (24 * g + j))
theorem unq_fr {D D' : tD} (h : ∀ a j, (a = 1979 ∧ j = 0) ∨ a = 1981 ∨ a = 1982 → D' a j = D a j) (hx : unq D) : unq D' := fun f g u v w q => by
  rw [h 1979 0 (Or.inl ⟨rfl, rfl⟩)] at w
  rw [h 1982 f (Or.inr (Or.inr rfl)), h 1982 g (Or.inr (Or.inr rfl))] at q
  exact hx f g u v w ⟨q.1, fun j y z => by rw [← h 1981 _ (Or.inr (Or.inl rfl)), ← h 1981 _ (Or.inr (Or.inl rfl))]; exact q.2 j y z⟩
def RSc (c : Int) (D : tD) : Prop := shR c D 0 ∧ shR c D 1 ∧ coR D ∧ (0 ≤ D 1977 22 ∧ D 1977 22 ≤ 100 * c ∧ unq D)
/-! what it depends on -/
theorem rat_fr {D D' : tD} {r : Int} (h1 : D' r 1 = D r 1) (h2 : ∀ j, D' (r + 1) j = D (r + 1) j) (p : Int) : rat D' r p = rat D r p := by unfold rat; rw [h1, h2]
theorem rowm_fr {D D' : tD} {r cap arr off n n' : Int} (h1 : ∀ j, D' r j = D r j) (h2 : ∀ j, D' (r + 1) j = D (r + 1) j) (h3 : ∀ j, D' arr j = D arr j) (hn : n' = n) (h : rowm D r cap arr off n) : rowm D' r cap arr off n' := by
  subst hn
  obtain ⟨a, b, c, d⟩ := h
  exact ⟨by rw [h1]; exact a, b, c, fun j x y => by rw [h2, h3]; exact d j x y⟩
theorem txtP_fr {D D' : tD} {r s e m : Int} (h : ∀ p, rat D' r p = rat D r p) (ht : txtP D r s e m) : txtP D' r s e m := ⟨ht.1, ht.2.1, fun j a b => by rw [h]; exact ht.2.2 j a b⟩
theorem namP_fr {D D' : tD} {lab r s e : Int} (h : ∀ p, rat D' r p = rat D r p) (ht : namP lab D r s e) : namP lab D' r s e := by
  unfold namP at ht ⊢
  simp only [h]
  exact ht
theorem lsW_fr {D D' : tD} {r n n' : Int} (h1 : D' r 1 = D r 1) (h : ∀ p, rat D' r p = rat D r p) (hn : n' = n) (hw : lsW D r n) : lsW D' r n' := by
  subst hn
  obtain ⟨a, p, b, d, e⟩ := hw
  refine ⟨a, p, b, by rw [h1]; exact d, fun q x y => ?_⟩
  obtain ⟨e1, ⟨m, m1, m2, m3, m4, m5, m6⟩, e3⟩ := e q x y
  refine ⟨e1, ⟨m, namP_fr h m1, by rw [h]; exact m2, m3, txtP_fr h m4, by rw [h]; exact m5, by rw [h1]; exact m6⟩, fun z => ?_⟩
  obtain ⟨k, k1, k2, k3⟩ := e3 z
  exact ⟨k, k1, fun j u v => by rw [h, h]; exact k2 j u v, by rw [h, h]; exact k3⟩
theorem exR_fr {D D' : tD} {e q : Int} (h : ∀ a j, e ≤ a → a ≤ e + 3 → D' a j = D a j) (hm : ∀ a j, 2003 ≤ a → a ≤ 2007 → D' a j = D a j) (hx : exR D e q) : exR D' e q := by
  have hr : ∀ p, rat D' (e + 2) p = rat D (e + 2) p := rat_fr (h _ _ (by omega) (by omega)) (fun j => h _ _ (by omega) (by omega))
  obtain ⟨a, b, d⟩ := hx
  refine ⟨by rw [h _ _ (by omega) (by omega), hm _ _ (by omega) (by omega)]; exact a, fun y => ?_, fun y => ?_⟩
  · rw [h _ _ (by omega) (by omega)] at y
    obtain ⟨b1, b2, b3, b4⟩ := b y
    refine ⟨by rw [h _ _ (by omega) (by omega), hm _ _ (by omega) (by omega)]; exact b1, by rw [h _ _ (by omega) (by omega), hm _ _ (by omega) (by omega)]; exact b2, rowm_fr (fun j => h _ _ (by omega) (by omega)) (fun j => h _ _ (by omega) (by omega)) (fun j => hm _ _ (by omega) (by omega)) (hm _ _ (by omega) (by omega)) b3, lsW_fr (h _ _ (by omega) (by omega)) hr (h _ _ (by omega) (by omega)) b4⟩
  · rw [h _ _ (by omega) (by omega)] at y
    rw [h _ _ (by omega) (by omega), h _ _ (by omega) (by omega), h _ _ (by omega) (by omega)]
    exact d y
theorem kfR {D D' : tD} {F : Int} (h : ∀ j, D' F j = D F j) : D' F 5 = D F 5 ∧ D F 6 ≤ D' F 6 := ⟨h 5, Int.le_of_eq (h 6).symm⟩
theorem chR_fr {D D' : tD} {s k c c' : Int} (hc : c ≤ c') (hS : D' (5 + 975 * s) 4 = D (5 + 975 * s) 4) (hK : D' (aF s (D (aC s k) 4)) 5 = D (aF s (D (aC s k) 4)) 5 ∧ D (aF s (D (aC s k) 4)) 6 ≤ D' (aF s (D (aC s k) 4)) 6) (h : ∀ a j, aC s k ≤ a → a ≤ aC s k + 33 → D' a j = D a j) (hm : ∀ a j, 1995 ≤ a → a ≤ 2007 → a ≠ 1996 → D' a j = D a j) (hx : chR c D s k) : chR c' D' s k := by
  have hr : ∀ p, rat D' (aC s k + 2) p = rat D (aC s k + 2) p := rat_fr (h _ _ (by omega) (by omega)) (fun j => h _ _ (by omega) (by omega))
  obtain ⟨a1, ⟨a2, a3⟩, a4, a5, a6, a7, a8⟩ := hx
  refine ⟨by rw [hS, h _ _ (by omega) (by omega), hm _ _ (by omega) (by omega) (by omega)]; exact a1, ⟨rowm_fr (fun j => h _ _ (by omega) (by omega)) (fun j => h _ _ (by omega) (by omega)) (fun j => hm _ _ (by omega) (by omega) (by omega)) (hm _ _ (by omega) (by omega) (by omega)) a2, lsW_fr (h _ _ (by omega) (by omega)) hr (h _ _ (by omega) (by omega)) a3⟩, by rw [h _ _ (by omega) (by omega), hm _ _ (by omega) (by omega) (by omega)]; exact a4, by rw [h _ _ (by omega) (by omega), hm _ _ (by omega) (by omega) (by omega)]; exact a5, by rw [h _ _ (by omega) (by omega), hm _ _ (by omega) (by omega) (by omega)]; exact a6, fun b x y => ?_, fun b x y => ?_⟩
  · rw [h (aC s k + 4) b (by omega) (by omega), hm _ _ (by omega) (by omega) (by omega), h (aC s k) 4 (by omega) (by omega), hK.1]
    obtain ⟨u1, u2, u3, u4⟩ := a7 b x y
    exact ⟨u1, u2, by omega, fun w => u4 (w.imp id (fun z => Int.lt_of_le_of_lt hK.2 z))⟩
  · refine exR_fr (fun a j u v => h _ _ ?_ ?_) (fun a j u v => hm _ _ (by omega) (by omega) (by omega)) (a8 b x y)
    · unfold aX aC at *; omega
    · unfold aX aC at *; omega
theorem faR_fr {D D' : tD} {s f : Int} (h : ∀ a j, aF s f ≤ a → a ≤ aF s f + 16 → D' a j = D a j) (hm : ∀ a j, 1980 ≤ a → a ≤ 1993 → D' a j = D a j) (hx : faR D s f) : faR D' s f := by
  have hr : ∀ q, 1 ≤ q → q ≤ 15 → ∀ p, rat D' (aF s f + q) p = rat D (aF s f + q) p := fun q u v => rat_fr (h _ _ (by omega) (by omega)) (fun j => h _ _ (by omega) (by omega))
  obtain ⟨a1, ⟨a2, a3⟩, a4, ⟨a5, a6⟩, a7, a8, a9⟩ := hx
  refine ⟨by rw [h _ _ (by omega) (by omega), hm _ _ (by omega) (by omega)]; exact a1, ⟨rowm_fr (fun j => h _ _ (by omega) (by omega)) (fun j => h _ _ (by omega) (by omega)) (fun j => hm _ _ (by omega) (by omega)) (hm _ _ (by omega) (by omega)) a2, ?_⟩, rowm_fr (fun j => h _ _ (by omega) (by omega)) (fun j => h _ _ (by omega) (by omega)) (fun j => hm _ _ (by omega) (by omega)) (hm _ _ (by omega) (by omega)) a4, ⟨rowm_fr (fun j => h _ _ (by omega) (by omega)) (fun j => h _ _ (by omega) (by omega)) (fun j => hm _ _ (by omega) (by omega)) (hm _ _ (by omega) (by omega)) a5, ?_⟩, ?_, ?_, fun z => ?_⟩
  · rw [h _ _ (by omega) (by omega)]; exact namP_fr (hr 1 (by omega) (by omega)) a3
  · rw [h _ _ (by omega) (by omega)]; exact txtP_fr (hr 5 (by omega) (by omega)) a6
  · rw [h (aF s f) 6 (by omega) (by omega), h (aF s f) 5 (by omega) (by omega), hm 1988 _ (by omega) (by omega)]
    obtain ⟨b1, b2, b3, b4, b5, b6⟩ := a7
    refine ⟨b1, b2, b3, b4, fun k x y => ?_, fun k x y => ?_⟩
    · rw [h _ _ (by omega) (by omega), hm _ _ (by omega) (by omega)]; exact b5 k x y
    · rw [h _ _ (by omega) (by omega), h _ _ (by omega) (by omega)]; exact b6 k x y
  · rw [h (aF s f) 7 (by omega) (by omega), h (aF s f) 5 (by omega) (by omega), hm 1991 _ (by omega) (by omega)]
    obtain ⟨b1, b2, b3, b4, b5⟩ := a8
    refine ⟨b1, b2, b3, b4, fun k x y => ?_⟩
    obtain ⟨b6, b7⟩ := b5 k x y
    refine ⟨rowm_fr (fun j => h _ _ (by omega) (by omega)) (fun j => h _ _ (by omega) (by omega)) (fun j => hm _ _ (by omega) (by omega)) (hm _ _ (by omega) (by omega)) b6, ?_⟩
    rw [h _ _ (by omega) (by omega)]
    refine txtP_fr (fun p => ?_) b7
    have := hr (9 + 2 * k) (by omega) (by omega) p
    rw [show aF s f + (9 + 2 * k) = aF s f + 9 + 2 * k from by omega] at this
    exact this
  · rw [h (aF s f) 8 (by omega) (by omega), h (aF s f) 9 (by omega) (by omega), hm 1993 _ (by omega) (by omega), hm 1992 _ (by omega) (by omega)]
    exact a9 z
theorem orR_fr {D D' : tD} {s : Int} (hS : D' (5 + 975 * s) 5 = D (5 + 975 * s) 5) (hI : ∀ j, D' (977 + 975 * s) j = D (977 + 975 * s) j) (hC : ∀ k, 0 ≤ k → k < 24 → D' (aC s k) 3 = D (aC s k) 3) (hm : ∀ j, D' 1996 j = D 1996 j) (ho : D' 1977 22 = D 1977 22) (hx : orR D s) : orR D' s := by
  obtain ⟨a1, a2, a3, a4⟩ := hx
  unfold orR
  simp only [hS, hI, hm, ho]
  refine ⟨⟨a1.1, a1.2.1, ?_⟩, fun p x y => ?_, a3, fun k x y z => ?_⟩
  · rw [sm_ext (fun k x y => hC k x (by omega))]; exact a1.2.2
  · obtain ⟨b1, b2, b3, b4⟩ := a2 p x y
    exact ⟨b1, b2, by rw [hC _ b1 b2]; exact b3, b4⟩
  · rw [hC k x y] at z
    exact a4 k x y z
theorem shR_fr {D D' : tD} {s c c' : Int} (hs : s = 0 ∨ s = 1) (hc : c ≤ c') (h : ∀ a j, depS a j → D' a j = D a j) (hx : shR c D s) : shR c' D' s := by
  have h1 : ∀ a j, 5 ≤ a → a ≤ 1954 → D' a j = D a j := fun a j x y => h a j (Or.inl ⟨x, y⟩)
  have h2 : ∀ a j, 1979 ≤ a → a ≤ 2008 → D' a j = D a j := fun a j x y => h a j (by unfold depS; omega)
  have h3 : D' 1977 22 = D 1977 22 := h _ _ (by unfold depS; omega)
  obtain ⟨a1, a2, a3, a4⟩ := hx
  refine ⟨by rw [h1 _ _ (by omega) (by omega), h2 _ _ (by omega) (by omega)]; exact a1, fun f x y => ?_, fun k x y => ?_, orR_fr (h1 _ _ (by omega) (by omega)) (fun j => h1 _ _ (by omega) (by omega)) (fun k x y => h1 _ _ (by unfold aC; omega) (by unfold aC; omega)) (fun j => h2 _ _ (by omega) (by omega)) h3 a4⟩
  · rw [h1 _ _ (by omega) (by omega)] at y
    exact faR_fr (fun a j u v => h1 _ _ (by unfold aF at u; omega) (by unfold aF at v; omega)) (fun a j u v => h2 _ _ (by omega) (by omega)) (a2 f x y)
  · obtain ⟨b1, b2, b3⟩ := a3 k x y
    have e : D' (aC s k) 3 = D (aC s k) 3 := h1 _ _ (by unfold aC; omega) (by unfold aC; omega)
    rw [e, h2 _ _ (by omega) (by omega)]
    exact ⟨b1, b2, fun z => chR_fr hc (h1 _ _ (by omega) (by omega)) (kfR (fun j => h1 _ _ (by have := (b3 z).1; unfold aF; omega) (by have := (b3 z).1; unfold aF; omega))) (fun a j u v => h1 _ _ (by unfold aC at u; omega) (by unfold aC at v; omega)) (fun a j u v _ => h2 _ _ (by omega) (by omega)) (b3 z)⟩
theorem RSc_dep : depR RSc := by
  intro D D' h c hx
  obtain ⟨a1, a2, ⟨b1, b2, b3⟩, a4⟩ := hx
  have h1 : ∀ a j, 1971 ≤ a → a ≤ 1973 → D' a j = D a j := fun a j x y => h a j (by unfold depS; omega)
  refine ⟨shR_fr (Or.inl rfl) (by omega) h a1, shR_fr (Or.inr rfl) (by omega) h a2, ⟨rowm_fr (fun j => h1 _ _ (by omega) (by omega)) (fun j => h1 _ _ (by omega) (by omega)) (fun j => h _ _ (by unfold depS; omega)) (h _ _ (by unfold depS; omega)) b1, lsW_fr (h1 _ _ (by omega) (by omega)) (rat_fr (h1 _ _ (by omega) (by omega)) (fun j => h1 _ _ (by omega) (by omega))) (h1 _ _ (by omega) (by omega)) b2, by rw [h1 _ _ (by omega) (by omega)]; exact b3⟩, ?_⟩
  rw [h 1977 22 (by unfold depS; omega)]
  exact ⟨by omega, by omega, unq_fr (fun a j u => h a j (by unfold depS; omega)) a4.2.2⟩
end SHT
