/-! rows as lists; label sets as lists of labels -/
section LST
/-- an array holds a list from a place on -/
def atL (D : tD) (a : Int) : Int → List Int → Prop
  | _, [] => True
  | o, x :: l => D a o = x ∧ atL D a (o + 1) l
theorem atL_app {D : tD} {a : Int} : ∀ {l m : List Int} {o : Int}, atL D a o (l ++ m) ↔ atL D a o l ∧ atL D a (o + (l.length : Int)) m := by
  intro l
  induction l with
  | nil => intro m o; simp [atL]
  | cons x l ih =>
    intro m o
    show D a o = x ∧ atL D a (o + 1) (l ++ m) ↔ (D a o = x ∧ atL D a (o + 1) l) ∧ atL D a (o + ((l.length + 1 : Nat) : Int)) m
    rw [ih, show o + ((l.length + 1 : Nat) : Int) = o + 1 + (l.length : Int) from by omega, and_assoc]
theorem atL_mov {D D' : tD} {a a' : Int} : ∀ {l : List Int} {o o' : Int}, (∀ j, 0 ≤ j → j < (l.length : Int) → D' a' (o' + j) = D a (o + j)) → atL D a o l → atL D' a' o' l := by
  intro l
  induction l with
  | nil => intro o o' _ _; trivial
  | cons x l ih =>
    intro o o' h ⟨h1, h2⟩
    have e0 := h 0 (by omega) (by rw [List.length_cons]; omega)
    rw [show o' + 0 = o' from by omega, show o + 0 = o from by omega] at e0
    refine ⟨by rw [e0]; exact h1, ih (fun j x y => ?_) h2⟩
    have := h (j + 1) (by omega) (by rw [List.length_cons]; omega)
    rw [show o' + 1 + j = o' + (j + 1) from by omega, show o + 1 + j = o + (j + 1) from by omega]
    exact this
theorem atL_fr {D D' : tD} {a o : Int} {l : List Int} (h : ∀ j, o ≤ j → j < o + (l.length : Int) → D' a j = D a j) (hl : atL D a o l) : atL D' a o l := atL_mov (fun j x y => h _ (by omega) (by omega)) hl
theorem atL_eq {D D' : tD} {a a' : Int} : ∀ {l : List Int} {o o' : Int}, atL D a o l → atL D' a' o' l → ∀ j, 0 ≤ j → j < (l.length : Int) → D a (o + j) = D' a' (o' + j) := by
  intro l
  induction l with
  | nil => intro o o' _ _ j x y; simp at y; omega
  | cons z l ih =>
    intro o o' h h' j x y
    by_cases e : j = 0
    · subst e
      rw [show o' + 0 = o' from by omega, show o + 0 = o from by omega, h.1, h'.1]
    · have := ih h.2 h'.2 (j - 1) (by omega) (by simp at y; omega)
      rw [show o + 1 + (j - 1) = o + j from by omega, show o' + 1 + (j - 1) = o' + j from by omega] at this
      exact this
theorem atL_mem {D : tD} {a : Int} : ∀ {l : List Int} {o : Int}, atL D a o l → ∀ j, 0 ≤ j → j < (l.length : Int) → D a (o + j) ∈ l := by
  intro l
  induction l with
  | nil => intro o _ j x y; simp at y; omega
  | cons z l ih =>
    intro o h j x y
    by_cases e : j = 0
    · subst e
      rw [show o + 0 = o from by omega, h.1]
      exact List.mem_cons_self
    · have := ih h.2 (j - 1) (by omega) (by simp at y; omega)
      rw [show o + 1 + (j - 1) = o + j from by omega] at this
      exact List.mem_cons_of_mem _ this
/-- the list that stands somewhere -/
def spn (T : Int → Int) : Int → Nat → List Int
  | _, 0 => []
  | s, n + 1 => T s :: spn T (s + 1) n
theorem spn_len {T : Int → Int} : ∀ {n : Nat} {s : Int}, (spn T s n).length = n := by
  intro n
  induction n with
  | zero => intro s; rfl
  | succ n ih => intro s; show (spn T (s + 1) n).length + 1 = n + 1; rw [ih]
theorem spn_at {D : tD} {a : Int} {T : Int → Int} : ∀ {n : Nat} {s o : Int}, (∀ j, 0 ≤ j → j < (n : Int) → D a (o + j) = T (s + j)) → atL D a o (spn T s n) := by
  intro n
  induction n with
  | zero => intro s o _; trivial
  | succ n ih =>
    intro s o h
    have e0 := h 0 (by omega) (by omega)
    rw [show o + 0 = o from by omega, show s + 0 = s from by omega] at e0
    refine ⟨e0, ih (fun j x y => ?_)⟩
    have := h (j + 1) (by omega) (by omega)
    rw [show o + 1 + j = o + (j + 1) from by omega, show s + 1 + j = s + (j + 1) from by omega]
    exact this
theorem spn_app {T : Int → Int} : ∀ {n m : Nat} {s : Int}, spn T s (n + m) = spn T s n ++ spn T (s + (n : Int)) m := by
  intro n
  induction n with
  | zero => intro m s; simp [spn]
  | succ n ih =>
    intro m s
    rw [show n + 1 + m = (n + m) + 1 from by omega]
    show T s :: spn T (s + 1) (n + m) = T s :: (spn T (s + 1) n ++ spn T (s + ((n + 1 : Nat) : Int)) m)
    rw [ih, show s + ((n + 1 : Nat) : Int) = s + 1 + (n : Int) from by omega]
theorem spn_mem {T : Int → Int} : ∀ {n : Nat} {s x : Int}, x ∈ spn T s n → ∃ j, s ≤ j ∧ j < s + (n : Int) ∧ x = T j := by
  intro n
  induction n with
  | zero => intro s x h; exact absurd h (by simp [spn])
  | succ n ih =>
    intro s x h
    rcases List.mem_cons.mp h with h | h
    · exact ⟨s, by omega, by omega, h⟩
    · obtain ⟨j, a, b, c⟩ := ih h
      exact ⟨j, by omega, by omega, c⟩
theorem spn_ext {T U : Int → Int} : ∀ {n : Nat} {s u : Int}, (∀ j, 0 ≤ j → j < (n : Int) → T (s + j) = U (u + j)) → spn T s n = spn U u n := by
  intro n
  induction n with
  | zero => intro s u _; rfl
  | succ n ih =>
    intro s u h
    have e0 := h 0 (by omega) (by omega)
    rw [show s + 0 = s from by omega, show u + 0 = u from by omega] at e0
    show T s :: spn T (s + 1) n = U u :: spn U (u + 1) n
    rw [e0, ih (fun j x y => ?_)]
    have := h (j + 1) (by omega) (by omega)
    rw [show s + 1 + j = s + (j + 1) from by omega, show u + 1 + j = u + (j + 1) from by omega]
    exact this
/-! the order of names -/
def ncmp : List Int → List Int → Int
  | a :: x, b :: y => if a < b then -1 else if b < a then 1 else if a = 1 then 0 else ncmp x y
  | _, _ => 0
theorem ncmp_vals : ∀ (x y : List Int), ncmp x y = -1 ∨ ncmp x y = 0 ∨ ncmp x y = 1 := by
  intro x
  induction x with
  | nil => intro y; exact Or.inr (Or.inl (by unfold ncmp; rfl))
  | cons a x ih =>
    intro y
    cases y with
    | nil => exact Or.inr (Or.inl (by unfold ncmp; rfl))
    | cons b y =>
      unfold ncmp
      repeat' split
      · exact Or.inl rfl
      · exact Or.inr (Or.inr rfl)
      · exact Or.inr (Or.inl rfl)
      · exact ih y
theorem ncmp_neg : ∀ (x y : List Int), ncmp y x = - ncmp x y := by
  intro x
  induction x with
  | nil => intro y; cases y <;> simp [ncmp]
  | cons a x ih =>
    intro y
    cases y with
    | nil => simp [ncmp]
    | cons b y =>
      unfold ncmp
      by_cases h1 : a < b
      · rw [if_neg (by omega), if_pos h1, if_pos h1]; rfl
      · by_cases h2 : b < a
        · rw [if_pos h2, if_neg h1, if_pos h2]
        · rw [if_neg h2, if_neg h1, if_neg h1, if_neg h2]
          by_cases h3 : a = 1
          · rw [if_pos (by omega), if_pos h3]; rfl
          · rw [if_neg (by omega), if_neg h3, ih]
theorem ncmp_tr : ∀ (x y z : List Int), 1 ∈ y → ncmp x y < 0 → ncmp y z < 0 → ncmp x z < 0 := by
  intro x
  induction x with
  | nil => intro y z _ h _; unfold ncmp at h; omega
  | cons a x ih =>
    intro y z hy h1 h2
    cases y with
    | nil => unfold ncmp at h1; omega
    | cons b y =>
      cases z with
      | nil => unfold ncmp at h2; omega
      | cons d z =>
        unfold ncmp at h1 h2 ⊢
        by_cases ab : a < b
        · by_cases bd : b < d
          · rw [if_pos (by omega)]; omega
          · rw [if_neg bd] at h2
            by_cases db : d < b
            · rw [if_pos db] at h2; omega
            · rw [if_pos (by omega)]; omega
        · rw [if_neg ab] at h1
          by_cases ba : b < a
          · rw [if_pos ba] at h1; omega
          · rw [if_neg ba] at h1
            by_cases bd : b < d
            · rw [if_pos (by omega)]; omega
            · rw [if_neg bd] at h2
              by_cases db : d < b
              · rw [if_pos db] at h2; omega
              · rw [if_neg db] at h2
                rw [if_neg (by omega), if_neg (by omega)]
                by_cases e1 : a = 1
                · rw [if_pos e1] at h1; omega
                · rw [if_neg e1] at h1 ⊢
                  rw [if_neg (by omega)] at h2
                  refine ih y z ?_ h1 h2
                  rcases List.mem_cons.mp hy with h | h
                  · omega
                  · exact h
theorem ncmp_self : ∀ (x : List Int), ncmp x x = 0 := by
  intro x
  induction x with
  | nil => rfl
  | cons a x ih =>
    unfold ncmp
    rw [if_neg (by omega), if_neg (by omega)]
    split
    · rfl
    · exact ih
/-! labels -/
def nmL (n : List Int) : Prop := 1 ≤ n.length ∧ n.length ≤ 8 ∧ (∀ b ∈ n, srt 4 b = true) ∧ ¬ srt 2 (n.getD 0 0) = true ∧ (n.getD 0 0 ≠ 95 ∨ n.getD 1 1 ≠ 95)
def txL (v : List Int) : Prop := v.length ≤ 12 ∧ ∀ b ∈ v, txt b
def lbl (x : List Int) : Prop := ∃ n v, x = n ++ 1 :: (v ++ [2]) ∧ nmL n ∧ txL v
theorem srt4_ge {b : Int} (h : srt 4 b = true) : 48 ≤ b ∧ b ≤ 122 := by
  have := (srt_iff 4 b).mp h
  omega
theorem lbl_1 {x : List Int} (h : lbl x) : 1 ∈ x := by
  obtain ⟨n, v, rfl, _, _⟩ := h
  simp
theorem lbl_len {x : List Int} (h : lbl x) : 3 ≤ x.length ∧ x.length ≤ 22 := by
  obtain ⟨n, v, rfl, hn, hv⟩ := h
  have := hn.1
  have := hn.2.1
  have := hv.1
  simp
  omega
theorem lbl_2 {x : List Int} (h : lbl x) : ∃ y, x = y ++ [2] ∧ ∀ b ∈ y, b ≠ 2 := by
  obtain ⟨n, v, rfl, hn, hv⟩ := h
  refine ⟨n ++ 1 :: v, by simp, fun b hb => ?_⟩
  rcases List.mem_append.mp hb with h | h
  · have := srt4_ge (hn.2.2.1 b h)
    omega
  · rcases List.mem_cons.mp h with h | h
    · omega
    · have := hv.2 b h
      unfold txt at this
      omega
theorem lbl_rng {x : List Int} (h : lbl x) : ∀ b ∈ x, 1 ≤ b ∧ b ≤ 126 := by
  obtain ⟨n, v, rfl, hn, hv⟩ := h
  intro b hb
  rcases List.mem_append.mp hb with h | h
  · have := srt4_ge (hn.2.2.1 b h)
    omega
  · rcases List.mem_cons.mp h with h | h
    · omega
    · rcases List.mem_append.mp h with h | h
      · have := hv.2 b h
        unfold txt at this
        omega
      · rw [List.mem_singleton.mp h]; omega
/-! putting a label in -/
def insL (x : List Int) : List (List Int) → Option (List (List Int))
  | [] => some [x]
  | y :: r => if ncmp x y = 0 then none else if ncmp x y < 0 then some (x :: y :: r) else (insL x r).map (y :: ·)
def plcL (x : List Int) : List (List Int) → Int
  | [] => 0
  | y :: r => if ncmp x y < 0 then 0 else (y.length : Int) + plcL x r
def insAll : List (List Int) → List (List Int) → Option (List (List Int))
  | [], S => some S
  | x :: r, S => (insL x S).bind (insAll r)
def srtL : List (List Int) → Prop
  | [] => True
  | x :: r => (∀ y ∈ r, ncmp x y < 0) ∧ srtL r
theorem insL_mem {x : List Int} : ∀ {S S' : List (List Int)}, insL x S = some S' → ∀ y, y ∈ S' ↔ y = x ∨ y ∈ S := by
  intro S
  induction S with
  | nil => intro S' h y; unfold insL at h; injection h with h; subst h; simp
  | cons z r ih =>
    intro S' h y
    unfold insL at h
    split at h
    · exact absurd h (by simp)
    split at h
    · injection h with h; subst h; simp
    · cases hr : insL x r with
      | none => rw [hr] at h; exact absurd h (by simp)
      | some R =>
        rw [hr] at h
        simp at h
        subst h
        have := ih hr y
        simp [this]
        constructor
        · rintro (h | h | h)
          · exact Or.inr (Or.inl h)
          · exact Or.inl h
          · exact Or.inr (Or.inr h)
        · rintro (h | h | h)
          · exact Or.inr (Or.inl h)
          · exact Or.inl h
          · exact Or.inr (Or.inr h)
theorem insL_len {x : List Int} : ∀ {S S' : List (List Int)}, insL x S = some S' → S'.length = S.length + 1 ∧ S'.flatten.length = S.flatten.length + x.length := by
  intro S
  induction S with
  | nil => intro S' h; unfold insL at h; injection h with h; subst h; simp
  | cons z r ih =>
    intro S' h
    unfold insL at h
    split at h
    · exact absurd h (by simp)
    split at h
    · injection h with h; subst h; simp; omega
    · cases hr : insL x r with
      | none => rw [hr] at h; exact absurd h (by simp)
      | some R =>
        rw [hr] at h
        simp at h
        subst h
        have := ih hr
        simp only [List.length_cons, List.flatten_cons, List.length_append]
        omega
theorem insL_srt {x : List Int} : ∀ {S S' : List (List Int)}, insL x S = some S' → srtL S → 1 ∈ x → (∀ y ∈ S, 1 ∈ y) → srtL S' := by
  intro S
  induction S with
  | nil => intro S' h _ _ _; unfold insL at h; injection h with h; subst h; simp [srtL]
  | cons z r ih =>
    intro S' h hs hx hS
    unfold insL at h
    split at h
    · exact absurd h (by simp)
    rename_i hne
    split at h
    · rename_i hlt
      injection h with h; subst h
      refine ⟨fun y hy => ?_, hs⟩
      rcases List.mem_cons.mp hy with h | h
      · rw [h]; exact hlt
      · exact ncmp_tr x z y (hS z List.mem_cons_self) hlt (hs.1 y h)
    · rename_i hge
      cases hr : insL x r with
      | none => rw [hr] at h; exact absurd h (by simp)
      | some R =>
        rw [hr] at h
        simp at h
        subst h
        refine ⟨fun y hy => ?_, ih hr hs.2 hx (fun y h => hS y (List.mem_cons_of_mem _ h))⟩
        rcases (insL_mem hr y).mp hy with h | h
        · rw [h, ncmp_neg x z]
          have := ncmp_vals x z
          omega
        · exact hs.1 y h
end LST
