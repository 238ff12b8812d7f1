/-! reading: tokens, the class's cursor -/
section TOK
variable {sc : Nat × (Nat → Int32)} {D D' : tD} {K : tD → Int → Prop} {E : tD → Nat → Prop} {T : Int → Int} {n : Int}
/-- the byte at a place, -1 behind the end -/
def pb (T : Int → Int) (n a : Int) : Int := if a < n then T a else -1
/-- where a run of a sort ends -/
def ruE (s : Int) (T : Int → Int) (n : Int) : Nat → Int → Int
  | 0, a => a
  | k + 1, a => if a < n ∧ srt s (T a) = true then ruE s T n k (a + 1) else a
def ru (s : Int) (T : Int → Int) (n a : Int) : Int := ruE s T n (n + 1 - a).toNat a
theorem ru_eq {s a : Int} : ru s T n a = if a < n ∧ srt s (T a) = true then ru s T n (a + 1) else a := by
  unfold ru
  by_cases e : a < n
  · rw [show (n + 1 - a).toNat = (n + 1 - (a + 1)).toNat + 1 from by omega]
    rfl
  · rw [if_neg (fun w => e w.1)]
    by_cases z : a = n
    · rw [show (n + 1 - a).toNat = 0 + 1 from by omega]
      show (if a < n ∧ _ then _ else a) = a
      rw [if_neg (fun w => e w.1)]
    · rw [show (n + 1 - a).toNat = 0 from by omega]
      rfl
theorem ru_stop {s a : Int} (h : ¬ (a < n ∧ srt s (T a) = true)) : ru s T n a = a := by rw [ru_eq, if_neg h]
theorem ru_go {s a : Int} (h : a < n ∧ srt s (T a) = true) : ru s T n a = ru s T n (a + 1) := by rw [ru_eq, if_pos h]
theorem ru_all {s : Int} : ∀ (m : Nat) (a : Int), n - a = (m : Int) → (a ≤ ru s T n a ∧ ru s T n a ≤ n) ∧ (∀ j, a ≤ j → j < ru s T n a → srt s (T j) = true) ∧ ¬ (ru s T n a < n ∧ srt s (T (ru s T n a)) = true) := by
  intro m
  induction m with
  | zero =>
    intro a hm
    have e : ru s T n a = a := ru_stop (fun w => by omega)
    rw [e]
    exact ⟨by omega, fun j u v => by omega, fun w => by omega⟩
  | succ m ih =>
    intro a hm
    by_cases e : a < n ∧ srt s (T a) = true
    · rw [ru_go e]
      obtain ⟨i1, i2, i3⟩ := ih (a + 1) (by omega)
      refine ⟨by omega, fun j u v => ?_, i3⟩
      by_cases z : j = a
      · rw [z]; exact e.2
      · exact i2 j (by omega) v
    · rw [ru_stop e]
      exact ⟨by omega, fun j u v => by omega, e⟩
theorem ru_b {s a : Int} (ha : a ≤ n) : a ≤ ru s T n a ∧ ru s T n a ≤ n := (ru_all (n - a).toNat a (by omega)).1
theorem ru_in {s a : Int} (ha : a ≤ n) : ∀ j, a ≤ j → j < ru s T n a → srt s (T j) = true := (ru_all (n - a).toNat a (by omega)).2.1
/-- escaped -/
def un (b : Int) : Int := if b = 110 then 10 else if b = 34 then b else if b = 92 then b else -1
def esE (T : Int → Int) (n : Int) : Nat → Int → Int × List Int × Bool
  | 0, a => (a, [], true)
  | k + 1, a => if pb T n a < 32 ∨ 126 < pb T n a ∨ pb T n a = 34 then (a, [], true) else if pb T n a = 92 then (if un (pb T n (a + 1)) < 0 then (a + 1, [], false) else ((esE T n k (a + 2)).1, un (pb T n (a + 1)) :: (esE T n k (a + 2)).2.1, (esE T n k (a + 2)).2.2)) else ((esE T n k (a + 1)).1, pb T n a :: (esE T n k (a + 1)).2.1, (esE T n k (a + 1)).2.2)
theorem pb_out {a : Int} (h : n ≤ a) : pb T n a = -1 := if_neg (by omega)
theorem pb_in {a : Int} (h : a < n) : pb T n a = T a := if_pos h
theorem esE_out {k : Nat} {a : Int} (h : n ≤ a) : esE T n k a = (a, [], true) := by
  cases k with
  | zero => rfl
  | succ k =>
    show (if pb T n a < 32 ∨ _ then _ else _) = _
    rw [pb_out h, if_pos (Or.inl (by omega))]
theorem esE_fuel : ∀ (k k' : Nat) (a : Int), n + 1 - a ≤ (k : Int) → n + 1 - a ≤ (k' : Int) → esE T n k a = esE T n k' a := by
  intro k
  induction k with
  | zero => intro k' a h h'; rw [esE_out (by omega), esE_out (by omega)]
  | succ k ih =>
    intro k' a h h'
    cases k' with
    | zero => rw [esE_out (by omega), esE_out (by omega)]
    | succ k' =>
      unfold esE
      rw [ih k' (a + 2) (by omega) (by omega), ih k' (a + 1) (by omega) (by omega)]
def es (T : Int → Int) (n a : Int) : Int × List Int × Bool := esE T n (n + 1 - a).toNat a
theorem es_eq {a : Int} (ha : a ≤ n) : es T n a = if pb T n a < 32 ∨ 126 < pb T n a ∨ pb T n a = 34 then (a, [], true) else if pb T n a = 92 then (if un (pb T n (a + 1)) < 0 then (a + 1, [], false) else ((es T n (a + 2)).1, un (pb T n (a + 1)) :: (es T n (a + 2)).2.1, (es T n (a + 2)).2.2)) else ((es T n (a + 1)).1, pb T n a :: (es T n (a + 1)).2.1, (es T n (a + 1)).2.2) := by
  unfold es
  rw [show (n + 1 - a).toNat = (n - a).toNat + 1 from by omega]
  rw [esE_fuel (n + 1 - (a + 2)).toNat (n - a).toNat (a + 2) (by omega) (by omega), esE_fuel (n + 1 - (a + 1)).toNat (n - a).toNat (a + 1) (by omega) (by omega)]
  rfl
theorem es_b : ∀ (m : Nat) (a : Int), n - a = (m : Int) → 0 ≤ a → a ≤ (es T n a).1 ∧ (es T n a).1 ≤ n ∧ ((es T n a).2.1.length : Int) ≤ (es T n a).1 - a ∧ ∀ b ∈ (es T n a).2.1, txt b := by
  intro m
  have main : ∀ (m : Nat), (∀ m' : Nat, m' < m → ∀ a : Int, n - a = (m' : Int) → 0 ≤ a → a ≤ (es T n a).1 ∧ (es T n a).1 ≤ n ∧ ((es T n a).2.1.length : Int) ≤ (es T n a).1 - a ∧ ∀ b ∈ (es T n a).2.1, txt b) → ∀ a : Int, n - a = (m : Int) → 0 ≤ a → a ≤ (es T n a).1 ∧ (es T n a).1 ≤ n ∧ ((es T n a).2.1.length : Int) ≤ (es T n a).1 - a ∧ ∀ b ∈ (es T n a).2.1, txt b := by
    intro m ih a hm ha
    rw [es_eq (by omega)]
    by_cases e1 : pb T n a < 32 ∨ 126 < pb T n a ∨ pb T n a = 34
    · rw [if_pos e1]
      exact ⟨by show a ≤ a; omega, by show a ≤ n; omega, by show ((0 : Nat) : Int) ≤ a - a; omega, fun b hb => absurd hb (by simp)⟩
    rw [if_neg e1]
    have an : a < n := by
      by_cases z : a < n
      · exact z
      · rw [pb_out (by omega)] at e1; omega
    by_cases e2 : pb T n a = 92
    · rw [if_pos e2]
      by_cases e3 : un (pb T n (a + 1)) < 0
      · rw [if_pos e3]
        exact ⟨by show a ≤ a + 1; omega, by show a + 1 ≤ n; omega, by show ((0 : Nat) : Int) ≤ a + 1 - a; omega, fun b hb => absurd hb (by simp)⟩
      · rw [if_neg e3]
        have an2 : a + 1 < n := by
          by_cases z : a + 1 < n
          · exact z
          · rw [pb_out (by omega)] at e3
            exact absurd (show un (-1) < 0 from by decide) e3
        obtain ⟨i1, i2, i3, i4⟩ := ih (n - (a + 2)).toNat (by omega) (a + 2) (by omega) (by omega)
        refine ⟨by show a ≤ (es T n (a + 2)).1; omega, i2, ?_, fun b hb => ?_⟩
        · show ((((es T n (a + 2)).2.1.length + 1 : Nat)) : Int) ≤ (es T n (a + 2)).1 - a
          omega
        · rcases List.mem_cons.mp hb with h | h
          · rw [h]
            unfold un at e3 ⊢
            unfold txt
            split
            · omega
            · rename_i q1
              rw [if_neg q1] at e3
              split
              · omega
              · rename_i q2
                rw [if_neg q2] at e3
                split
                · omega
                · rename_i q3
                  rw [if_neg q3] at e3
                  omega
          · exact i4 b h
    · rw [if_neg e2]
      obtain ⟨i1, i2, i3, i4⟩ := ih (n - (a + 1)).toNat (by omega) (a + 1) (by omega) (by omega)
      refine ⟨by show a ≤ (es T n (a + 1)).1; omega, i2, ?_, fun b hb => ?_⟩
      · show ((((es T n (a + 1)).2.1.length + 1 : Nat)) : Int) ≤ (es T n (a + 1)).1 - a
        omega
      · rcases List.mem_cons.mp hb with h | h
        · rw [h]
          unfold txt
          omega
        · exact i4 b h
  exact Nat.strongRecOn m (fun m ih => main m (fun m' hm' => ih m' hm'))
theorem es_bnd {a : Int} (h : 0 ≤ a ∧ a ≤ n) : a ≤ (es T n a).1 ∧ (es T n a).1 ≤ n ∧ ((es T n a).2.1.length : Int) ≤ (es T n a).1 - a ∧ ∀ b ∈ (es T n a).2.1, txt b := es_b (n - a).toNat a (by omega) h.1
/-- what digits make -/
def dvl (T : Int → Int) (a : Int) : Nat → Int
  | 0 => 0
  | k + 1 => 10 * dvl T a k + (T (a + (k : Int)) - 48)
/-- a number: fault, what it is, where it ends (or the fault's place) -/
def nmS (T : Int → Int) (n a : Int) : Int := if pb T n a = 45 then a + 1 else a
def nmW (T : Int → Int) (n a : Int) : Int := ru 2 T n (nmS T n a)
def nmR (T : Int → Int) (n a : Int) : Int := if pb T n (nmW T n a) = 46 then ru 2 T n (nmW T n a + 1) else nmW T n a
def nmV (T : Int → Int) (n a : Int) : Int := 1000 * dvl T (nmS T n a) (nmW T n a - nmS T n a).toNat + (if pb T n (nmW T n a) = 46 then dvl T (nmW T n a + 1) (nmR T n a - nmW T n a - 1).toNat * p10 (3 - (nmR T n a - nmW T n a - 1).toNat) else 0)
def nmb (T : Int → Int) (n a : Int) : Int × Int × Int :=
  if nmW T n a = nmS T n a then (1, 0, nmS T n a)
  else if pb T n (nmW T n a) = 46 ∧ nmR T n a = nmW T n a + 1 then (1, 0, nmR T n a)
  else if 12 < nmW T n a - nmS T n a ∨ (pb T n (nmW T n a) = 46 ∧ 3 < nmR T n a - nmW T n a - 1) then (11, 0, a)
  else (0, if pb T n a = 45 then -nmV T n a else nmV T n a, nmR T n a)
theorem dvl_b {a : Int} : ∀ (k : Nat), (∀ j, a ≤ j → j < a + (k : Int) → 48 ≤ T j ∧ T j ≤ 57) → 0 ≤ dvl T a k ∧ dvl T a k < p10 k := by
  intro k
  induction k with
  | zero => intro _; exact ⟨Int.le_refl _, by show (0 : Int) < 1; decide⟩
  | succ k ih =>
    intro h
    obtain ⟨i1, i2⟩ := ih (fun j u v => h j u (by omega))
    have q := h (a + (k : Int)) (by omega) (by omega)
    refine ⟨?_, ?_⟩
    · show 0 ≤ 10 * dvl T a k + (T (a + (k : Int)) - 48); omega
    · show 10 * dvl T a k + (T (a + (k : Int)) - 48) < 10 * p10 k; omega
/-! the class's cursor -/
def cu (D : tD) (a0 r : Int) (T : Int → Int) (n a : Int) : Prop := (D a0 0 = r ∧ D a0 1 = a) ∧ (D r 1 = n ∧ n ≤ ln (r + 1) ∧ 0 ≤ n ∧ n ≤ 4000) ∧ (0 ≤ a ∧ a ≤ n) ∧ (r ≠ a0 ∧ r + 1 ≠ a0) ∧ ∀ j, 0 ≤ j → j < n → rat D r j = T j ∧ 0 ≤ T j ∧ T j ≤ 255
theorem cu_to {a0 r a b : Int} (h : cu D a0 r T n a) (hb : 0 ≤ b ∧ b ≤ n) (h0 : D' a0 0 = D a0 0) (h1 : D' a0 1 = b) (hr : ∀ x j, x = r ∨ x = r + 1 → D' x j = D x j) : cu D' a0 r T n b := by
  obtain ⟨c1, c2, c3, c4, c5⟩ := h
  refine ⟨⟨by rw [h0]; exact c1.1, h1⟩, by rw [hr _ _ (Or.inl rfl)]; exact c2, hb, c4, fun j u v => ?_⟩
  rw [rat_fr (hr _ _ (Or.inl rfl)) (fun j => hr _ _ (Or.inr rfl))]
  exact c5 j u v
theorem cu_wr {a0 r a b : Int} (h : cu D a0 r T n a) (hb : 0 ≤ b ∧ b ≤ n) : cu (wr D a0 1 b) a0 r T n b := cu_to h hb (wr_ni (by omega)) wr_self (fun x j u => wr_ne (by have := h.2.2.2.1; omega))
theorem wr_wr {a i v w : Int} : wr (wr D a i v) a i w = wr D a i w := by
  funext x j
  simp only [wr]
  split <;> rfl
theorem wr_id {a i v : Int} (h : D a i = v) : wr D a i v = D := by
  funext x j
  simp only [wr]
  split
  · rename_i e; rw [e.1, e.2]; exact h.symm
  · rfl
theorem t_at {a0 r a : Int} (h : cu D a0 r T n a) (hK : K D (pb T n a)) : WP sc 90 0 D [(0, (1207, D a0 0)), (1, (0, D a0 1))] [] K E := by
  obtain ⟨⟨c1, c1'⟩, c2, c3, c4, c5⟩ := h
  rw [c1, c1']
  refine c_at (by rw [c2.1]; exact c2.2.1) ?_
  have e : rat D r a = pb T n a := by
    unfold pb
    by_cases z : a < n
    · rw [if_pos z]; exact (c5 a c3.1 z).1
    · rw [if_neg z]
      unfold rat
      rw [if_neg (by omega)]
  rw [e]; exact hK
theorem t_at2 {a0 r a : Int} (h : cu D a0 r T n a) (hK : K D (pb T n a)) : WP sc 90 0 D [(0, (1207, r)), (1, (0, a))] [] K E := by
  have g := t_at (sc := sc) (E := E) h hK
  rw [h.1.1, h.1.2] at g
  exact g
theorem t_sees {a0 r a b : Int} (h : cu D a0 r T n a) (hT : pb T n a = b → K D 1) (hF : pb T n a ≠ b → K D 0) : WP sc 43 0 D [(0, (1202, a0)), (1, (0, b))] [] K E := by
  refine v43_0 (t_at h ?_)
  by_cases e : pb T n a = b
  · rw [if_pos e]; exact hT e
  · rw [if_neg e]; exact hF e
theorem pb_lt {a b : Int} (h : pb T n a = b) (hb : 0 ≤ b) : a < n := by
  by_cases z : a < n
  · exact z
  · rw [pb_out (by omega)] at h; omega
theorem t_passes {a0 r a b : Int} (hb : 0 ≤ b) (h : cu D a0 r T n a) (hT : pb T n a = b → K (wr D a0 1 (a + 1)) 1) (hF : pb T n a ≠ b → K D 0) : WP sc 44 0 D [(0, (1202, a0)), (1, (0, b))] [] K E := by
  have c := h.2
  refine v44_0 (t_at h ?_)
  rw [h.1.2]
  by_cases e : pb T n a = b
  · rw [if_pos e, w32_id (by omega) (by omega)]; exact hT e
  · rw [if_neg e, w32_id (by omega) (by omega), show a + 0 = a from by omega, wr_id h.1.2]; exact hF e
theorem t_expect {a0 r a b : Int} (h : cu D a0 r T n a) (hT : pb T n a = b → K (wr D a0 1 (a + 1)) 1) (hF : pb T n a ≠ b → K (wr (wr D a0 2 1) a0 3 a) 0) : WP sc 45 0 D [(0, (1202, a0)), (1, (0, b))] [] K E := by
  have c := h.2
  refine v45_0 (t_at h ?_)
  rw [h.1.2]
  by_cases e : pb T n a = b
  · rw [if_pos e, w32_id (by omega) (by omega)]; exact hT e
  · rw [if_neg e]
    exact v42_0 (tbl_of (Or.inl rfl) (hF e))
theorem t_run1 {a0 r s x : Int} (hs : 0 ≤ s ∧ s ≤ 5) : ∀ (m : Nat) (a : Int) (D : tD), n - a = (m : Int) → cu D a0 r T n a → K (wr D a0 1 (ru s T n a)) x → WP sc 46 5 D [(0, (1202, a0)), (1, (0, s)), (2, (0, x))] [] K E := by
  intro m
  induction m with
  | zero =>
    intro a D hm h hK
    refine v46_5 ?_
    rw [h.1.1, h.1.2, h.2.1.1, if_neg (by omega)]
    rw [ru_stop (fun w => by omega), wr_id h.1.2] at hK
    exact hK
  | succ m ih =>
    intro a D hm h hK
    have c := h.2
    refine v46_5 ?_
    rw [h.1.1, h.1.2, c.1.1, if_pos (by omega)]
    refine t_at2 h ?_
    refine c_sort hs (fun e => ?_) (fun e => ?_)
    · rw [if_neg (by omega), h.1.2, w32_id (by omega) (by omega)]
      rw [pb_in (by omega)] at e
      refine ih (a + 1) _ (by omega) (cu_wr h (by omega)) ?_
      rw [wr_wr, ← ru_go ⟨by omega, e⟩]
      exact hK
    · rw [if_pos rfl]
      rw [pb_in (by omega)] at e
      rw [ru_stop (fun w => e w.2), wr_id h.1.2] at hK
      exact hK
theorem t_run {a0 r s a : Int} (hs : 0 ≤ s ∧ s ≤ 5) (h : cu D a0 r T n a) (hK : K (wr D a0 1 (ru s T n a)) a) : WP sc 46 0 D [(0, (1202, a0)), (1, (0, s))] [] K E := by
  have c := h.2
  refine v46_0 ?_
  rw [h.1.2]
  exact t_run1 hs (n - a).toNat a D (by omega) h hK
/-- a failed step -/
theorem t_fail {a0 c p : Int} (hK : K (wr (wr D a0 2 c) a0 3 p) 0) : WP sc 42 0 D [(0, (1202, a0)), (1, (0, c)), (2, (0, p))] [] (fun D1 r2 => tbl r2 (K D1 r2)) E := v42_0 (tbl_of (Or.inl rfl) hK)
theorem t_dig1 {a0 r a e : Int} {x : Nat} (hx : 0 ≤ a ∧ a ≤ e ∧ e ≤ n) (hd : ∀ j, a ≤ j → j < e → srt 2 (T j) = true) (hz : (x : Int) ≤ 12) (h : ∃ b, cu D a0 r T n b) (hK : K D (dvl T a (if (x : Int) ≤ e - a then x else (e - a).toNat) * p10 (if (x : Int) ≤ e - a then 0 else x - (e - a).toNat))) : ∀ (q k : Nat), q + k = x → WP sc 48 6 D [(0, (1202, a0)), (1, (0, a)), (2, (0, e)), (3, (0, (x : Int))), (4, (1, dvl T a (if (k : Int) ≤ e - a then k else (e - a).toNat) * p10 (if (k : Int) ≤ e - a then 0 else k - (e - a).toNat))), (6, (0, a + (k : Int)))] [] K E := by
  obtain ⟨b, hb⟩ := h
  have c := hb.2
  have dg : ∀ j, a ≤ j → j < e → 48 ≤ T j ∧ T j ≤ 57 := fun j u v => by
    have := hd j u v
    rw [srt_iff] at this
    omega
  have bd : ∀ k : Nat, (k : Int) ≤ 12 → 0 ≤ dvl T a (if (k : Int) ≤ e - a then k else (e - a).toNat) * p10 (if (k : Int) ≤ e - a then 0 else k - (e - a).toNat) ∧ dvl T a (if (k : Int) ≤ e - a then k else (e - a).toNat) * p10 (if (k : Int) ≤ e - a then 0 else k - (e - a).toNat) < 1000000000000 := fun k hk => by
    have p12 : p10 12 = 1000000000000 := by decide
    by_cases z : (k : Int) ≤ e - a
    · rw [if_pos z, if_pos z, show p10 0 = 1 from rfl, Int.mul_one]
      have := dvl_b (T := T) (a := a) k (fun j u v => dg j u (by omega))
      have := p10_le (m := k) (n := 12) (by omega)
      omega
    · rw [if_neg z, if_neg z]
      have v1 := dvl_b (T := T) (a := a) (e - a).toNat (fun j u v => dg j u (by omega))
      have v2 := p10_pos (k - (e - a).toNat)
      have key : ∀ (u w : Nat), p10 u * p10 w = p10 (u + w) := by
        intro u w
        induction w with
        | zero => rw [show p10 0 = 1 from rfl, Int.mul_one]; rfl
        | succ w ih =>
          show p10 u * (10 * p10 w) = 10 * p10 (u + w)
          rw [← ih, Int.mul_left_comm]
      have v3 := key (e - a).toNat (k - (e - a).toNat)
      rw [show (e - a).toNat + (k - (e - a).toNat) = k from by omega] at v3
      have v4 := p10_le (m := k) (n := 12) (by omega)
      refine ⟨Int.mul_nonneg v1.1 (by omega), ?_⟩
      have v5 : dvl T a (e - a).toNat * p10 (k - (e - a).toNat) < p10 (e - a).toNat * p10 (k - (e - a).toNat) := Int.mul_lt_mul_of_pos_right v1.2 (by omega)
      omega
  intro q
  induction q with
  | zero =>
    intro k hk
    have e2 : k = x := by omega
    subst e2
    refine v48_6 ?_
    rw [w32_id (x := a + (k : Int)) (by omega) (by omega), if_neg (by omega)]
    exact hK
  | succ q ih =>
    intro k hk
    have i := ih (k + 1) (by omega)
    have b1 := bd k (by omega)
    refine v48_6 ?_
    rw [w32_id (x := a + (x : Int)) (by omega) (by omega), if_pos (by omega), w32_id (x := a + (k : Int) + 1) (by omega) (by omega), w64_id (x := _ * 10) (by omega) (by omega)]
    rw [show a + (((k + 1 : Nat)) : Int) = a + (k : Int) + 1 from by omega] at i
    by_cases z : a + (k : Int) < e
    · rw [if_pos z]
      have q1 := dg (a + (k : Int)) (by omega) z
      have hat : rat D r (a + (k : Int)) = T (a + (k : Int)) := (c.2.2.2 _ (by omega) (by omega)).1
      rw [hb.1.1]
      refine c_at (by rw [c.1.1]; exact c.1.2.1) ?_
      rw [hat, w32_id (x := T (a + (k : Int)) - 48) (by omega) (by omega), w64_id (by omega) (by omega)]
      rw [if_pos (show (((k + 1 : Nat)) : Int) ≤ e - a from by omega), if_pos (show (((k + 1 : Nat)) : Int) ≤ e - a from by omega), show p10 0 = 1 from rfl, Int.mul_one] at i
      rw [if_pos (show (k : Int) ≤ e - a from by omega), if_pos (show (k : Int) ≤ e - a from by omega), show p10 0 = 1 from rfl, Int.mul_one]
      rw [show dvl T a k * 10 + (T (a + (k : Int)) - 48) = dvl T a (k + 1) from by show _ = 10 * dvl T a k + (T (a + (k : Int)) - 48); omega]
      exact i
    · rw [if_neg z, w64_id (by omega) (by omega)]
      have e3 : dvl T a (if (k : Int) ≤ e - a then k else (e - a).toNat) * p10 (if (k : Int) ≤ e - a then 0 else k - (e - a).toNat) * 10 + 0 = dvl T a (if (((k + 1 : Nat)) : Int) ≤ e - a then k + 1 else (e - a).toNat) * p10 (if (((k + 1 : Nat)) : Int) ≤ e - a then 0 else k + 1 - (e - a).toNat) := by
        rw [if_neg (show ¬ (((k + 1 : Nat)) : Int) ≤ e - a from by omega), if_neg (show ¬ (((k + 1 : Nat)) : Int) ≤ e - a from by omega)]
        by_cases y : (k : Int) ≤ e - a
        · rw [if_pos y, if_pos y, show p10 0 = 1 from rfl, Int.mul_one, show (e - a).toNat = k from by omega, show k + 1 - k = 1 from by omega, show p10 1 = 10 from rfl]
          omega
        · rw [if_neg y, if_neg y, show k + 1 - (e - a).toNat = (k - (e - a).toNat) + 1 from by omega]
          show _ = _ * (10 * p10 (k - (e - a).toNat))
          rw [Int.mul_left_comm]
          omega
      rw [e3]
      exact i
theorem t_dig {a0 r a e : Int} {x : Nat} (hx : 0 ≤ a ∧ a ≤ e ∧ e ≤ n) (hd : ∀ j, a ≤ j → j < e → srt 2 (T j) = true) (hz : (x : Int) ≤ 12) (h : ∃ b, cu D a0 r T n b) (hK : K D (dvl T a (if (x : Int) ≤ e - a then x else (e - a).toNat) * p10 (if (x : Int) ≤ e - a then 0 else x - (e - a).toNat))) : WP sc 48 0 D [(0, (1202, a0)), (1, (0, a)), (2, (0, e)), (3, (0, (x : Int)))] [] K E := by
  have g := t_dig1 (sc := sc) (E := E) hx hd hz h hK x 0 (by omega)
  rw [if_pos (show ((0 : Nat) : Int) ≤ e - a from by omega), if_pos (show ((0 : Nat) : Int) ≤ e - a from by omega), show a + ((0 : Nat) : Int) = a from by omega] at g
  exact v48_0 g
theorem t_num {a0 r a : Int} (h : cu D a0 r T n a) (hT : (nmb T n a).1 = 0 → K (wr (wr D a0 1 (nmb T n a).2.2) a0 4 (nmb T n a).2.1) 1) (hF : (nmb T n a).1 ≠ 0 → ∀ D', D' a0 2 = (nmb T n a).1 → D' a0 3 = (nmb T n a).2.2 → (∀ x j, x ≠ a0 ∨ j = 0 ∨ j = 4 → D' x j = D x j) → K D' 0) : WP sc 47 0 D [(0, (1202, a0))] [] K E := by
  have c := h.2
  have srng : a ≤ nmS T n a ∧ nmS T n a ≤ n := by
    unfold nmS
    by_cases e : pb T n a = 45
    · rw [if_pos e]; have := pb_lt e (by omega); omega
    · rw [if_neg e]; omega
  have wrng := ru_b (s := 2) (T := T) (n := n) (a := nmS T n a) srng.2
  have win := ru_in (s := 2) (T := T) (n := n) (a := nmS T n a) srng.2
  have eS : nmS T n a = if pb T n a = 45 then a + 1 else a := rfl
  have eW : nmW T n a = ru 2 T n (nmS T n a) := rfl
  rw [← eW] at wrng win
  have fr : ∀ {D1 : tD} {b v w : Int}, (∀ x j, x ≠ a0 ∨ j ≠ 1 → D1 x j = D x j) → (∀ x j, x ≠ a0 ∨ j = 0 ∨ j = 4 → (wr (wr D1 a0 2 v) a0 3 w) x j = D x j) := fun {D1 b v w} hD x j u => by
    by_cases e : x = a0
    · subst e
      rw [wr_ni (by omega), wr_ni (by omega), hD _ _ (by omega)]
    · rw [wr_ne e, wr_ne e, hD _ _ (Or.inl e)]
  have fr1 : ∀ b, ∀ x j, x ≠ a0 ∨ j ≠ 1 → (wr D a0 1 b) x j = D x j := fun b x j u => by
    by_cases e : x = a0
    · subst e; exact wr_ni (by omega)
    · exact wr_ne e
  /- from the point on; x2: minus -/
  have rest : ∀ (x2 : Int) (D1 : tD), D1 = wr D a0 1 (nmS T n a) → ((x2 = 0 ∧ pb T n a ≠ 45) ∨ (x2 = 1 ∧ pb T n a = 45)) → WP sc 46 0 D1 [(0, (1202, a0)), (1, (0, 2))] [] (fun D4 r5 => if D4 a0 1 = r5 then (WP sc 42 0 D4 [(0, (1202, a0)), (1, (0, 1)), (2, (0, D4 a0 1))] [] (fun D7 r8 => tbl r8 (K D7 r8)) E) else (WP sc 44 0 D4 [(0, (1202, a0)), (1, (0, 46))] [] (fun D10 r11 => WP sc 46 0 D10 [(0, (1202, a0)), (1, (0, 2))] [] (fun D13 r14 => if r11 = 0 then (WP sc 47 79 D13 [(0, (1202, a0)), (1, (0, a)), (2, (0, x2)), (3, (0, r5)), (4, (0, D4 a0 1)), (5, (0, r11)), (6, (0, r14))] [] K E) else (if D13 a0 1 = r14 then (WP sc 42 0 D13 [(0, (1202, a0)), (1, (0, 1)), (2, (0, D13 a0 1))] [] (fun D16 r17 => tbl r17 (K D16 r17)) E) else (WP sc 47 79 D13 [(0, (1202, a0)), (1, (0, a)), (2, (0, x2)), (3, (0, r5)), (4, (0, D4 a0 1)), (5, (0, r11)), (6, (0, r14))] [] K E))) E) E)) E := fun x2 D1 eD hx2 => by
    subst eD
    have h1 := cu_wr h (b := nmS T n a) ⟨by omega, srng.2⟩
    refine t_run (by omega) h1 ?_
    rw [wr_wr, ← eW]
    have h2 := cu_wr h (b := nmW T n a) ⟨by omega, wrng.2⟩
    rw [wr_self]
    by_cases z1 : nmW T n a = nmS T n a
    · rw [if_pos z1]
      have e : nmb T n a = (1, 0, nmS T n a) := by unfold nmb; rw [if_pos z1]
      rw [e] at hF
      refine t_fail (hF (show (1 : Int) ≠ 0 from by decide) _ (by rw [wr_ni (by omega), wr_self]) (by rw [wr_self, z1]) (fr (b := 0) (fr1 _)))
    rw [if_neg z1]
    /- the end; e: where the number ends, p: where its rest begins -/
    have finish : ∀ (p e : Int) (x5 : Int), ((x5 = 0 ∧ pb T n (nmW T n a) ≠ 46 ∧ p = nmW T n a ∧ e = nmW T n a) ∨ (x5 = 1 ∧ pb T n (nmW T n a) = 46 ∧ p = nmW T n a + 1 ∧ e = ru 2 T n p ∧ p < e)) → WP sc 47 79 (wr D a0 1 e) [(0, (1202, a0)), (1, (0, a)), (2, (0, x2)), (3, (0, nmS T n a)), (4, (0, nmW T n a)), (5, (0, x5)), (6, (0, p))] [] K E := fun p e x5 hpe => by
      have pe : p ≤ e ∧ e ≤ n ∧ nmW T n a ≤ p := by
        rcases hpe with ⟨_, _, q1, q2⟩ | ⟨_, q0, q1, q2, q3⟩
        · omega
        · have := pb_lt q0 (by omega)
          have := ru_b (s := 2) (T := T) (n := n) (a := p) (by omega)
          omega
      have pin : ∀ j, p ≤ j → j < e → srt 2 (T j) = true := fun j u v => by
        rcases hpe with ⟨_, _, q1, q2⟩ | ⟨_, q0, q1, q2, q3⟩
        · omega
        · rw [q2] at v
          exact ru_in (s := 2) (T := T) (n := n) (a := p) (by omega) j u v
      have eR : nmR T n a = e := by
        unfold nmR
        rcases hpe with ⟨_, q0, q1, q2⟩ | ⟨_, q0, q1, q2, q3⟩
        · rw [if_neg q0]; exact q2.symm
        · rw [if_pos q0, ← q1]; exact q2.symm
      have nb2 : ¬ (pb T n (nmW T n a) = 46 ∧ nmR T n a = nmW T n a + 1) := fun w => by
        rw [eR] at w
        rcases hpe with ⟨_, q0, q1, q2⟩ | ⟨_, q0, q1, q2, q3⟩
        · exact q0 w.1
        · omega
      have bad : (12 < nmW T n a - nmS T n a ∨ (pb T n (nmW T n a) = 46 ∧ 3 < nmR T n a - nmW T n a - 1)) → WP sc 42 0 (wr D a0 1 e) [(0, (1202, a0)), (1, (0, 11)), (2, (0, a))] [] (fun D1 r2 => tbl r2 (K D1 r2)) E := fun w => by
        have en : nmb T n a = (11, 0, a) := by unfold nmb; rw [if_neg z1, if_neg nb2, if_pos w]
        rw [en] at hF
        exact t_fail (hF (show (11 : Int) ≠ 0 from by decide) _ (by rw [wr_ni (by omega), wr_self]) (by rw [wr_self]) (fr (b := 0) (fr1 _)))
      have good : ¬ (12 < nmW T n a - nmS T n a ∨ (pb T n (nmW T n a) = 46 ∧ 3 < nmR T n a - nmW T n a - 1)) → WP sc 47 112 (wr D a0 1 e) [(0, (1202, a0)), (2, (0, x2)), (3, (0, nmS T n a)), (4, (0, nmW T n a)), (6, (0, p))] [] K E := fun w => by
        have en : nmb T n a = (0, if pb T n a = 45 then -nmV T n a else nmV T n a, nmR T n a) := by unfold nmb; rw [if_neg z1, if_neg nb2, if_neg w]
        rw [en, eR] at hT
        have hT := hT rfl
        have h3 := cu_wr h (b := e) ⟨by omega, pe.2.1⟩
        have p3 : p10 3 = 1000 := by decide
        have vb := dvl_b (T := T) (a := nmS T n a) (nmW T n a - nmS T n a).toNat (fun j u v => by have := win j u (by omega); rw [srt_iff] at this; omega)
        have vp := p10_le (m := (nmW T n a - nmS T n a).toNat) (n := 12) (by omega)
        rw [show p10 12 = 1000000000000 from by decide] at vp
        refine v47_112 ?_
        rw [w32_id (x := nmW T n a - nmS T n a) (by omega) (by omega), show nmW T n a - nmS T n a = (((nmW T n a - nmS T n a).toNat : Nat) : Int) from by omega]
        refine t_dig (x := (nmW T n a - nmS T n a).toNat) (by omega) win (by omega) ⟨e, h3⟩ ?_
        rw [if_pos (by omega), if_pos (by omega), show p10 0 = 1 from rfl, Int.mul_one, wr_self]
        have ep : e - p ≤ 3 := by
          rcases hpe with ⟨_, q0, q1, q2⟩ | ⟨_, q0, q1, q2, q3⟩
          · omega
          · rw [eR] at w; omega
        refine t_dig (x := 3) (by omega) pin (by omega) ⟨e, h3⟩ ?_
        have er : dvl T p (if ((3 : Nat) : Int) ≤ e - p then 3 else (e - p).toNat) * p10 (if ((3 : Nat) : Int) ≤ e - p then 0 else 3 - (e - p).toNat) = (if pb T n (nmW T n a) = 46 then dvl T (nmW T n a + 1) (nmR T n a - nmW T n a - 1).toNat * p10 (3 - (nmR T n a - nmW T n a - 1).toNat) else 0) := by
          rw [eR]
          rcases hpe with ⟨_, q0, q1, q2⟩ | ⟨_, q0, q1, q2, q3⟩
          · rw [if_neg q0, if_neg (by omega), show (e - p).toNat = 0 from by omega]
            show 0 * _ = 0
            rw [Int.zero_mul]
          · rw [if_pos q0, q1, show e - nmW T n a - 1 = e - (nmW T n a + 1) from by omega]
            by_cases y : ((3 : Nat) : Int) ≤ e - (nmW T n a + 1)
            · rw [if_pos y, if_pos y, show (e - (nmW T n a + 1)).toNat = 3 from by omega]
            · rw [if_neg y, if_neg y]
        have vr : 0 ≤ dvl T p (if ((3 : Nat) : Int) ≤ e - p then 3 else (e - p).toNat) * p10 (if ((3 : Nat) : Int) ≤ e - p then 0 else 3 - (e - p).toNat) ∧ dvl T p (if ((3 : Nat) : Int) ≤ e - p then 3 else (e - p).toNat) * p10 (if ((3 : Nat) : Int) ≤ e - p then 0 else 3 - (e - p).toNat) ≤ 1000000 := by
          have d1 := dvl_b (T := T) (a := p) (e - p).toNat (fun j u v => by have := pin j u (by omega); rw [srt_iff] at this; omega)
          have pz : ∀ k : Nat, k ≤ 3 → p10 k = 1 ∨ p10 k = 10 ∨ p10 k = 100 ∨ p10 k = 1000 := fun k hk => by
            have : k = 0 ∨ k = 1 ∨ k = 2 ∨ k = 3 := by omega
            rcases this with rfl | rfl | rfl | rfl
            · exact Or.inl rfl
            · exact Or.inr (Or.inl rfl)
            · exact Or.inr (Or.inr (Or.inl rfl))
            · exact Or.inr (Or.inr (Or.inr rfl))
          by_cases y : ((3 : Nat) : Int) ≤ e - p
          · rw [if_pos y, if_pos y, show p10 0 = 1 from rfl, Int.mul_one]
            rw [show (e - p).toNat = 3 from by omega, p3] at d1
            omega
          · rw [if_neg y, if_neg y]
            have q1 := pz (e - p).toNat (by omega)
            have q2 := pz (3 - (e - p).toNat) (by omega)
            rcases q2 with q2 | q2 | q2 | q2 <;> rw [q2] <;> omega
        rw [er] at vr ⊢
        have eV : nmV T n a = 1000 * dvl T (nmS T n a) (nmW T n a - nmS T n a).toNat + (if pb T n (nmW T n a) = 46 then dvl T (nmW T n a + 1) (nmR T n a - nmW T n a - 1).toNat * p10 (3 - (nmR T n a - nmW T n a - 1).toNat) else 0) := rfl
        generalize (if pb T n (nmW T n a) = 46 then dvl T (nmW T n a + 1) (nmR T n a - nmW T n a - 1).toNat * p10 (3 - (nmR T n a - nmW T n a - 1).toNat) else 0) = R at *
        generalize dvl T (nmS T n a) (nmW T n a - nmS T n a).toNat = W at *
        rw [w64_id (x := W * 1000) (by omega) (by omega), w64_id (x := W * 1000 + R) (by omega) (by omega), show W * 1000 + R = nmV T n a from by omega]
        rcases hx2 with ⟨q, q'⟩ | ⟨q, q'⟩
        · rw [if_pos q]
          rw [if_neg q'] at hT
          exact hT
        · rw [if_neg (by omega), w64_id (by omega) (by omega)]
          rw [if_pos q'] at hT
          exact hT
      refine v47_79 ?_
      rw [w32_id (x := nmW T n a - nmS T n a) (by omega) (by omega), wr_self, w32_id (x := e - p) (by omega) (by omega)]
      by_cases y1 : 12 < nmW T n a - nmS T n a
      · rw [if_pos y1]; exact bad (Or.inl y1)
      rw [if_neg y1]
      rcases hpe with ⟨q, q0, q1, q2⟩ | ⟨q, q0, q1, q2, q3⟩
      · rw [if_pos q]
        refine good (fun w => ?_)
        rcases w with w | w
        · exact y1 w
        · exact q0 w.1
      · rw [if_neg (by omega)]
        by_cases y2 : 3 < e - p
        · rw [if_pos y2]; exact bad (Or.inr ⟨q0, by omega⟩)
        · rw [if_neg y2]
          refine good (fun w => ?_)
          rcases w with w | w
          · exact y1 w
          · have := w.2; omega
    refine t_passes (by omega) h2 (fun e46 => ?_) (fun e46 => ?_)
    · have wn := pb_lt e46 (by omega)
      rw [wr_wr]
      have h3 := cu_wr h (b := nmW T n a + 1) ⟨by omega, by omega⟩
      refine t_run (by omega) h3 ?_
      rw [wr_wr, wr_self, if_neg (by omega)]
      have rb := ru_b (s := 2) (T := T) (n := n) (a := nmW T n a + 1) (by omega)
      by_cases z2 : ru 2 T n (nmW T n a + 1) = nmW T n a + 1
      · rw [if_pos z2]
        have eR : nmR T n a = nmW T n a + 1 := by unfold nmR; rw [if_pos e46]; exact z2
        have en : nmb T n a = (1, 0, nmR T n a) := by unfold nmb; rw [if_neg z1, if_pos ⟨e46, eR⟩]
        rw [en] at hF
        exact t_fail (hF (show (1 : Int) ≠ 0 from by decide) _ (by rw [wr_ni (by omega), wr_self]) (by rw [wr_self, eR, z2]) (fr (b := 0) (fr1 _)))
      · rw [if_neg z2]
        exact finish (nmW T n a + 1) _ 1 (Or.inr ⟨rfl, e46, rfl, rfl, by omega⟩)
    · refine t_run (by omega) h2 ?_
      have st : ru 2 T n (nmW T n a) = nmW T n a := ru_stop ((ru_all (s := 2) (T := T) (n := n) (n - nmS T n a).toNat (nmS T n a) (by omega)).2.2)
      rw [wr_wr, st, if_pos rfl]
      exact finish (nmW T n a) (nmW T n a) 0 (Or.inl ⟨rfl, e46, rfl, rfl⟩)
  refine v47_0 ?_
  rw [h.1.2]
  refine t_passes (by omega) h (fun e => ?_) (fun e => ?_)
  · exact rest 1 _ (by rw [eS, if_pos e]) (Or.inr ⟨rfl, e⟩)
  · exact rest 0 _ (by rw [eS, if_neg e, wr_id h.1.2]) (Or.inl ⟨rfl, e⟩)
/-- what stands behind a backslash -/
theorem t_un {y : Int} (hK : K D (un y)) : WP sc 50 0 D [(0, (0, y))] [] K E := by
  refine v50_0 ?_
  unfold un at hK
  split
  · rename_i z; rw [if_pos z] at hK; exact hK
  · rename_i z
    rw [if_neg z] at hK
    split
    · rename_i z2; rw [if_pos z2] at hK; exact hK
    · rename_i z2
      rw [if_neg z2] at hK
      split
      · rename_i z3; rw [if_pos z3] at hK; exact hK
      · rename_i z3; rw [if_neg z3] at hK; exact hK
/-- escaped bytes -/
theorem t_esc1 {a0 r x q a1 : Int} {D0 : tD} (hx : x = 34 ∨ x = 10) (hq : q ≠ a0 ∧ q + 1 ≠ a0 ∧ q ≠ r ∧ q ≠ r + 1 ∧ q + 1 ≠ r) (hlq : ln (q + 1) ≤ 20000) (hT : (es T n a1).2.2 = true → pb T n (es T n a1).1 = x → ∀ D', wo D' q (es T n a1).2.1 → D' a0 1 = (es T n a1).1 → (∀ b j, b ≠ q → b ≠ q + 1 → ¬ (b = a0 ∧ j = 1) → D' b j = D0 b j) → K D' ((es T n a1).2.1.length : Int)) (hF : ¬ ((es T n a1).2.2 = true ∧ pb T n (es T n a1).1 = x) → ∀ D', D' a0 2 = 1 → D' a0 3 = (es T n a1).1 → (∀ b j, b ≠ q → b ≠ q + 1 → ¬ (b = a0 ∧ (j = 1 ∨ j = 2 ∨ j = 3)) → D' b j = D0 b j) → K D' (-1)) : ∀ (m : Nat) (a : Int) (P : List Int) (D : tD), n - a ≤ (m : Int) → cu D a0 r T n a → wo D q P → (∀ b j, b ≠ q → b ≠ q + 1 → ¬ (b = a0 ∧ j = 1) → D b j = D0 b j) → ((es T n a).1, P ++ (es T n a).2.1, (es T n a).2.2) = es T n a1 → (P.length : Int) ≤ a → WP sc 49 6 D [(0, (1202, a0)), (1, (0, x)), (2, (1207, q)), (3, (0, (P.length : Int)))] [] K E := by
  intro m
  have stop : ∀ (a : Int) (P : List Int) (D : tD), cu D a0 r T n a → (∀ b j, b ≠ q → b ≠ q + 1 → ¬ (b = a0 ∧ j = 1) → D b j = D0 b j) → ∀ (b' : Int), ¬ ((es T n a1).2.2 = true ∧ pb T n (es T n a1).1 = x) → (es T n a1).1 = b' → WP sc 42 0 D [(0, (1202, a0)), (1, (0, 1)), (2, (0, b'))] [] (fun D22 r23 => K D22 (-1)) E := fun a P D h hf b' hn e1 => v42_0 (hF hn _ (by rw [wr_ni (by omega), wr_self]) (by rw [wr_self, e1]) (fun b j u v w => by
    by_cases z : b = a0
    · subst z
      rw [wr_ni (by omega), wr_ni (by omega)]
      exact hf _ _ u v (by omega)
    · rw [wr_ne z, wr_ne z]
      exact hf _ _ u v (by omega)))
  have goin : ∀ (a : Int) (P : List Int) (D : tD), cu D a0 r T n a → wo D q P → (∀ b j, b ≠ q → b ≠ q + 1 → ¬ (b = a0 ∧ j = 1) → D b j = D0 b j) → es T n a = (a, [], true) → ((es T n a).1, P ++ (es T n a).2.1, (es T n a).2.2) = es T n a1 → pb T n a = x → K D (P.length : Int) := fun a P D h hw hf e he hp => by
    rw [e] at he
    have e1 : (es T n a1).1 = a := by rw [← he]
    have e2 : (es T n a1).2.1 = P := by rw [← he]; exact List.append_nil P
    have e3 : (es T n a1).2.2 = true := by rw [← he]
    have := hT e3 (by rw [e1]; exact hp) D (by rw [e2]; exact hw) (by rw [e1]; exact h.1.2) hf
    rw [e2] at this
    exact this
  induction m with
  | zero =>
    intro a P D hm h hw hf he hl
    have c := h.2
    refine v49_6 ?_
    rw [h.1.1, h.1.2, c.1.1, if_neg (by omega), if_neg (by omega)]
    have e : es T n a = (a, [], true) := by rw [es_eq (by omega), pb_out (by omega), if_pos (Or.inl (by omega))]
    rw [e] at he
    have e1 : (es T n a1).1 = a := by rw [← he]
    exact stop a P D h hf n (fun w => by rw [e1, pb_out (by omega)] at w; have := w.2; omega) (by rw [e1]; omega)
  | succ m ih =>
    intro a P D hm h hw hf he hl
    have c := h.2
    by_cases an : a < n
    · refine v49_6 ?_
      rw [h.1.1, h.1.2, c.1.1, if_pos an]
      refine t_at2 h ?_
      have e0 := es_eq (T := T) (n := n) (a := a) (by omega)
      have pT := c.2.2.2 a c.2.1.1 an
      have pa : pb T n a = T a := pb_in an
      by_cases px : pb T n a = x
      · rw [if_pos px]
        rw [h.1.1, h.1.2, c.1.1, if_pos an]
        exact goin a P D h hw hf (by rw [e0, if_pos (by omega)]) he px
      · rw [if_neg px]
        refine t_at h ?_
        by_cases p92 : pb T n a = 92
        · rw [if_pos p92, h.1.2, w32_id (x := a + 1) (by omega) (by omega)]
          rw [if_neg (by omega), if_pos p92] at e0
          have h1 := cu_wr h (b := a + 1) ⟨by omega, by omega⟩
          refine t_at h1 ?_
          refine t_un ?_
          have fr1 : ∀ b j, b ≠ q → b ≠ q + 1 → ¬ (b = a0 ∧ j = 1) → (wr D a0 1 (a + 1)) b j = D0 b j := fun b j u v w => by
            by_cases z : b = a0
            · subst z; rw [wr_ni (by omega)]; exact hf _ _ u v w
            · rw [wr_ne z]; exact hf _ _ u v w
          by_cases eu : un (pb T n (a + 1)) < 0
          · rw [if_pos eu]
            rw [if_pos eu] at e0
            rw [e0] at he
            have e1 : (es T n a1).1 = a + 1 := by rw [← he]
            have e3 : (es T n a1).2.2 = false := by rw [← he]
            rw [wr_self]
            exact stop (a + 1) P _ h1 fr1 (a + 1) (fun w => by rw [e3] at w; exact absurd w.1 (by decide)) e1
          · rw [if_neg eu]
            rw [if_neg eu] at e0
            have an2 : a + 1 < n := by
              by_cases z : a + 1 < n
              · exact z
              · rw [pb_out (by omega)] at eu
                exact absurd (show un (-1) < 0 from by decide) eu
            have hw1 : wo (wr D a0 1 (a + 1)) q P := wo_fr (fun j => wr_ne (by omega)) (fun j => wr_ne (by omega)) hw
            refine c_wpush hlq hw1 (fun D2 hw2 f2 => ?_)
            have a01 : D2 a0 1 = a + 1 := by rw [f2 _ _ (by omega) (by omega), wr_self]
            rw [a01, w32_id (x := a + 1 + 1) (by omega) (by omega), w32_id (x := (P.length : Int) + 1) (by omega) (by omega)]
            have g := ih (a + 2) (P ++ [un (pb T n (a + 1))]) (wr D2 a0 1 (a + 1 + 1)) (by omega) (cu_to (a := a + 1) h1 (b := a + 2) ⟨by omega, by omega⟩ (by rw [wr_ni (by omega), f2 _ _ (by omega) (by omega)]) (by rw [wr_self]; omega) (fun y j u => by rw [wr_ne (by have := c.2.2.1; omega), f2 _ _ (by omega) (by omega)])) (wo_fr (fun j => wr_ne (by omega)) (fun j => wr_ne (by omega)) hw2) (fun b j u v w => by
              by_cases z : b = a0
              · subst z; rw [wr_ni (by omega), f2 _ _ u v]; exact fr1 _ _ u v w
              · rw [wr_ne z, f2 _ _ u v]; exact fr1 _ _ u v w) (by rw [← he, e0]; simp) (by rw [List.length_append, List.length_singleton]; omega)
            rw [List.length_append, List.length_singleton] at g
            exact g
        · rw [if_neg p92]
          have stp : pb T n a < 32 ∨ 126 < pb T n a ∨ pb T n a = 34 → WP sc 42 0 D [(0, (1202, a0)), (1, (0, 1)), (2, (0, D a0 1))] [] (fun D22 r23 => K D22 (-1)) E := fun w => by
            rw [if_pos w] at e0
            rw [e0] at he
            have e1 : (es T n a1).1 = a := by rw [← he]
            rw [h.1.2]
            exact stop a P D h hf a (fun y => by rw [e1] at y; exact px y.2) e1
          by_cases q1 : pb T n a < 32
          · rw [if_pos q1]; exact stp (Or.inl q1)
          rw [if_neg q1]
          by_cases q2 : 126 < pb T n a
          · rw [if_pos q2]; exact stp (Or.inr (Or.inl q2))
          rw [if_neg q2]
          by_cases q3 : pb T n a = 34
          · rw [if_pos q3]; exact stp (Or.inr (Or.inr q3))
          rw [if_neg q3, if_neg (by omega)]
          rw [if_neg (by omega), if_neg p92] at e0
          refine c_wpush hlq hw (fun D2 hw2 f2 => ?_)
          have a01 : D2 a0 1 = a := by rw [f2 _ _ (by omega) (by omega)]; exact h.1.2
          rw [a01, w32_id (x := a + 1) (by omega) (by omega), w32_id (x := (P.length : Int) + 1) (by omega) (by omega)]
          have g := ih (a + 1) (P ++ [pb T n a]) (wr D2 a0 1 (a + 1)) (by omega) (cu_to h (b := a + 1) ⟨by omega, by omega⟩ (by rw [wr_ni (by omega), f2 _ _ (by omega) (by omega)]) (by rw [wr_self]) (fun y j u => by rw [wr_ne (by have := c.2.2.1; omega), f2 _ _ (by omega) (by omega)])) (wo_fr (fun j => wr_ne (by omega)) (fun j => wr_ne (by omega)) hw2) (fun b j u v w => by
            by_cases z : b = a0
            · subst z; rw [wr_ni (by omega), f2 _ _ u v]; exact hf _ _ u v w
            · rw [wr_ne z, f2 _ _ u v]; exact hf _ _ u v w) (by rw [← he, e0]; simp) (by rw [List.length_append, List.length_singleton]; omega)
          rw [List.length_append, List.length_singleton] at g
          exact g
    · refine v49_6 ?_
      rw [h.1.1, h.1.2, c.1.1, if_neg an, if_neg an]
      have e : es T n a = (a, [], true) := by rw [es_eq (by omega), pb_out (by omega), if_pos (Or.inl (by omega))]
      rw [e] at he
      have e1 : (es T n a1).1 = a := by rw [← he]
      exact stop a P D h hf n (fun w => by rw [e1, pb_out (by omega)] at w; have := w.2; omega) (by rw [e1]; omega)
theorem t_esc {a0 r x q a : Int} (hx : x = 34 ∨ x = 10) (hq : q ≠ a0 ∧ q + 1 ≠ a0 ∧ q ≠ r ∧ q ≠ r + 1 ∧ q + 1 ≠ r) (hlq : 0 ≤ ln (q + 1) ∧ ln (q + 1) ≤ 20000) (h : cu D a0 r T n a) (hT : (es T n a).2.2 = true → pb T n (es T n a).1 = x → ∀ D', wo D' q (es T n a).2.1 → D' a0 1 = (es T n a).1 → (∀ b j, b ≠ q → b ≠ q + 1 → ¬ (b = a0 ∧ j = 1) → D' b j = D b j) → K D' ((es T n a).2.1.length : Int)) (hF : ¬ ((es T n a).2.2 = true ∧ pb T n (es T n a).1 = x) → ∀ D', D' a0 2 = 1 → D' a0 3 = (es T n a).1 → (∀ b j, b ≠ q → b ≠ q + 1 → ¬ (b = a0 ∧ (j = 1 ∨ j = 2 ∨ j = 3)) → D' b j = D b j) → K D' (-1)) : WP sc 49 0 D [(0, (1202, a0)), (1, (0, x)), (2, (1207, q))] [] K E := by
  have c := h.2
  refine v49_0 (c_clear ?_)
  have rc : ∀ b j, b ≠ q → (rclear D q) b j = D b j := fun b j u => by unfold rclear; rw [wr_ne u, wr_ne u]
  have g := t_esc1 (sc := sc) (E := E) (K := K) (a1 := a) (D0 := D) hx hq hlq.2 hT hF (n - a).toNat a [] (rclear D q) (by omega) (cu_to h c.2.1 (rc _ _ (by omega)) (by rw [rc _ _ (by omega)]; exact h.1.2) (fun y j u => rc _ _ (by omega))) (wo_clear hlq.1) (fun b j u v w => rc b j u) (by rw [List.nil_append]) (by simp; omega)
  exact g
end TOK
