/-! the other side: marks -/
section MKS
variable {sc : Nat × (Nat → Int32)} {D : tD} {K : tD → Int → Prop} {E : tD → Nat → Prop}
def xs (x : Int → List Int) : Nat → Int → List (List Int)
  | 0, _ => []
  | n + 1, i => x i :: xs x n (i + 1)
theorem bel1 (x : Int → List Int) (i : Int) : bel x 1 i = if ncmp (x 0) (x i) < 0 then 1 else 0 := by
  show 0 + (if ncmp (x ((0 : Nat) : Int)) (x i) < 0 then 1 else 0) = _
  rw [Int.zero_add]; rfl
theorem bel2 (x : Int → List Int) (i : Int) : bel x 2 i = (if ncmp (x 0) (x i) < 0 then 1 else 0) + (if ncmp (x 1) (x i) < 0 then 1 else 0) := by
  show 0 + (if ncmp (x ((0 : Nat) : Int)) (x i) < 0 then 1 else 0) + (if ncmp (x ((1 : Nat) : Int)) (x i) < 0 then 1 else 0) = _
  rw [Int.zero_add]; rfl
theorem bel3 (x : Int → List Int) (i : Int) : bel x 3 i = (if ncmp (x 0) (x i) < 0 then 1 else 0) + (if ncmp (x 1) (x i) < 0 then 1 else 0) + (if ncmp (x 2) (x i) < 0 then 1 else 0) := by
  show 0 + (if ncmp (x ((0 : Nat) : Int)) (x i) < 0 then 1 else 0) + (if ncmp (x ((1 : Nat) : Int)) (x i) < 0 then 1 else 0) + (if ncmp (x ((2 : Nat) : Int)) (x i) < 0 then 1 else 0) = _
  rw [Int.zero_add]; rfl
theorem rk2 (x : Int → List Int) (b : Int → Int) : rk x b 2 2 = (if b 0 = 0 then x 0 else []) ++ (if b 1 = 0 then x 1 else []) ++ ((if b 0 = 1 then x 0 else []) ++ (if b 1 = 1 then x 1 else [])) := by
  simp only [rk, pk, List.nil_append]; rfl
theorem rk3 (x : Int → List Int) (b : Int → Int) : rk x b 3 3 = (if b 0 = 0 then x 0 else []) ++ (if b 1 = 0 then x 1 else []) ++ (if b 2 = 0 then x 2 else []) ++ ((if b 0 = 1 then x 0 else []) ++ (if b 1 = 1 then x 1 else []) ++ (if b 2 = 1 then x 2 else [])) ++ ((if b 0 = 2 then x 0 else []) ++ (if b 1 = 2 then x 1 else []) ++ (if b 2 = 2 then x 2 else [])) := by
  simp only [rk, pk, List.nil_append]; rfl
theorem sort_some {x : Int → List Int} {n : Nat} (hn : n ≤ 3) (h1 : ∀ i : Int, 0 ≤ i → i < (n : Int) → 1 ∈ x i) (hd : ¬ dupX x n) : ∃ S, insAll (xs x n 0) [] = some S ∧ S.flatten = rk x (bel x n) n n := by
  have nd : ∀ i k : Int, 0 ≤ i → i < (n : Int) → 0 ≤ k → k < (n : Int) → k ≠ i → ncmp (x k) (x i) ≠ 0 := fun i k a b d e f g => hd ⟨i, k, a, b, d, e, f, g⟩
  match n, hn with
  | 0, _ => exact ⟨[], rfl, rfl⟩
  | 1, _ =>
    refine ⟨[x 0], rfl, ?_⟩
    have : bel x 1 0 = 0 := by rw [bel1, ncmp_self]; rfl
    show _ = [] ++ ([] ++ (if bel x 1 0 = 0 then x 0 else []))
    rw [if_pos this]; simp
  | 2, _ =>
    have n01 := nd 1 0 (by omega) (by omega) (by omega) (by omega) (by omega)
    have v01 := ncmp_vals (x 0) (x 1)
    have e10 := ncmp_neg (x 0) (x 1)
    have s0 := ncmp_self (x 0)
    have s1 := ncmp_self (x 1)
    rw [rk2, bel2, bel2, s0, s1, e10]
    have hins : insAll (xs x 2 0) [] = insL (x 1) [x 0] := by
      have : ∀ S, insAll [x 1] S = insL (x 1) S := fun S => by simp only [insAll]; cases insL (x 1) S <;> rfl
      show insAll [x 1] [x 0] = _
      rw [this]
    rw [hins]
    simp only [insL, e10]
    rcases v01 with h | h | h
    · rw [h]; exact ⟨[x 0, x 1], by simp, by simp⟩
    · exact absurd h n01
    · rw [h]; exact ⟨[x 1, x 0], by simp, by simp⟩
  | 3, _ =>
    have n01 := nd 1 0 (by omega) (by omega) (by omega) (by omega) (by omega)
    have n02 := nd 2 0 (by omega) (by omega) (by omega) (by omega) (by omega)
    have n12 := nd 2 1 (by omega) (by omega) (by omega) (by omega) (by omega)
    have v01 := ncmp_vals (x 0) (x 1)
    have v02 := ncmp_vals (x 0) (x 2)
    have v12 := ncmp_vals (x 1) (x 2)
    have e10 := ncmp_neg (x 0) (x 1)
    have e20 := ncmp_neg (x 0) (x 2)
    have e21 := ncmp_neg (x 1) (x 2)
    have s0 := ncmp_self (x 0)
    have s1 := ncmp_self (x 1)
    have s2 := ncmp_self (x 2)
    have o0 := h1 0 (by omega) (by omega)
    have o1 := h1 1 (by omega) (by omega)
    have o2 := h1 2 (by omega) (by omega)
    have t1 := ncmp_tr (x 0) (x 1) (x 2) o1
    have t2 := ncmp_tr (x 2) (x 1) (x 0) o1
    rw [e21, e10, e20] at t2
    rw [rk3, bel3, bel3, bel3, s0, s1, s2, e10, e20, e21]
    have hins : insAll (xs x 3 0) [] = (insL (x 1) [x 0]).bind (fun S => insL (x 2) S) := by
      have : ∀ S, insAll [x 2] S = insL (x 2) S := fun S => by simp only [insAll]; cases insL (x 2) S <;> rfl
      show (insL (x 1) [x 0]).bind (fun S => insAll [x 2] S) = _
      simp only [this]
    rw [hins]
    rcases v01 with h | h | h
    · have i1 : insL (x 1) [x 0] = some [x 0, x 1] := by simp only [insL, e10]; rw [h]; rfl
      rw [i1]
      simp only [Option.bind, insL, e20, e21]
      rcases v02 with g | g | g
      · rcases v12 with w | w | w
        · rw [h, g, w]; exact ⟨[x 0, x 1, x 2], by simp, by simp⟩
        · exact absurd w n12
        · rw [h, g, w]; exact ⟨[x 0, x 2, x 1], by simp, by simp⟩
      · exact absurd g n02
      · rcases v12 with w | w | w
        · have := t1 (by omega) (by omega); omega
        · exact absurd w n12
        · rw [h, g, w]; exact ⟨[x 2, x 0, x 1], by simp, by simp⟩
    · exact absurd h n01
    · have i1 : insL (x 1) [x 0] = some [x 1, x 0] := by simp only [insL, e10]; rw [h]; rfl
      rw [i1]
      simp only [Option.bind, insL, e20, e21]
      rcases v02 with g | g | g
      · rcases v12 with w | w | w
        · rw [h, g, w]; exact ⟨[x 1, x 0, x 2], by simp, by simp⟩
        · exact absurd w n12
        · have := t2 (by omega) (by omega); omega
      · exact absurd g n02
      · rcases v12 with w | w | w
        · rw [h, g, w]; exact ⟨[x 1, x 2, x 0], by simp, by simp⟩
        · exact absurd w n12
        · rw [h, g, w]; exact ⟨[x 2, x 1, x 0], by simp, by simp⟩
theorem insL_ne {x y : List Int} : ∀ {S S' : List (List Int)}, insL x S = some S' → srtL S → 1 ∈ x → (∀ y ∈ S, 1 ∈ y) → y ∈ S → ncmp x y ≠ 0 := by
  intro S
  induction S with
  | nil => intro S' _ _ _ _ h; exact absurd h (by simp)
  | cons z r ih =>
    intro S' h hs hx hS hy
    unfold insL at h
    split at h
    · exact absurd h (by simp)
    rename_i hne
    split at h
    · rename_i hlt
      rcases List.mem_cons.mp hy with e | e
      · rw [e]; exact hne
      · have := ncmp_tr x z y (hS z List.mem_cons_self) hlt (hs.1 y e)
        omega
    · cases hr : insL x r with
      | none => rw [hr] at h; exact absurd h (by simp)
      | some R =>
        rcases List.mem_cons.mp hy with e | e
        · rw [e]; exact hne
        · exact ih hr hs.2 hx (fun y h => hS y (List.mem_cons_of_mem _ h)) e
theorem insAll_ne {x : Int → List Int} : ∀ (n : Nat) (i0 : Int) {S S' : List (List Int)}, insAll (xs x n i0) S = some S' → srtL S → (∀ y ∈ S, 1 ∈ y) → (∀ i : Int, i0 ≤ i → i < i0 + (n : Int) → 1 ∈ x i) → (∀ i : Int, i0 ≤ i → i < i0 + (n : Int) → ∀ y ∈ S, ncmp (x i) y ≠ 0) ∧ ∀ i k : Int, i0 ≤ i → i < k → k < i0 + (n : Int) → ncmp (x k) (x i) ≠ 0 := by
  intro n
  induction n with
  | zero => intro i0 S S' _ _ _ _; exact ⟨fun i a b => by omega, fun i k a b d => by omega⟩
  | succ n ih =>
    intro i0 S S' h hs hS hx
    simp only [xs, insAll] at h
    cases hi : insL (x i0) S with
    | none => rw [hi] at h; exact absurd h (by simp)
    | some S1 =>
      rw [hi] at h
      have h' : insAll (xs x n (i0 + 1)) S1 = some S' := h
      have m1 := insL_mem hi
      have x0 := hx i0 (by omega) (by omega)
      obtain ⟨p, q⟩ := ih (i0 + 1) h' (insL_srt hi hs x0 hS) (fun y hy => by
        rcases (m1 y).mp hy with e | e
        · rw [e]; exact x0
        · exact hS y e) (fun i a b => hx i (by omega) (by omega))
      refine ⟨fun i a b y hy => ?_, fun i k a b d => ?_⟩
      · by_cases e : i = i0
        · subst e; exact insL_ne hi hs x0 hS hy
        · exact p i (by omega) (by omega) y ((m1 y).mpr (Or.inr hy))
      · by_cases e : i = i0
        · subst e
          exact p k (by omega) (by omega) (x i) ((m1 _).mpr (Or.inl rfl))
        · exact q i k (by omega) b (by omega)
theorem sort_none {x : Int → List Int} {n : Nat} (h1 : ∀ i : Int, 0 ≤ i → i < (n : Int) → 1 ∈ x i) (hd : dupX x n) : ∀ S, insAll (xs x n 0) [] ≠ some S := by
  intro S h
  obtain ⟨_, q⟩ := insAll_ne n 0 h trivial (fun y h => absurd h (by simp)) (fun i a b => h1 i a (by omega))
  obtain ⟨i, k, a, b, d, e, f, g⟩ := hd
  by_cases z : i < k
  · exact q i k a z (by omega) g
  · have := q k i d (by omega) (by omega)
    rw [ncmp_neg (x k) (x i), g] at this
    exact this rfl
/-- the places in the arrays -/
def arrG (D : tD) : List (Int × Int) → Int → Int → Prop
  | [], _, _ => True
  | (m, e) :: r, i, s => D 2010 i = s ∧ D 2011 i = m ∧ D 2012 i = e ∧ arrG D r (i + 1) (e + 1)
def endG : List (Int × Int) → Int → Int
  | [], s => s
  | (_, e) :: r, _ => endG r (e + 1)
def bytG : List (Int × Int) → Int → Int
  | [], _ => 0
  | (_, e) :: r, s => (e - s - 1) + bytG r (e + 1)
def prsQ (T : Int → Int) (n : Int) : List (Int × Int) → Int → Prop
  | [], _ => True
  | (m, e) :: r, s => segT T n s m e ∧ prsQ T n r (e + 1)
theorem prs_pre {T : Int → Int} {n : Int} : ∀ {g g' : List (Int × Int)} {s : Int}, prsQ T n g s → prsT T n g' s → ∃ r, g' = g ++ r ∧ prsT T n r (endG g s) := by
  intro g
  induction g with
  | nil => intro g' s _ h; exact ⟨g', rfl, h⟩
  | cons q g ih =>
    intro g' s h h'
    obtain ⟨m, e⟩ := q
    cases g' with
    | nil => have : s = n := h'; have := h.1.1; omega
    | cons q' g' =>
      obtain ⟨m', e'⟩ := q'
      obtain ⟨rfl, rfl⟩ := segT_uni h.1 h'.1
      obtain ⟨r, r1, r2⟩ := ih h.2 h'.2
      exact ⟨r, by rw [r1]; rfl, r2⟩
theorem prsQ_snoc {T : Int → Int} {n m e : Int} : ∀ {g : List (Int × Int)} {s : Int}, prsQ T n g s → segT T n (endG g s) m e → prsQ T n (g ++ [(m, e)]) s ∧ endG (g ++ [(m, e)]) s = e + 1 ∧ bytG (g ++ [(m, e)]) s = bytG g s + (e - endG g s - 1) := by
  intro g
  induction g with
  | nil => intro s _ h; exact ⟨⟨h, trivial⟩, rfl, by show e - s - 1 + 0 = 0 + (e - s - 1); omega⟩
  | cons q g ih =>
    intro s h h'
    obtain ⟨m', e'⟩ := q
    obtain ⟨a, b, d⟩ := ih h.2 h'
    refine ⟨⟨h.1, a⟩, b, ?_⟩
    show e' - s - 1 + bytG (g ++ [(m, e)]) (e' + 1) = e' - s - 1 + bytG g (e' + 1) + _
    rw [d]
    show _ = e' - s - 1 + bytG g (e' + 1) + (e - endG g (e' + 1) - 1)
    omega
theorem prsT_of {T : Int → Int} {n : Int} : ∀ {g : List (Int × Int)} {s : Int}, prsQ T n g s → endG g s = n → prsT T n g s := by
  intro g
  induction g with
  | nil => intro s _ h; exact h
  | cons q g ih => intro s h h'; exact ⟨h.1, ih h.2 h'⟩
theorem endG_le {T : Int → Int} {n : Int} : ∀ {g : List (Int × Int)} {s : Int}, prsQ T n g s → 0 ≤ s → s ≤ n → 0 ≤ endG g s ∧ endG g s ≤ n ∧ 0 ≤ bytG g s ∧ bytG g s ≤ n := by
  have key : ∀ {g : List (Int × Int)} {s : Int}, prsQ T n g s → 0 ≤ s → s ≤ n → 0 ≤ endG g s ∧ endG g s ≤ n ∧ 0 ≤ bytG g s ∧ bytG g s ≤ n - s := by
    intro g
    induction g with
    | nil => intro s _ h h'; exact ⟨h, h', Int.le_refl _, by show (0 : Int) ≤ _; omega⟩
    | cons q g ih =>
      intro s h h1 h2
      have s1 := h.1.1
      obtain ⟨a, b, d, f⟩ := ih h.2 (by omega) (by omega)
      refine ⟨a, b, ?_, ?_⟩
      · show 0 ≤ q.2 - s - 1 + bytG g (q.2 + 1); omega
      · show q.2 - s - 1 + bytG g (q.2 + 1) ≤ _; omega
  intro g s a b d
  have := key a b d
  omega
theorem arrG_snoc {D D' : tD} {m e : Int} : ∀ {g : List (Int × Int)} {i s : Int}, arrG D g i s → (∀ a j, a = 2010 ∨ a = 2011 ∨ a = 2012 → j < i + (g.length : Int) → D' a j = D a j) → D' 2010 (i + (g.length : Int)) = endG g s → D' 2011 (i + (g.length : Int)) = m → D' 2012 (i + (g.length : Int)) = e → arrG D' (g ++ [(m, e)]) i s := by
  intro g
  induction g with
  | nil =>
    intro i s _ _ h1 h2 h3
    rw [show i + (([] : List (Int × Int)).length : Int) = i from by simp] at h1 h2 h3
    exact ⟨h1, h2, h3, trivial⟩
  | cons q g ih =>
    intro i s h hf h1 h2 h3
    rw [List.length_cons, show i + ((g.length + 1 : Nat) : Int) = i + 1 + (g.length : Int) from by omega] at h1 h2 h3
    rw [List.length_cons] at hf
    refine ⟨by rw [hf _ _ (Or.inl rfl) (by omega)]; exact h.1, by rw [hf _ _ (Or.inr (Or.inl rfl)) (by omega)]; exact h.2.1, by rw [hf _ _ (Or.inr (Or.inr rfl)) (by omega)]; exact h.2.2.1, ih h.2.2.2 (fun a j u v => hf a j u (by omega)) h1 h2 h3⟩
theorem arrG_sg {N : Int} : ∀ {g : List (Int × Int)} {i s : Int}, arrG D g i s → prsQ (D 1978) N g s → (∀ q, i ≤ q → q < i + (g.length : Int) → sgI D N q) ∧ labsT (D 1978) g s = xs (xI D) g.length i := by
  intro g
  induction g with
  | nil => intro i s _ _; exact ⟨fun q a b => by simp at b; omega, rfl⟩
  | cons q g ih =>
    intro i s h hq
    obtain ⟨m, e⟩ := q
    obtain ⟨h1, h2, h3, h4⟩ := h
    obtain ⟨a, b⟩ := ih h4 hq.2
    have s0 : sgI D N i := by unfold sgI; rw [h1, h2, h3]; exact hq.1
    refine ⟨fun q u v => ?_, ?_⟩
    · by_cases z : q = i
      · rw [z]; exact s0
      · rw [List.length_cons] at v
        exact a q (by omega) (by omega)
    · show spn (D 1978) s (e + 1 - s).toNat :: labsT (D 1978) g (e + 1) = xI D i :: xs (xI D) g.length (i + 1)
      rw [b]
      unfold xI
      rw [h1, h3]
theorem labs_len {T : Int → Int} {n : Int} : ∀ {g : List (Int × Int)} {s : Int}, prsQ T n g s → (labsT T g s).length = g.length ∧ ((labsT T g s).flatten.length : Int) = bytG g s + 2 * (g.length : Int) := by
  intro g
  induction g with
  | nil => intro s _; exact ⟨rfl, rfl⟩
  | cons q g ih =>
    intro s h
    obtain ⟨m, e⟩ := q
    obtain ⟨a, b⟩ := ih h.2
    have s1 := h.1.1
    refine ⟨by show _ + 1 = _ + 1; rw [a], ?_⟩
    show (((spn T s (e + 1 - s).toNat :: labsT T g (e + 1)).flatten.length : Nat) : Int) = (e - s - 1 + bytG g (e + 1)) + 2 * _
    rw [List.flatten_cons, List.length_append, spn_len, List.length_cons]
    omega
theorem insAll_len : ∀ {L S S' : List (List Int)}, insAll L S = some S' → S'.length = S.length + L.length ∧ S'.flatten.length = S.flatten.length + L.flatten.length := by
  intro L
  induction L with
  | nil => intro S S' h; simp only [insAll] at h; injection h with h; subst h; simp
  | cons x L ih =>
    intro S S' h
    simp only [insAll] at h
    cases hi : insL x S with
    | none => rw [hi] at h; exact absurd h (by simp)
    | some S1 =>
      rw [hi] at h
      have := ih (show insAll L S1 = some S' from h)
      have := insL_len hi
      rw [List.flatten_cons, List.length_append, List.length_cons]
      omega
def frM (D D' : tD) : Prop := ∀ a j, a < 2009 ∨ 2012 < a → (a = 1977 → j ≠ 37) → D' a j = D a j
theorem m_mk29 {N lab n s by' : Int} (hN : D 1977 2 = N) (hN4 : N ≤ 4000) (hn : 0 ≤ n ∧ n < 8) (hs : 0 ≤ s) (hgo : ∀ m, s ≤ m → m ≤ N → (∀ j, s ≤ j → j < m → D 1978 j ≠ 1) → (m = N ∨ D 1978 m = 1) → (if m = N then K (wr D 2011 n m) (-1) else WP sc 185 0 (wr D 2011 n m) [(0, (1211, 1977)), (1, (0, D 2010 n)), (2, (0, m))] [] (fun D1 r2 => if r2 = 0 then (K D1 (-1)) else (WP sc 190 87 D1 [(0, (1211, 1977)), (1, (0, lab)), (2, (0, n)), (3, (0, m + 1)), (4, (0, by'))] [] K E)) (fun D1 e2 => E D1 e2))) (k : Int) (hk : s ≤ k ∧ k ≤ N) (hj : ∀ j, s ≤ j → j < k → D 1978 j ≠ 1) : WP sc 190 29 D [(0, (1211, 1977)), (1, (0, lab)), (2, (0, n)), (3, (0, k)), (4, (0, by'))] [] K E := by
  have ex : (k = N ∨ D 1978 k = 1) → ((0 ≤ n ∧ n < 8) ∧ (if k = (wr D 2011 n k) 1977 2 then (K (wr D 2011 n k) (-1)) else ((0 ≤ n ∧ n < 8) ∧ (WP sc 185 0 (wr D 2011 n k) [(0, (1211, 1977)), (1, (0, (wr D 2011 n k) 2010 n)), (2, (0, k))] [] (fun D1 r2 => if r2 = 0 then (K D1 (-1)) else (WP sc 190 87 D1 [(0, (1211, 1977)), (1, (0, lab)), (2, (0, n)), (3, (0, w32 (k + 1))), (4, (0, by'))] [] K E)) (fun D1 e2 => E D1 e2))))) := fun hh => by
    refine ⟨hn, ?_⟩
    rw [wr_ne (by omega), hN, w32_id (by omega) (by omega), wr_ne (by omega)]
    have := hgo k hk.1 hk.2 hj hh
    split
    · rename_i e
      rw [if_pos e] at this
      exact this
    · rename_i e
      rw [if_neg e] at this
      exact ⟨hn, this⟩
  refine v190_29 ?_
  split
  · rename_i c1
    refine ⟨by omega, ?_⟩
    split
    · rename_i e
      exact ex (Or.inr e)
    · rename_i e
      rw [w32_id (by omega) (by omega)]
      refine m_mk29 hN hN4 hn hs hgo (k + 1) (by omega) (fun j u v => ?_)
      by_cases z : j = k
      · rw [z]; exact e
      · exact hj j u (by omega)
  · exact ex (Or.inl (by omega))
termination_by (N - k).toNat
decreasing_by omega
theorem m_mk87 {N lab n s by' : Int} (hN : D 1977 2 = N) (hN4 : N ≤ 4000) (hn : 0 ≤ n ∧ n < 8) (hs : 0 ≤ s) (hgo : ∀ m, s ≤ m → m ≤ N → (∀ j, s ≤ j → j < m → D 1978 j ≠ 2) → (m = N ∨ D 1978 m = 2) → (if m = N then K (wr D 2012 n m) (-1) else WP sc 188 0 (wr D 2012 n m) [(0, (1211, 1977)), (1, (0, w32 (D 2011 n + 1))), (2, (0, m)), (3, (0, 12))] [] (fun D1 r2 => if r2 = 0 then (K D1 (-1)) else (WP sc 190 7 D1 [(0, (1211, 1977)), (1, (0, lab)), (2, (0, n + 1)), (3, (0, m + 1)), (4, (0, w32 (by' + (w32 ((w32 ((D1 2012 n) - (D1 2010 n))) - 1)))))] [] K E)) (fun D1 e2 => E D1 e2))) (k : Int) (hk : s ≤ k ∧ k ≤ N) (hj : ∀ j, s ≤ j → j < k → D 1978 j ≠ 2) : WP sc 190 87 D [(0, (1211, 1977)), (1, (0, lab)), (2, (0, n)), (3, (0, k)), (4, (0, by'))] [] K E := by
  have ex : (k = N ∨ D 1978 k = 2) → ((0 ≤ n ∧ n < 8) ∧ (if k = (wr D 2012 n k) 1977 2 then (K (wr D 2012 n k) (-1)) else ((0 ≤ n ∧ n < 8) ∧ (WP sc 188 0 (wr D 2012 n k) [(0, (1211, 1977)), (1, (0, w32 (((wr D 2012 n k) 2011 n) + 1))), (2, (0, k)), (3, (0, 12))] [] (fun D1 r2 => if r2 = 0 then (K D1 (-1)) else ((0 ≤ n ∧ n < 8) ∧ ((0 ≤ n ∧ n < 8) ∧ (WP sc 190 7 D1 [(0, (1211, 1977)), (1, (0, lab)), (2, (0, w32 (n + 1))), (3, (0, w32 (k + 1))), (4, (0, w32 (by' + (w32 ((w32 ((D1 2012 n) - (D1 2010 n))) - 1)))))] [] K E)))) (fun D1 e2 => E D1 e2))))) := fun hh => by
    refine ⟨hn, ?_⟩
    rw [wr_ne (by omega), hN, w32_id (x := k + 1) (by omega) (by omega), w32_id (x := n + 1) (by omega) (by omega), wr_ne (by omega)]
    have := hgo k hk.1 hk.2 hj hh
    split
    · rename_i e
      rw [if_pos e] at this
      exact this
    · rename_i e
      rw [if_neg e] at this
      refine ⟨hn, WP_mono (fun D' x h => ?_) (fun D' x h => h) this⟩
      by_cases z : x = 0
      · rw [if_pos z] at h ⊢; exact h
      · rw [if_neg z] at h ⊢; exact ⟨hn, hn, h⟩
  refine v190_87 ?_
  split
  · rename_i c1
    refine ⟨by omega, ?_⟩
    split
    · rename_i e
      exact ex (Or.inr e)
    · rename_i e
      rw [w32_id (by omega) (by omega)]
      refine m_mk87 hN hN4 hn hs hgo (k + 1) (by omega) (fun j u v => ?_)
      by_cases z : j = k
      · rw [z]; exact e
      · exact hj j u (by omega)
  · exact ex (Or.inl (by omega))
termination_by (N - k).toNat
decreasing_by omega
end MKS
