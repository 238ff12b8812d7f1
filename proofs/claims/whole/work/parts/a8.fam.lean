/-! family in the law's loop -/
section LFA
variable {sc : Nat × (Nat → Int32)} {D D' : tD} {K : tD → Int → Prop} {E : tD → Nat → Prop} {c c' s i : Int}
def mfl (D D' : tD) (f t : Int) : Prop := D' 1977 0 = t ∧ (∀ j, j ≠ 0 → D' 1977 j = D 1977 j) ∧ ∀ x j, x ≠ 1977 → ¬ (f < 8 ∧ mfd f x j) → D' x j = D x j
theorem mfl_wr {f t : Int} : mfl D (wr D 1977 0 t) f t := ⟨wr_self, fun j u => wr_ni u, fun x j u _ => wr_ne u⟩
theorem m_adds {f kd a b n : Int} (hf : D 1979 0 = f ∧ 0 ≤ f ∧ f ≤ 8) (hn : n ≤ 4000) (hg : ∀ k, 0 ≤ k → k < f → nzP D k) (hfam : famT (D 1978) n kd a b) (hU : (∃ k, (0 ≤ k ∧ k < f) ∧ clM D kd a k) → ∀ D', mfl D D' f 2 → K D' 0) (hS : (¬ ∃ k, (0 ≤ k ∧ k < f) ∧ clM D kd a k) → f = 8 → ∀ D', mfl D D' f 3 → K D' 0) (hG : (¬ ∃ k, (0 ≤ k ∧ k < f) ∧ clM D kd a k) → f < 8 → ∀ D', mnP (wr D 1977 0 0) D' f kd a b n → K D' f) : WP sc 210 0 D [(0, (1211, 1977)), (1, (0, kd)), (2, (0, a)), (3, (0, b)), (4, (0, n))] [] K E := by
  obtain ⟨h79, f0, f8⟩ := hf
  have fh := hfam.1
  obtain ⟨fn1, fn2, fn3, fn4⟩ := hfam.2.2.2.2.2.1
  have fx := hfam.2.2.2.2.2.2.1.2.1
  have fu : b - a - 1 ≤ 8 := by
    rcases hfam.2.2.2.2.2.2.2 with w | w
    · omega
    · have := w.1; omega
  refine v210_0 ⟨by decide +kernel, ?_⟩
  rw [h79]
  by_cases e : f = 8
  · rw [if_pos e]
    exact m_faddF (by omega) hg (fun h => hU h _ mfl_wr) (fun h => hS h e _ mfl_wr) f.toNat 0 0 (by omega) (by omega) (Or.inr ⟨rfl, fun ⟨j, j1, _⟩ => by omega⟩)
  · rw [if_neg e]
    refine m_kfam (by omega) (by omega) (fun D1 hk => ?_)
    obtain ⟨⟨k1, k2, k3, k4, k5, k6, k7⟩, k8, k9, k10, k11⟩ := hk
    have fr : ∀ x j, ¬ mfd f x j → D1 x j = D x j := fun x j u => by
      by_cases e1 : x = 1981
      · rw [e1]; exact k9 j (fun w => u (Or.inr (Or.inl ⟨e1, by omega, by omega⟩)))
      · by_cases e2 : x = 1980 ∨ x = 1982 ∨ x = 1984 ∨ x = 1986 ∨ x = 1988 ∨ x = 1991 ∨ x = 1992
        · exact k10 x j e2 (fun w => u (Or.inl ⟨by omega, w⟩))
        · exact k11 x j (by omega) e1 (by omega) (by omega) (by omega) (by omega) (by omega) (by omega)
    have zz : ∀ k, 0 ≤ k → k < f → D1 1982 k = D 1982 k := fun k u v => k10 _ _ (by omega) (by omega)
    refine m_fadd1 (P := clM D kd a) (by omega) ⟨by omega, by omega, by omega⟩ (fun k u v => ⟨?_, ?_⟩) (by omega) (fun h => hU h _ ⟨wr_self, fun j u => by rw [wr_ni u]; exact fr _ _ (by unfold mfd; omega), fun x j u v => by rw [wr_ne u]; exact fr x j (fun w => v ⟨by omega, w⟩)⟩) (fun h => ?_) f.toNat 0 0 (by omega) (by omega) (Or.inr ⟨rfl, fun ⟨j, j1, _⟩ => by omega⟩)
    · have := hg k u v
      exact ⟨this.1, by rw [zz k u v]; exact this.2⟩
    · have := hg k u v
      rw [zz k u v, k1, k2, show D1 1980 k = D 1980 k from k10 _ _ (by omega) (by omega), show a - 0 = a from by omega]
      unfold clM
      refine clF_ext (fun j x y => ?_) (fun j x y => ?_)
      · unfold nmf
        rw [k8 j x (by omega), show (0 : Int) + j = j from by omega]
      · unfold nmf
        exact k9 _ (by have := this.2; omega)
    · refine m_fadd2 (D0 := wr D 1977 0 0) (D1 := wr (wr D1 1977 0 0) 1984 f (b - a - 1)) (by omega) (by omega) fu (by omega) (by rw [wr_ne (by omega)]; exact h79) ⟨?_, ?_, ?_, ?_⟩ ⟨?_, fun j u v => ?_⟩ wr_self (fun x j u => ?_) (hG h (by omega)) (b - a - 1).toNat (a + 1) _ (by omega) (by omega) (fun j u v => by omega) (fun j u => rfl) (fun x j u => rfl)
      · rw [wr_ne (by omega), wr_ne (by omega)]; exact k1
      · rw [wr_ne (by omega), wr_ne (by omega)]; exact k5
      · rw [wr_ne (by omega), wr_ne (by omega)]; exact k6
      · rw [wr_ne (by omega), wr_ne (by omega)]; exact k7
      · rw [wr_ne (by omega), wr_ne (by omega)]; omega
      · rw [wr_ne (by omega), wr_ne (by omega), wr_ne (by omega), k8 j u (by omega), show (0 : Int) + j = j from by omega]
      · have e84 : ¬ (x = 1984 ∧ j = f) := fun w => u (Or.inl ⟨by omega, w.2⟩)
        simp only [wr]
        rw [if_neg e84]
        by_cases e2 : x = 1977 ∧ j = 0
        · rw [if_pos e2, if_pos e2]
        · rw [if_neg e2, if_neg e2]; exact fr x j u
def nmE (D : tD) (a k : Int) : Prop := msmP D 1981 (24 * k) (D 1982 k) 0 a
theorem nmE_uni {a k k' : Int} (hu : unq D) (h1 : nmE D a k) (h2 : nmE D a k') (hk : 0 ≤ k ∧ k < D 1979 0) (hk' : 0 ≤ k' ∧ k' < D 1979 0) : k = k' := by
  have key : ∀ x y, 0 ≤ x → x < y → y < D 1979 0 → nmE D a x → nmE D a y → False := fun x y u v w p q => hu x y u v w ⟨by have := p.1; have := q.1; omega, fun j j1 j2 => by rw [p.2 j j1 j2, q.2 j j1 (by have := p.1; have := q.1; omega)]⟩
  by_cases u : k < k'
  · exact (key k k' hk.1 u hk'.2 h1 h2).elim
  · by_cases v : k' < k
    · exact (key k' k hk'.1 v hk.2 h2 h1).elim
    · omega
theorem nmE_clM {a k kd : Int} (h : nmE D a k) : clM D kd a k := by
  have n1 := owN_b kd
  have n2 := owN_b (D 1980 k)
  refine ⟨0, 0, by omega, by omega, ?_⟩
  have e0 : ∀ x, owW x 0 = 0 := fun x => rfl
  have l0 : ltn 0 = 0 := rfl
  rw [e0, e0]
  refine ⟨by have := h.1; omega, fun j u v => ?_⟩
  unfold jn nmf
  have h1 := h.1
  rw [if_pos (by omega), if_pos (by omega), h.2 j u (by omega), show (0 : Int) + j = j from by omega]
theorem m_fam145 {kd a b n f : Int} (hf : D 1979 0 = f ∧ 0 ≤ f ∧ f ≤ 8) (hn : n ≤ 4000) (h0 : D 1977 0 = 0) (hg : ∀ k, 0 ≤ k → k < f → nzP D k ∧ (0 ≤ D 1984 k ∧ D 1984 k ≤ 8) ∧ (0 ≤ D 1986 k ∧ D 1986 k ≤ 40)) (hu : unq D) (hfam : famT (D 1978) n kd a b) (hL : ∀ r D', (0 ≤ r ∧ r < f) → mlk D kd a b n r → mfl D D' f 0 → K D' r) (hU : (∀ k, 0 ≤ k → k < f → ¬ mlk D kd a b n k) → (∃ k, (0 ≤ k ∧ k < f) ∧ clM D kd a k) → ∀ D', mfl D D' f 2 → K D' 0) (hS : (∀ k, 0 ≤ k → k < f → ¬ mlk D kd a b n k) → (¬ ∃ k, (0 ≤ k ∧ k < f) ∧ clM D kd a k) → f = 8 → ∀ D', mfl D D' f 3 → K D' 0) (hG : (∀ k, 0 ≤ k → k < f → ¬ mlk D kd a b n k) → (¬ ∃ k, (0 ≤ k ∧ k < f) ∧ clM D kd a k) → f < 8 → ∀ D', mnP (wr D 1977 0 0) D' f kd a b n → K D' f) : ∀ (m : Nat) (k x : Int), f - k = (m : Int) → 0 ≤ k → ((x = -1 ∧ ∀ j, 0 ≤ j → j < k → ¬ nmE D a j) ∨ (0 ≤ x ∧ x < k ∧ nmE D a x)) → WP sc 209 145 D [(0, (1211, 1977)), (1, (0, kd)), (2, (0, n)), (3, (0, a)), (4, (0, b)), (6, (0, x)), (7, (0, k))] [] K E := by
  obtain ⟨h79, f0, f8⟩ := hf
  have fh := hfam.1
  have fn2 := hfam.2.2.2.2.2.1.2.1
  intro m
  induction m with
  | zero =>
    intro k x hm hk hx
    refine v209_145 ⟨by decide +kernel, ?_⟩
    rw [h79, if_neg (by omega)]
    rcases hx with ⟨e, hx⟩ | ⟨x1, x2, x3⟩
    · rw [if_pos (by omega)]
      have nl : ∀ k, 0 ≤ k → k < f → ¬ mlk D kd a b n k := fun k u v w => hx k u (by omega) w.2.1
      exact m_adds ⟨h79, f0, f8⟩ hn (fun k u v => (hg k u v).1) hfam (hU nl) (hS nl) (hG nl)
    · rw [if_neg (by omega)]
      obtain ⟨g1, g2, g3⟩ := hg x x1 (by omega)
      have l83 : ln 1983 = 128 := rfl
      have l85 : ln 1985 = 640 := rfl
      have nl : ¬ mlk D kd a b n x → ∀ k, 0 ≤ k → k < f → ¬ mlk D kd a b n k := fun h k u v w => by
        have e := nmE_uni hu x3 w.2.1 (by omega) (by omega)
        rw [← e] at w
        exact h w
      have no : ¬ mlk D kd a b n x → WP sc 167 0 D [(0, (1211, 1977)), (1, (0, 1)), (2, (0, 2))] [] (fun D10 r11 => if r11 = 0 then (K D10 x) else (K D10 0)) (fun D10 e12 => E D10 e12) := fun h => c_fails1 (by
        rw [if_neg (by omega)]
        exact hU (nl h) ⟨x, by omega, nmE_clM x3⟩ _ mfl_wr)
      refine ⟨by omega, ?_⟩
      by_cases e : D 1980 x = kd
      · rw [if_pos e, w32_id (x := 8 * x) (by omega) (by omega), w32_id (x := a + 1) (by omega) (by omega)]
        refine ⟨by omega, m_same (by rw [l83]; omega) (by omega) (by omega) (by omega) (fun hs1 => ?_) (fun hs1 => ?_)⟩
        · rw [if_neg (by omega), w32_id (x := 40 * x) (by omega) (by omega), w32_id (x := b + 1) (by omega) (by omega)]
          refine ⟨by omega, m_same (by rw [l85]; omega) (by omega) (by omega) (by omega) (fun hs2 => ?_) (fun hs2 => ?_)⟩
          · rw [if_neg (by omega)]
            refine c_fails0 ?_
            rw [if_pos rfl]
            exact hL x _ (by omega) ⟨e, x3, hs1, hs2⟩ mfl_wr
          · rw [if_pos rfl]
            exact no (fun w => hs2 w.2.2.2)
        · rw [if_pos rfl]
          exact no (fun w => hs1 w.2.2.1)
      · rw [if_neg e]
        exact no (fun w => e w.1)
  | succ m ih =>
    intro k x hm hk hx
    refine v209_145 ⟨by decide +kernel, ?_⟩
    obtain ⟨g1, g2, g3⟩ := hg k hk (by omega)
    have z := g1.2
    have l81 : ln 1981 = 384 := rfl
    rw [h79, if_pos (by omega), w32_id (x := 24 * k) (by omega) (by omega), w32_id (x := k + 1) (by omega) (by omega)]
    refine ⟨by omega, m_same (by rw [l81]; omega) (by omega) (by omega) (by omega) (fun hs => ?_) (fun hs => ?_)⟩
    · rw [if_neg (by omega)]
      exact ih _ _ (by omega) (by omega) (Or.inr ⟨hk, by omega, hs⟩)
    · rw [if_pos rfl]
      refine ih _ _ (by omega) (by omega) ?_
      rcases hx with ⟨e, hx⟩ | ⟨x1, x2, x3⟩
      · refine Or.inl ⟨e, fun j u v => ?_⟩
        by_cases e2 : j = k
        · rw [e2]; exact hs
        · exact hx j u (by omega)
      · exact Or.inr ⟨x1, by omega, x3⟩
theorem m_famchk {kd a b n : Int} (hn : 0 ≤ n ∧ n ≤ 4000) (ha : 0 ≤ a ∧ a ≤ n ∧ a < b ∧ b ≤ n + 1) (hT1 : ∀ j, 0 ≤ j → j < a → D 1978 j ≠ 1) (hT2 : a < n → D 1978 a = 1) (hT3 : ∀ j, a < j → j < b → j < n → D 1978 j ≠ 1) (hT4 : b < n → D 1978 b = 1) (hB : ¬ ((0 ≤ kd ∧ kd ≤ 4) ∧ famT (D 1978) n kd a b) → K (wr D 1977 0 1) 0) (hG : (0 ≤ kd ∧ kd ≤ 4) → famT (D 1978) n kd a b → WP sc 209 145 (wr D 1977 0 0) [(0, (1211, 1977)), (1, (0, kd)), (2, (0, n)), (3, (0, a)), (4, (0, b)), (6, (0, -1)), (7, (0, 0))] [] K E) : WP sc 168 0 D [(0, (1, kd)), (2, (1, 0)), (4, (1, 4))] [] (fun D1 r2 => if r2 = 0 then (WP sc 167 0 D1 [(0, (1211, 1977)), (1, (0, 1)), (2, (0, 1))] [] (fun D4 r5 => if r5 = 0 then (WP sc 209 145 D4 [(0, (1211, 1977)), (1, (0, kd)), (2, (0, n)), (3, (0, a)), (4, (0, b)), (6, (0, (-1))), (7, (0, 0))] [] K E) else (K D4 0)) (fun D4 e6 => E D4 e6)) else (if b < n then (WP sc 186 0 D1 [(0, (1211, 1977)), (1, (0, 0)), (2, (0, a))] [] (fun D7 r8 => if r8 = 0 then (WP sc 167 0 D7 [(0, (1211, 1977)), (1, (0, 1)), (2, (0, 1))] [] (fun D10 r11 => if r11 = 0 then (WP sc 209 145 D10 [(0, (1211, 1977)), (1, (0, kd)), (2, (0, n)), (3, (0, a)), (4, (0, b)), (6, (0, (-1))), (7, (0, 0))] [] K E) else (K D10 0)) (fun D10 e12 => E D10 e12)) else (WP sc 187 0 D7 [(0, (1211, 1977)), (1, (0, kd)), (2, (0, w32 (a + 1))), (3, (0, b)), (4, (0, 0)), (5, (0, a))] [] (fun D13 r14 => if r14 = 0 then (WP sc 167 0 D13 [(0, (1211, 1977)), (1, (0, 1)), (2, (0, 1))] [] (fun D16 r17 => if r17 = 0 then (WP sc 209 145 D16 [(0, (1211, 1977)), (1, (0, kd)), (2, (0, n)), (3, (0, a)), (4, (0, b)), (6, (0, (-1))), (7, (0, 0))] [] K E) else (K D16 0)) (fun D16 e18 => E D16 e18)) else (WP sc 188 0 D13 [(0, (1211, 1977)), (1, (0, w32 (b + 1))), (2, (0, n)), (3, (0, 40))] [] (fun D19 r20 => if r20 = 0 then (WP sc 167 0 D19 [(0, (1211, 1977)), (1, (0, 1)), (2, (0, 1))] [] (fun D22 r23 => if r23 = 0 then (WP sc 209 145 D22 [(0, (1211, 1977)), (1, (0, kd)), (2, (0, n)), (3, (0, a)), (4, (0, b)), (6, (0, (-1))), (7, (0, 0))] [] K E) else (K D22 0)) (fun D22 e24 => E D22 e24)) else (WP sc 167 0 D19 [(0, (1211, 1977)), (1, (0, 0)), (2, (0, 1))] [] (fun D25 r26 => if r26 = 0 then (WP sc 209 145 D25 [(0, (1211, 1977)), (1, (0, kd)), (2, (0, n)), (3, (0, a)), (4, (0, b)), (6, (0, (-1))), (7, (0, 0))] [] K E) else (K D25 0)) (fun D25 e27 => E D25 e27))) (fun D19 e21 => E D19 e21))) (fun D13 e15 => E D13 e15))) (fun D7 e9 => E D7 e9)) else (WP sc 167 0 D1 [(0, (1211, 1977)), (1, (0, 1)), (2, (0, 1))] [] (fun D28 r29 => if r29 = 0 then (WP sc 209 145 D28 [(0, (1211, 1977)), (1, (0, kd)), (2, (0, n)), (3, (0, a)), (4, (0, b)), (6, (0, (-1))), (7, (0, 0))] [] K E) else (K D28 0)) (fun D28 e30 => E D28 e30)))) (fun D1 e3 => E D1 e3) := by
  have no : ¬ ((0 ≤ kd ∧ kd ≤ 4) ∧ famT (D 1978) n kd a b) → WP sc 167 0 D [(0, (1211, 1977)), (1, (0, 1)), (2, (0, 1))] [] (fun D4 r5 => if r5 = 0 then (WP sc 209 145 D4 [(0, (1211, 1977)), (1, (0, kd)), (2, (0, n)), (3, (0, a)), (4, (0, b)), (6, (0, (-1))), (7, (0, 0))] [] K E) else (K D4 0)) (fun D4 e6 => E D4 e6) := fun h => c_fails1 (by
    rw [if_neg (by omega)]; exact hB h)
  refine c_within (fun hk => ?_) (fun hk => ?_)
  · rw [if_neg (by omega)]
    by_cases e : b < n
    · rw [if_pos e, w32_id (x := a + 1) (by omega) (by omega), w32_id (x := b + 1) (by omega) (by omega)]
      refine m_fname (by omega) (by omega) (fun h1 => ?_) (fun h1 => ?_)
      · rw [if_neg (by omega)]
        refine m_unit (by omega) (by omega) (fun h2 => ?_) (fun h2 => ?_)
        · rw [if_neg (by omega)]
          refine m_text (by omega) (by omega) (by omega) (fun h3 => ?_) (fun h3 => ?_)
          · rw [if_neg (by omega)]
            refine c_fails0 ?_
            rw [if_pos rfl]
            refine hG hk ⟨by omega, hT2 (by omega), hT4 e, hT1, fun j u v => hT3 j u v (by omega), h1, ⟨by omega, h3⟩, ?_⟩
            rcases h2 with h2 | h2
            · exact Or.inl h2.symm
            · exact Or.inr h2
          · rw [if_pos rfl]
            exact no (fun w => h3 w.2.2.2.2.2.2.2.1.2)
        · rw [if_pos rfl]
          refine no (fun w => h2 ?_)
          rcases w.2.2.2.2.2.2.2.2 with q | q
          · exact Or.inl q.symm
          · exact Or.inr q
      · rw [if_pos rfl]
        exact no (fun w => h1 w.2.2.2.2.2.2.1)
    · rw [if_neg e]
      exact no (fun w => by have := w.2.1; omega)
  · rw [if_pos rfl]
    exact no (fun w => hk w.1)
theorem m_fam33 {kd a n : Int} (hn : 0 ≤ n ∧ n ≤ 4000) (ha : 0 ≤ a ∧ a ≤ n) (hT1 : ∀ j, 0 ≤ j → j < a → D 1978 j ≠ 1) (hT2 : a < n → D 1978 a = 1) (hB : ¬ ((0 ≤ kd ∧ kd ≤ 4) ∧ ∃ b, famT (D 1978) n kd a b) → K (wr D 1977 0 1) 0) (hG : ∀ b, (0 ≤ kd ∧ kd ≤ 4) → famT (D 1978) n kd a b → WP sc 209 145 (wr D 1977 0 0) [(0, (1211, 1977)), (1, (0, kd)), (2, (0, n)), (3, (0, a)), (4, (0, b)), (6, (0, -1)), (7, (0, 0))] [] K E) : ∀ (m : Nat) (b : Int), n + 1 - b = (m : Int) → a < b → (∀ j, a < j → j < b → j < n → D 1978 j ≠ 1) → WP sc 209 33 D [(0, (1211, 1977)), (1, (0, kd)), (2, (0, n)), (3, (0, a)), (4, (0, b))] [] K E := by
  intro m
  have uB : ∀ b, (∀ j, a < j → j < b → j < n → D 1978 j ≠ 1) → (b < n → D 1978 b = 1) → (b ≤ n + 1) → a < b → ¬ ((0 ≤ kd ∧ kd ≤ 4) ∧ famT (D 1978) n kd a b) → ¬ ((0 ≤ kd ∧ kd ≤ 4) ∧ ∃ b, famT (D 1978) n kd a b) := fun b h1 h2 h3 h4 hno ⟨k, b', hb'⟩ => by
    have q := hb'.1
    have e : b' = b := by
      by_cases u : b' < b
      · exact absurd hb'.2.2.1 (h1 b' (by omega) u (by omega))
      · by_cases v : b < b'
        · exact absurd (h2 (by omega)) (hb'.2.2.2.2.1 b h4 v)
        · omega
    rw [e] at hb'
    exact hno ⟨k, hb'⟩
  induction m with
  | zero =>
    intro b hm hb hj
    refine v209_33 ?_
    rw [if_neg (by omega)]
    exact m_famchk hn (by omega) hT1 hT2 hj (by omega) (fun h => hB (uB b hj (by omega) (by omega) hb h)) (hG b)
  | succ m ih =>
    intro b hm hb hj
    refine v209_33 ?_
    by_cases e : b < n
    · rw [if_pos e]
      refine ⟨by omega, ?_⟩
      by_cases e1 : D 1978 b = 1
      · rw [if_pos e1]
        exact m_famchk hn (by omega) hT1 hT2 hj (fun _ => e1) (fun h => hB (uB b hj (fun _ => e1) (by omega) hb h)) (hG b)
      · rw [if_neg e1, w32_id (x := b + 1) (by omega) (by omega)]
        refine ih (b + 1) (by omega) (by omega) (fun j u v w => ?_)
        by_cases e2 : j = b
        · rw [e2]; exact e1
        · exact hj j u (by omega) w
    · rw [if_neg e]
      exact m_famchk hn (by omega) hT1 hT2 hj (by omega) (fun h => hB (uB b hj (by omega) (by omega) hb h)) (hG b)
theorem m_fam7 {kd n : Int} (hn : 0 ≤ n ∧ n ≤ 4000) (hB : ¬ ((0 ≤ kd ∧ kd ≤ 4) ∧ ∃ a b, famT (D 1978) n kd a b) → K (wr D 1977 0 1) 0) (hG : ∀ a b, (0 ≤ kd ∧ kd ≤ 4) → famT (D 1978) n kd a b → WP sc 209 145 (wr D 1977 0 0) [(0, (1211, 1977)), (1, (0, kd)), (2, (0, n)), (3, (0, a)), (4, (0, b)), (6, (0, -1)), (7, (0, 0))] [] K E) : ∀ (m : Nat) (a : Int), n - a = (m : Int) → 0 ≤ a → (∀ j, 0 ≤ j → j < a → D 1978 j ≠ 1) → WP sc 209 7 D [(0, (1211, 1977)), (1, (0, kd)), (2, (0, n)), (3, (0, a))] [] K E := by
  intro m
  have go : ∀ a, 0 ≤ a → a ≤ n → (∀ j, 0 ≤ j → j < a → D 1978 j ≠ 1) → (a < n → D 1978 a = 1) → WP sc 209 33 D [(0, (1211, 1977)), (1, (0, kd)), (2, (0, n)), (3, (0, a)), (4, (0, w32 (a + 1)))] [] K E := fun a h1 h2 h3 h4 => by
    rw [w32_id (x := a + 1) (by omega) (by omega)]
    refine m_fam33 hn ⟨h1, h2⟩ h3 h4 (fun h => hB (fun ⟨k, a', b, hf⟩ => h ⟨k, b, ?_⟩)) (hG a) (n - a).toNat (a + 1) (by omega) (by omega) (fun j u v => by omega)
    have q := hf.1
    have e : a' = a := by
      by_cases u : a' < a
      · exact absurd hf.2.1 (h3 a' q.1 u)
      · by_cases v : a < a'
        · exact absurd (h4 (by omega)) (hf.2.2.2.1 a h1 v)
        · omega
    rw [← e]; exact hf
  induction m with
  | zero =>
    intro a hm ha hj
    refine v209_7 ?_
    rw [if_neg (by omega)]
    exact go a ha (by omega) hj (by omega)
  | succ m ih =>
    intro a hm ha hj
    refine v209_7 ?_
    rw [if_pos (by omega)]
    refine ⟨by omega, ?_⟩
    by_cases e1 : D 1978 a = 1
    · rw [if_pos e1]
      exact go a ha (by omega) hj (fun _ => e1)
    · rw [if_neg e1, w32_id (x := a + 1) (by omega) (by omega)]
      refine ih (a + 1) (by omega) (by omega) (fun j u v => ?_)
      by_cases e2 : j = a
      · rw [e2]; exact e1
      · exact hj j u (by omega)
theorem m_family {kd n f : Int} (hnn : D 1977 2 = n) (hn : 0 ≤ n ∧ n ≤ 4000) (hf : D 1979 0 = f ∧ 0 ≤ f ∧ f ≤ 8) (hg : ∀ k, 0 ≤ k → k < f → nzP D k ∧ (0 ≤ D 1984 k ∧ D 1984 k ≤ 8) ∧ (0 ≤ D 1986 k ∧ D 1986 k ≤ 40)) (hu : unq D) (hB : ¬ ((0 ≤ kd ∧ kd ≤ 4) ∧ ∃ a b, famT (D 1978) n kd a b) → ∀ D', mfl (wr D 1977 2 0) D' f 1 → K D' 0) (hL : ∀ a b r D', (0 ≤ kd ∧ kd ≤ 4) → famT (D 1978) n kd a b → (0 ≤ r ∧ r < f) → mlk D kd a b n r → mfl (wr D 1977 2 0) D' f 0 → K D' r) (hU : ∀ a b, (0 ≤ kd ∧ kd ≤ 4) → famT (D 1978) n kd a b → (∀ k, 0 ≤ k → k < f → ¬ mlk D kd a b n k) → (∃ k, (0 ≤ k ∧ k < f) ∧ clM D kd a k) → ∀ D', mfl (wr D 1977 2 0) D' f 2 → K D' 0) (hS : ∀ a b, (0 ≤ kd ∧ kd ≤ 4) → famT (D 1978) n kd a b → (∀ k, 0 ≤ k → k < f → ¬ mlk D kd a b n k) → (¬ ∃ k, (0 ≤ k ∧ k < f) ∧ clM D kd a k) → f = 8 → ∀ D', mfl (wr D 1977 2 0) D' f 3 → K D' 0) (hG : ∀ a b, (0 ≤ kd ∧ kd ≤ 4) → famT (D 1978) n kd a b → (∀ k, 0 ≤ k → k < f → ¬ mlk D kd a b n k) → (¬ ∃ k, (0 ≤ k ∧ k < f) ∧ clM D kd a k) → f < 8 → ∀ D', mnP (wr (wr D 1977 2 0) 1977 0 0) D' f kd a b n → K D' f) : WP sc 209 0 D [(0, (1211, 1977)), (1, (0, kd))] [] K E := by
  refine v209_0 (v170_0 ?_)
  rw [hnn]
  have w78 : (wr D 1977 2 0) 1978 = D 1978 := funext (fun j => wr_ne (by omega))
  have m2 : ∀ D' t, mfl (wr (wr D 1977 2 0) 1977 0 0) D' f t → mfl (wr D 1977 2 0) D' f t := fun D' t h => ⟨h.1, fun j u => by rw [h.2.1 j u, wr_ni u], fun x j u v => by rw [h.2.2 x j u v, wr_ne u]⟩
  have ml : ∀ a b k, mlk (wr (wr D 1977 2 0) 1977 0 0) kd a b n k ↔ mlk D kd a b n k := fun a b k => by
    unfold mlk msmP
    simp only [wr_ne (D := D) (a := 1977) (i := 2) (v := 0) (b := 1978) (by omega), wr_ne (a := 1977) (b := 1978) (by omega), wr_ne (a := 1977) (b := 1980) (by omega), wr_ne (a := 1977) (b := 1981) (by omega), wr_ne (a := 1977) (b := 1982) (by omega), wr_ne (a := 1977) (b := 1983) (by omega), wr_ne (a := 1977) (b := 1984) (by omega), wr_ne (a := 1977) (b := 1985) (by omega), wr_ne (a := 1977) (b := 1986) (by omega)]
  have cl : ∀ a k, clM (wr (wr D 1977 2 0) 1977 0 0) kd a k ↔ clM D kd a k := fun a k => by
    unfold clM nmf
    rw [wr_ne (by omega), wr_ne (by omega), wr_ne (by omega), wr_ne (by omega)]
    exact clF_ext (fun j _ _ => by rw [wr_ne (by omega), wr_ne (by omega)]) (fun j _ _ => by rw [wr_ne (by omega), wr_ne (by omega)])
  refine m_fam7 hn (fun h => hB (by rw [w78] at h; exact h) _ mfl_wr) (fun a b hk hfam => ?_) n.toNat 0 (by omega) (by omega) (fun j u v => by omega)
  rw [w78] at hfam
  refine m_fam145 (f := f) ⟨by rw [wr_ne (by omega), wr_ne (by omega)]; exact hf.1, hf.2⟩ hn.2 wr_self (fun k u v => ?_) (unq_fr (fun x j u => by rw [wr_ne (by omega), wr_ne (by omega)]) hu) (by rw [show (wr (wr D 1977 2 0) 1977 0 0) 1978 = D 1978 from funext (fun j => by rw [wr_ne (by omega), wr_ne (by omega)])]; exact hfam) (fun r D' u1 u2 u3 => hL a b r D' hk hfam u1 ((ml _ _ _).mp u2) (m2 _ _ u3)) (fun u1 u2 D' u3 => hU a b hk hfam (fun k x y z => u1 k x y ((ml _ _ _).mpr z)) ?_ D' (m2 _ _ u3)) (fun u1 u2 u4 D' u3 => hS a b hk hfam (fun k x y z => u1 k x y ((ml _ _ _).mpr z)) (fun ⟨k, k1, k2⟩ => u2 ⟨k, k1, (cl _ _).mpr k2⟩) u4 D' (m2 _ _ u3)) (fun u1 u2 u4 D' u3 => hG a b hk hfam (fun k x y z => u1 k x y ((ml _ _ _).mpr z)) (fun ⟨k, k1, k2⟩ => u2 ⟨k, k1, (cl _ _).mpr k2⟩) u4 D' ?_) f.toNat 0 (-1) (by omega) (by omega) (Or.inl ⟨rfl, fun j u v => by omega⟩)
  · have := hg k u v
    unfold nzP at this ⊢
    simp only [wr_ne (a := 1977) (b := 1982) (by omega), wr_ne (a := 1977) (b := 1984) (by omega), wr_ne (a := 1977) (b := 1986) (by omega)]
    exact this
  · obtain ⟨k, k1, k2⟩ := u2
    exact ⟨k, k1, (cl _ _).mp k2⟩
  · have e : wr (wr (wr D 1977 2 0) 1977 0 0) 1977 0 0 = wr (wr D 1977 2 0) 1977 0 0 := by
      funext x j
      simp only [wr]
      split <;> rfl
    rw [e] at u3
    exact u3
end LFA
