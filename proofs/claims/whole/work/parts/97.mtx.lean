/-! texts on the other side; states of a family -/
section MTX
variable {sc : Nat × (Nat → Int32)} {D D' : tD} {K : tD → Int → Prop} {E : tD → Nat → Prop} {s c i : Int}
theorem m_tb {b : Int} (hT : txt b → K D 1) (hF : ¬ txt b → K D 0) : WP sc 184 0 D [(0, (0, b))] [] K E := by
  refine v184_0 ?_
  unfold txt at hT hF
  split
  · exact hT (by omega)
  split
  · exact hF (by omega)
  split
  · exact hF (by omega)
  · exact hT (by omega)
def mtxP (D : tD) (a b m : Int) : Prop := b - a ≤ m ∧ ∀ j, a ≤ j → j < b → txt (D 1978 j)
theorem m_text1 {a b m : Int} (ha : 0 ≤ a) (hb : b ≤ 4000) (hT : mtxP D a b m → K D 1) (hF : ¬ mtxP D a b m → K D 0) (k g : Int) (hk : a ≤ k) (hg : g = 0 ∨ g = 1) (h0 : g = 0 → ¬ mtxP D a b m) (h1 : g = 1 → b - a ≤ m ∧ ∀ j, a ≤ j → j < k → txt (D 1978 j)) : WP sc 188 17 D [(0, (1211, 1977)), (2, (0, b)), (4, (0, g)), (5, (0, k))] [] K E := by
  refine v188_17 ?_
  split
  · rename_i hlt
    rw [w32_id (by omega) (by omega)]
    split
    · rename_i q
      exact m_text1 ha hb hT hF (k + 1) 0 (by omega) (Or.inl rfl) (fun _ => h0 q) (fun e => by omega)
    · rename_i q
      have h2 := h1 (by omega)
      refine ⟨by omega, m_tb (fun ht => ?_) (fun ht => ?_)⟩
      · rw [if_neg (by omega)]
        refine m_text1 ha hb hT hF (k + 1) 1 (by omega) (Or.inr rfl) (fun e => by omega) (fun _ => ⟨h2.1, fun j x y => ?_⟩)
        by_cases e : j = k
        · rw [e]; exact ht
        · exact h2.2 j x (by omega)
      · rw [if_pos rfl]
        exact m_text1 ha hb hT hF (k + 1) 0 (by omega) (Or.inl rfl) (fun _ w => ht (w.2 k hk hlt)) (fun e => by omega)
  · rename_i hge
    refine tbl_of hg ?_
    rcases hg with rfl | rfl
    · exact hF (h0 rfl)
    · have h2 := h1 rfl
      exact hT ⟨h2.1, fun j x y => h2.2 j x (by omega)⟩
termination_by (b - k).toNat
decreasing_by all_goals omega
theorem m_text {a b m : Int} (ha : 0 ≤ a) (hb : -1 ≤ b ∧ b ≤ 4000) (ha2 : a ≤ 4001) (hT : mtxP D a b m → K D 1) (hF : ¬ mtxP D a b m → K D 0) : WP sc 188 0 D [(0, (1211, 1977)), (1, (0, a)), (2, (0, b)), (3, (0, m))] [] K E := by
  refine v188_0 ?_
  rw [w32_id (by omega) (by omega)]
  split
  · exact m_text1 ha hb.2 hT hF a 0 (by omega) (Or.inl rfl) (fun _ w => by have := w.1; omega) (fun e => by omega)
  · exact m_text1 ha hb.2 hT hF a 1 (by omega) (Or.inr rfl) (fun e => by omega) (fun _ => ⟨by omega, fun j x y => by omega⟩)
def msmP (D : tD) (arr off n a b : Int) : Prop := n = b - a ∧ ∀ j, 0 ≤ j → j < n → D arr (off + j) = D 1978 (a + j)
theorem m_same1 {arr off n a b : Int} (ho : 0 ≤ off ∧ off + n ≤ ln arr ∧ off ≤ 100000) (hn : n ≤ 4000) (ha : 0 ≤ a) (hb : b ≤ 4000) (hT : msmP D arr off n a b → K D 1) (hF : ¬ msmP D arr off n a b → K D 0) (k g : Int) (hk : 0 ≤ k) (hg : g = 0 ∨ g = 1) (h0 : g = 0 → ¬ msmP D arr off n a b) (h1 : g = 1 → n = b - a ∧ ∀ j, 0 ≤ j → j < k → D arr (off + j) = D 1978 (a + j)) : WP sc 207 19 D [(0, (1211, 1977)), (1, (1000, arr)), (2, (0, off)), (3, (0, n)), (4, (0, a)), (6, (0, g)), (7, (0, k))] [] K E := by
  have fin : ∀ (_ : g = 0 ∨ n ≤ k), tbl g (K D g) := fun hh => by
    refine tbl_of hg ?_
    rcases hg with rfl | rfl
    · exact hF (h0 rfl)
    · have h2 := h1 rfl
      exact hT ⟨h2.1, fun j x y => h2.2 j x (by omega)⟩
  refine v207_19 ?_
  split
  · rename_i hlt
    split
    · rename_i q
      exact fin (Or.inl q)
    · rename_i q
      have h2 := h1 (by omega)
      rw [w32_id (x := off + k) (by omega) (by omega), w32_id (x := a + k) (by omega) (by omega), w32_id (x := k + 1) (by omega) (by omega)]
      refine ⟨by omega, by omega, ?_⟩
      split
      · rename_i he
        refine m_same1 ho hn ha hb hT hF (k + 1) 1 (by omega) (Or.inr rfl) (fun e => by omega) (fun _ => ⟨h2.1, fun j x y => ?_⟩)
        by_cases e : j = k
        · rw [e]; exact he
        · exact h2.2 j x (by omega)
      · rename_i he
        exact m_same1 ho hn ha hb hT hF (k + 1) 0 (by omega) (Or.inl rfl) (fun _ w => he (w.2 k hk hlt)) (fun e => by omega)
  · rename_i hge
    exact fin (Or.inr (by omega))
termination_by (n - k).toNat
decreasing_by all_goals omega
theorem m_same {arr off n a b : Int} (ho : 0 ≤ off ∧ off + n ≤ ln arr ∧ off ≤ 100000) (hn : n ≤ 4000) (ha : 0 ≤ a ∧ a ≤ 4001) (hb : -1 ≤ b ∧ b ≤ 4000) (hT : msmP D arr off n a b → K D 1) (hF : ¬ msmP D arr off n a b → K D 0) : WP sc 207 0 D [(0, (1211, 1977)), (1, (1000, arr)), (2, (0, off)), (3, (0, n)), (4, (0, a)), (5, (0, b))] [] K E := by
  refine v207_0 ?_
  rw [w32_id (by omega) (by omega)]
  split
  · rename_i h
    exact m_same1 ho hn ha.1 hb.2 hT hF 0 1 (by omega) (Or.inr rfl) (fun e => by omega) (fun _ => ⟨h, fun j x y => by omega⟩)
  · rename_i h
    exact m_same1 ho hn ha.1 hb.2 hT hF 0 0 (by omega) (Or.inl rfl) (fun _ w => h w.1) (fun e => by omega)
/-- one of the first states is a row -/
theorem c_hasSt1 {f n r : Int} (hs : s = 0 ∨ s = 1) (hf : 0 ≤ f ∧ f < 9) (hn : n ≤ 4) (hr : ∀ k, 0 ≤ k → k < n → 0 ≤ D (aF s f + 9 + 2 * k) 1 ∧ D (aF s f + 9 + 2 * k) 1 ≤ 12) (hr2 : D r 1 ≤ ln (r + 1)) (hT : (∃ k, 0 ≤ k ∧ k < n ∧ eqr D (aF s f + 9 + 2 * k) r) → K D 1) (hF : (¬ ∃ k, 0 ≤ k ∧ k < n ∧ eqr D (aF s f + 9 + 2 * k) r) → K D 0) (k : Int) (hk : 0 ≤ k) (hj : ∀ j, 0 ≤ j → j < k → ¬ eqr D (aF s f + 9 + 2 * j) r) : WP sc 69 2 D [(0, (1204, aF s f)), (1, (0, n)), (2, (1207, r)), (3, (0, k))] [] K E := by
  have l8 := ln_sts hs hf
  have no : n ≤ k → K D 0 := fun h => hF (fun ⟨j, x, y, z⟩ => hj j x (by omega) z)
  refine v69_2 ?_
  split
  · rename_i hlt
    rw [if_pos (by omega), l8, show aF s f + 8 + 1 + 2 * k = aF s f + 9 + 2 * k from by omega]
    have l10 := ln_st (k := k) hs hf (by omega)
    have h1 := hr k hk hlt
    refine ⟨by omega, c_like (by rw [show aF s f + 9 + 2 * k + 1 = aF s f + 10 + 2 * k from by omega, l10]; omega) hr2 (by omega) (fun he => ?_) (fun he => ?_)⟩
    · rw [if_neg (by omega)]
      exact hT ⟨k, hk, hlt, he⟩
    · rw [if_pos rfl, w32_id (by omega) (by omega)]
      refine c_hasSt1 hs hf hn hr hr2 hT hF (k + 1) (by omega) (fun j x y => ?_)
      by_cases e : j = k
      · rw [e]; exact he
      · exact hj j x (by omega)
  · exact no (by omega)
termination_by (n - k).toNat
decreasing_by omega
theorem c_hasSt {f n r : Int} (hs : s = 0 ∨ s = 1) (hf : 0 ≤ f ∧ f < 9) (hn : n ≤ 4) (hr : ∀ k, 0 ≤ k → k < n → 0 ≤ D (aF s f + 9 + 2 * k) 1 ∧ D (aF s f + 9 + 2 * k) 1 ≤ 12) (hr2 : D r 1 ≤ ln (r + 1)) (hT : (∃ k, 0 ≤ k ∧ k < n ∧ eqr D (aF s f + 9 + 2 * k) r) → K D 1) (hF : (¬ ∃ k, 0 ≤ k ∧ k < n ∧ eqr D (aF s f + 9 + 2 * k) r) → K D 0) : WP sc 69 0 D [(0, (1204, aF s f)), (1, (0, n)), (2, (1207, r))] [] K E :=
  v69_0 (c_hasSt1 hs hf hn hr hr2 hT hF 0 (by omega) (fun j x y => by omega))
/-- a state is kept on the other side -/
theorem m_keepSt1 {f n p : Int} (hf : 0 ≤ f ∧ f < 16) (hp : 0 ≤ p ∧ p < 64) (hn : 0 ≤ n ∧ n ≤ 12) (D : tD) (h91 : 0 ≤ D 1991 f ∧ D 1991 f ≤ 4) (k : Int) (hk : 0 ≤ k ∧ k ≤ n) (hK : ∀ D', (∀ j, 0 ≤ j → k ≤ j → j < n → D' 1989 (12 * p + j) = D 1978 j) → (∀ j, ¬ (12 * p + k ≤ j ∧ j < 12 * p + n) → D' 1989 j = D 1989 j) → (∀ j, D' 1991 j = if j = f then D 1991 f + 1 else D 1991 j) → (∀ a j, a ≠ 1989 → a ≠ 1991 → D' a j = D a j) → K D' 0) : WP sc 215 25 D [(0, (1211, 1977)), (1, (0, f)), (2, (0, 0)), (3, (0, n)), (4, (0, p)), (5, (0, k))] [] K E := by
  refine v215_25 ?_
  split
  · rename_i hlt
    rw [w32_id (x := 12 * p) (by omega) (by omega), w32_id (x := 12 * p + k) (by omega) (by omega), w32_id (x := 12 * p + k - 0) (by omega) (by omega), w32_id (x := k + 1) (by omega) (by omega)]
    refine ⟨by omega, by omega, ?_⟩
    refine m_keepSt1 hf hp hn _ (by rw [wr_ne (by omega)]; exact h91) (k + 1) (by omega) (fun D' g1 g2 g3 g4 => hK D' (fun j x y z => ?_) (fun j x => ?_) (fun j => ?_) (fun a j u v => ?_))
    · by_cases e : j = k
      · rw [e, g2 _ (by omega), show 12 * p + k - 0 = 12 * p + k from by omega, wr_self]
      · rw [g1 j x (by omega) z, wr_ne (by omega)]
    · rw [g2 j (by omega), wr_ni (by omega)]
    · rw [g3, wr_ne (by omega)]
      split
      · rfl
      · rw [wr_ne (by omega)]
    · rw [g4 a j u v, wr_ne u]
  · rename_i hge
    rw [w32_id (by omega) (by omega)]
    refine ⟨by omega, by omega, hK _ (fun j x y z => by omega) (fun j x => wr_ne (by omega)) (fun j => ?_) (fun a j u v => wr_ne v)⟩
    simp [wr]
termination_by (n - k).toNat
decreasing_by omega
end MTX
