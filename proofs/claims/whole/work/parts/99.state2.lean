/-! the law's loop: state, the other side, and both -/
section STB
variable {sc : Nat × (Nat → Int32)} {D D' : tD} {K : tD → Int → Prop} {E : tD → Nat → Prop} {s c i : Int}
def mstP (D D' : tD) (f n : Int) : Prop := D' 1977 0 = 0 ∧ (∀ j, j ≠ 0 → D' 1977 j = D 1977 j) ∧ (∀ j, D' 1990 j = if j = 4 * f + D 1991 f then n else D 1990 j) ∧ (∀ j, 0 ≤ j → j < n → D' 1989 (12 * (4 * f + D 1991 f) + j) = D 1978 j) ∧ (∀ j, ¬ (12 * (4 * f + D 1991 f) ≤ j ∧ j < 12 * (4 * f + D 1991 f) + n) → D' 1989 j = D 1989 j) ∧ (∀ j, D' 1991 j = if j = f then D 1991 f + 1 else D 1991 j) ∧ ∀ a j, a ≠ 1977 → a ≠ 1989 → a ≠ 1990 → a ≠ 1991 → D' a j = D a j
theorem m_state94 {f n g : Int} (hf : g = 1 → 0 ≤ f ∧ f < 8) (hn : 0 ≤ n ∧ (g = 1 → n ≤ 12)) (h91 : g = 1 → 0 ≤ D 1991 f ∧ D 1991 f ≤ 4) (hg : g = 0 ∨ g = 1) (hT : g = 1 → D 1991 f ≠ 4 → D 1992 f = 0 → ∀ D', mstP D D' f n → K D' (D 1991 f + 1)) (hF : g = 0 → K (wr D 1977 0 1) 0) (hN : g = 1 → ¬ (D 1991 f ≠ 4 ∧ D 1992 f = 0) → K (wr (wr D 1977 0 0) 1977 0 2) 0) : WP sc 214 94 D [(0, (1211, 1977)), (1, (0, f)), (2, (0, n)), (3, (0, g))] [] K E := by
  refine v214_94 ?_
  rcases hg with rfl | rfl
  · rw [if_pos rfl]
    refine c_fails1 ?_
    rw [if_neg (by omega)]
    exact hF rfl
  · have hf2 := hf rfl
    have hn2 := hn.2 rfl
    have h912 := h91 rfl
    rw [if_neg (by omega)]
    refine c_fails0 ?_
    rw [if_pos rfl, wr_ne (show (1991 : Int) ≠ 1977 by omega), wr_ne (show (1992 : Int) ≠ 1977 by omega)]
    refine ⟨by omega, ?_⟩
    split
    · rename_i h4
      refine c_fails1 ?_
      rw [if_neg (by omega)]
      exact hN rfl (fun w => w.1 h4)
    · rename_i h4
      refine ⟨by omega, fun _ => ?_⟩
      split
      · rename_i hu
        refine c_fails0 ?_
        rw [if_pos rfl]
        refine v215_0 ?_
        have e0 : ∀ a j, a ≠ 1977 → (wr (wr D 1977 0 0) 1977 0 0) a j = D a j := fun a j u => by rw [wr_ne u, wr_ne u]
        rw [e0 1991 _ (by omega), w32_id (x := 4 * f) (by omega) (by omega), w32_id (x := 4 * f + D 1991 f) (by omega) (by omega), w32_id (x := n - 0) (by omega) (by omega)]
        refine ⟨by omega, by omega, ?_⟩
        have e1 : ∀ a j, a ≠ 1977 → a ≠ 1990 → (wr (wr (wr D 1977 0 0) 1977 0 0) 1990 (4 * f + D 1991 f) (n - 0)) a j = D a j := fun a j u v => by rw [wr_ne v, e0 a j u]
        refine m_keepSt1 (by omega) (by omega) (by omega) _ (by rw [e1 _ _ (by omega) (by omega)]; omega) 0 (by omega) (fun D2 g1 g2 g3 g4 => ?_)
        refine ⟨by omega, ?_⟩
        rw [e1 1991 f (by omega) (by omega)] at g3
        have hp : mstP D D2 f n := by
          refine ⟨?_, fun j u => ?_, fun j => ?_, fun j x y => ?_, fun j u => ?_, fun j => ?_, fun a j u1 u2 u3 u4 => ?_⟩
          · rw [g4 _ _ (by omega) (by omega), wr_ne (by omega), wr_self]
          · rw [g4 _ _ (by omega) (by omega), wr_ne (by omega), wr_ni u, wr_ni u]
          · rw [g4 _ _ (by omega) (by omega)]
            by_cases e : j = 4 * f + D 1991 f
            · rw [e, wr_self, if_pos rfl]; omega
            · rw [wr_ni e, if_neg e, e0 _ _ (by omega)]
          · rw [g1 j x x y, e1 _ _ (by omega) (by omega)]
          · rw [g2 j (by omega), e1 _ _ (by omega) (by omega)]
          · rw [g3]
            split
            · rfl
            · rw [e1 _ _ (by omega) (by omega)]
          · rw [g4 a j u2 u4, e1 a j u1 u3]
        rw [hp.2.2.2.2.2.1, if_pos rfl]
        exact hT rfl h4 hu D2 hp
      · rename_i hu
        refine c_fails1 ?_
        rw [if_neg (by omega)]
        exact hN rfl (fun w => hu w.2)
theorem m_state34 {f n : Int} (hf : 0 ≤ f ∧ f < 8) (hn : 0 ≤ n ∧ n ≤ 4000) (h91 : 0 ≤ D 1991 f ∧ D 1991 f ≤ 4) (h90 : ∀ k, 0 ≤ k → k < D 1991 f → 0 ≤ D 1990 (4 * f + k) ∧ D 1990 (4 * f + k) ≤ 12) (hx : mtxP D 0 n 12) (hT : (¬ ∃ k, 0 ≤ k ∧ k < D 1991 f ∧ msmP D 1989 (12 * (4 * f + k)) (D 1990 (4 * f + k)) 0 n) → WP sc 214 94 D [(0, (1211, 1977)), (1, (0, f)), (2, (0, n)), (3, (0, 1))] [] K E) (hF : (∃ k, 0 ≤ k ∧ k < D 1991 f ∧ msmP D 1989 (12 * (4 * f + k)) (D 1990 (4 * f + k)) 0 n) → WP sc 214 94 D [(0, (1211, 1977)), (1, (0, f)), (2, (0, n)), (3, (0, 0))] [] K E) (k : Int) (hk : 0 ≤ k) (hj : ∀ j, 0 ≤ j → j < k → ¬ msmP D 1989 (12 * (4 * f + j)) (D 1990 (4 * f + j)) 0 n) : WP sc 214 34 D [(0, (1211, 1977)), (1, (0, f)), (2, (0, n)), (3, (0, 1)), (4, (0, k))] [] K E := by
  have l89 : ln 1989 = 768 := rfl
  refine v214_34 ?_
  rw [if_neg (by omega)]
  refine ⟨by omega, ?_⟩
  split
  · rename_i hlt
    have h1 := h90 k hk hlt
    rw [w32_id (x := 4 * f) (by omega) (by omega), w32_id (x := 4 * f + k) (by omega) (by omega), w32_id (x := 12 * (4 * f + k)) (by omega) (by omega), w32_id (x := k + 1) (by omega) (by omega)]
    refine ⟨by omega, m_same (by rw [l89]; omega) (by omega) (by omega) (by omega) (fun he => ?_) (fun he => ?_)⟩
    · rw [if_neg (by omega)]
      refine v214_34 ?_
      rw [if_pos rfl]
      exact hF ⟨k, hk, hlt, he⟩
    · rw [if_pos rfl]
      refine m_state34 hf hn h91 h90 hx hT hF (k + 1) (by omega) (fun j x y => ?_)
      by_cases e : j = k
      · rw [e]; exact he
      · exact hj j x (by omega)
  · exact hT (fun ⟨j, x, y, z⟩ => hj j x (by omega) z)
termination_by (D 1991 f - k).toNat
decreasing_by omega
theorem m_state {f n : Int} (hnn : D 1977 2 = n) (hn : 0 ≤ n ∧ n ≤ 4000) (h79 : 0 ≤ D 1979 0 ∧ D 1979 0 ≤ 8) (h91 : 0 ≤ f → f < D 1979 0 → 0 ≤ D 1991 f ∧ D 1991 f ≤ 4) (h90 : 0 ≤ f → f < D 1979 0 → ∀ k, 0 ≤ k → k < D 1991 f → 0 ≤ D 1990 (4 * f + k) ∧ D 1990 (4 * f + k) ≤ 12) (hT : stM D f n → D 1991 f ≠ 4 → D 1992 f = 0 → ∀ D', mstP (wr D 1977 2 0) D' f n → K D' (D 1991 f + 1)) (hF : ¬ stM D f n → K (wr (wr D 1977 2 0) 1977 0 1) 0) (hN : stM D f n → ¬ (D 1991 f ≠ 4 ∧ D 1992 f = 0) → K (wr (wr (wr D 1977 2 0) 1977 0 0) 1977 0 2) 0) : WP sc 214 0 D [(0, (1211, 1977)), (1, (0, f))] [] K E := by
  have e0 : ∀ a j, a ≠ 1977 → (wr D 1977 2 0) a j = D a j := fun a j u => wr_ne u
  refine v214_0 (v170_0 ?_)
  rw [hnn]
  have no : ¬ stM D f n → WP sc 214 34 (wr D 1977 2 0) [(0, (1211, 1977)), (1, (0, f)), (2, (0, n)), (3, (0, 0)), (4, (0, 0))] [] K E := fun h => by
    refine v214_34 ?_
    rw [if_pos rfl]
    exact m_state94 (fun e => by omega) ⟨hn.1, fun e => by omega⟩ (fun e => by omega) (Or.inl rfl) (fun e => by omega) (fun _ => hF h) (fun e => by omega)
  refine c_isFam (by rw [e0 _ _ (by omega)]; exact h79) (fun h => ?_) (fun h => ?_)
  · rw [e0 1979 _ (by omega), e0 1980 _ (by omega)] at h
    have hk : D 1980 f = 4 := by rcases h.2 with w | w; omega; exact w
    rw [if_neg (by omega)]
    have hmx : mtxP (wr D 1977 2 0) 0 n 12 ↔ mtxP D 0 n 12 := by
      unfold mtxP
      simp only [e0 1978 _ (show (1978 : Int) ≠ 1977 by omega)]
    have hsm : ∀ k, msmP (wr D 1977 2 0) 1989 (12 * (4 * f + k)) ((wr D 1977 2 0) 1990 (4 * f + k)) 0 n ↔ msmP D 1989 (12 * (4 * f + k)) (D 1990 (4 * f + k)) 0 n := fun k => by
      unfold msmP
      simp only [e0 1989 _ (show (1989 : Int) ≠ 1977 by omega), e0 1978 _ (show (1978 : Int) ≠ 1977 by omega), e0 1990 _ (show (1990 : Int) ≠ 1977 by omega)]
    refine m_text (by omega) (by omega) (by omega) (fun hx => ?_) (fun hx => ?_)
    · rw [if_neg (by omega)]
      rw [hmx] at hx
      have h912 := h91 h.1.1 h.1.2
      refine m_state34 (by omega) hn (by rw [e0 _ _ (by omega)]; exact h912) (fun k x y => by rw [e0 1991 _ (by omega)] at y; rw [e0 1990 _ (by omega)]; exact h90 h.1.1 h.1.2 k x y) (hmx.mpr hx) (fun hno => ?_) (fun hyes => ?_) 0 (by omega) (fun j x y => by omega)
      · have hst : stM D f n := ⟨h.1, hk, hx, fun ⟨k, x, y, z⟩ => hno ⟨k, x, by rw [e0 _ _ (by omega)]; exact y, (hsm k).mpr z⟩⟩
        have hx1 := hx.1
        refine m_state94 (fun _ => by omega) ⟨hn.1, fun _ => by omega⟩ (fun _ => by rw [e0 _ _ (by omega)]; exact h912) (Or.inr rfl) (fun _ a b D2 hp => ?_) (fun e => by omega) (fun _ a => ?_)
        · rw [e0 _ _ (by omega)] at a b ⊢
          exact hT hst a b D2 hp
        · rw [e0 1991 _ (by omega), e0 1992 _ (by omega)] at a
          exact hN hst a
      · have hst : ¬ stM D f n := fun w => w.2.2.2 (by
          obtain ⟨k, x, y, z⟩ := hyes
          rw [e0 1991 _ (by omega)] at y
          exact ⟨k, x, y, (hsm k).mp z⟩)
        exact m_state94 (fun e => by omega) ⟨hn.1, fun e => by omega⟩ (fun e => by omega) (Or.inl rfl) (fun e => by omega) (fun _ => hF hst) (fun e => by omega)
    · rw [if_pos rfl]
      exact no (fun w => hx (hmx.mpr w.2.2.1))
  · rw [if_pos rfl]
    rw [e0 1979 _ (by omega), e0 1980 _ (by omega)] at h
    exact no (fun w => h ⟨w.1, Or.inr w.2.1⟩)
end STB
