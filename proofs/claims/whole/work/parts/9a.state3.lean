/-! the law's loop: state -/
section STD
variable {sc : Nat × (Nat → Int32)} {D D' : tD} {K : tD → Int → Prop} {E : tD → Nat → Prop} {s c i : Int}
/-- the tape is empty; the rest stands -/
theorem RL_clr (hR : RL RSc D c) (hc : c < 600) (h1 : D' (-1) 0 = D (-1) 0 ∨ D' (-1) 0 = D (-1) 0 + 1) (ht : D' 1 1 = 0 ∧ D' 1977 2 = 0) (hf : ∀ a j, (a = 0 ∧ j = 8) ∨ a = 3 ∨ a = 4 ∨ (a = 1957 ∧ (j = 0 ∨ j = 3)) ∨ (a = 1968 ∧ j = 0) ∨ (a = 1977 ∧ (j = 3 ∨ j = 43 ∨ j = 46)) ∨ a = 2013 → D' a j = D a j) (hs : RSc (c + 1) D') : RL RSc D' (c + 1) := by
  obtain ⟨r1, r2, r3, r4, r5, r6, r7, r8⟩ := hR
  refine ⟨?_, rowm_W ⟨fun j => hf _ _ (by omega), fun j => hf _ _ (by omega), fun j => hf _ _ (by omega), hf _ _ (by omega)⟩ r2, ?_, ?_, ?_, by omega, by omega, hs⟩
  · rw [ht.2]
    exact ⟨ht.1, by omega, by omega, fun j x y => by omega⟩
  · rw [hf 0 8 (by omega), hf 1977 3 (by omega)]; omega
  · rw [hf 1957 3 (by omega), hf 1977 46 (by omega)]; exact r4
  · rw [hf 1957 0 (by omega), hf 1968 0 (by omega)]; exact r5
/-- a call that throws and empties the tape -/
theorem RL_thrc {t : Int} (hR : RL RSc D c) (hc : c < 600) : RL RSc (wr (wr (bump (rclear D 1)) 1977 2 0) 1977 0 t) (c + 1) := by
  have r8 := hR.2.2.2.2.2.2.2
  have ne : ∀ a j, a ≠ 1 → a ≠ -1 → ¬ (a = 1977 ∧ (j = 0 ∨ j = 2)) → (wr (wr (bump (rclear D 1)) 1977 2 0) 1977 0 t) a j = D a j := fun a j u1 u2 u3 => by
    unfold rclear
    simp only [wr]
    rw [if_neg (by omega), if_neg (by omega), if_neg (by omega), if_neg (by omega), if_neg (by omega)]
  refine RL_clr hR hc (Or.inr ?_) ⟨?_, ?_⟩ (fun a j u => ne _ _ (by omega) (by omega) (by omega)) (RSc_dep _ _ (fun a j u => ?_) r8)
  · unfold rclear; simp [wr]
  · unfold rclear; simp [wr]
  · unfold rclear; simp [wr]
  · unfold depS at u
    exact ne _ _ (by omega) (by omega) (by omega)
theorem RL_thrc2 {t u : Int} (hR : RL RSc D c) (hc : c < 600) : RL RSc (wr (wr (wr (bump (rclear D 1)) 1977 2 0) 1977 0 t) 1977 0 u) (c + 1) := by
  have r8 := hR.2.2.2.2.2.2.2
  have ne : ∀ a j, a ≠ 1 → a ≠ -1 → ¬ (a = 1977 ∧ (j = 0 ∨ j = 2)) → (wr (wr (wr (bump (rclear D 1)) 1977 2 0) 1977 0 t) 1977 0 u) a j = D a j := fun a j u1 u2 u3 => by
    unfold rclear
    simp only [wr]
    rw [if_neg (by omega), if_neg (by omega), if_neg (by omega), if_neg (by omega), if_neg (by omega), if_neg (by omega)]
  refine RL_clr hR hc (Or.inr ?_) ⟨?_, ?_⟩ (fun a j u => ne _ _ (by omega) (by omega) (by omega)) (RSc_dep _ _ (fun a j u => ?_) r8)
  · unfold rclear; simp [wr]
  · unfold rclear; simp [wr]
  · unfold rclear; simp [wr]
  · unfold depS at u
    exact ne _ _ (by omega) (by omega) (by omega)
theorem kd_st_n : ((List.range 8).all fun f => (List.range 4).all fun k => Nat.beq (tkd (17 + 17 * f + 2 * k)) 2) = true := by decide +kernel
theorem kd_st {f k : Int} (hf : 0 ≤ f ∧ f < 8) (hk : 0 ≤ k ∧ k < 4) : tkd (aF 0 f + 10 + 2 * k).toNat = 2 := by
  have h := nbeq.mp (List.all_eq_true.mp (List.all_eq_true.mp kd_st_n f.toNat (List.mem_range.mpr (by omega))) k.toNat (List.mem_range.mpr (by omega)))
  rw [show (aF 0 f + 10 + 2 * k).toNat = 17 + 17 * f.toNat + 2 * k.toNat from by unfold aF; omega]
  exact h
theorem st_iff {f : Int} (hok : okD D) (hR : RL RSc D c) : stM D f (D 1977 2) ↔ stC D f := by
  obtain ⟨r1, r2, r3, r4, r5, r6, r7, r8⟩ := hR
  have h0 := r8.1
  have hn := h0.1
  rw [show (5 : Int) + 975 * 0 = 5 from rfl] at hn
  obtain ⟨q1, q2, q3, q4⟩ := r1
  have tb : ∀ j, 0 ≤ j → j < D 1977 2 → D 2 j % 256 = D 1978 j ∧ rat D 1 j = D 1978 j ∧ -128 ≤ D 2 j ∧ D 2 j ≤ 127 := fun j x y => by
    have a1 := q4 j x y
    rw [show (1 : Int) + 1 = 2 from rfl, show (0 : Int) + j = j from by omega] at a1
    have a2 := okD_byte hok (a := 2) (j := j) (by omega) (by decide +kernel) ⟨x, by rw [show ln 2 = 4000 from rfl]; omega⟩
    refine ⟨a1, ?_, a2⟩
    unfold rat
    rw [if_pos ⟨x, by omega⟩]
    exact a1
  have hx : mtxP D 0 (D 1977 2) 12 ↔ txtP D 1 0 (D 1 1) 12 := by
    unfold mtxP txtP
    rw [q1]
    constructor
    · rintro ⟨a, b⟩
      exact ⟨q2, a, fun j x y => by rw [(tb j x y).2.1]; exact b j x y⟩
    · rintro ⟨-, a, b⟩
      exact ⟨a, fun j x y => by rw [← (tb j x y).2.1]; exact b j x y⟩
  unfold stM stC
  rw [hx, ← hn.1]
  have main : ∀ (_ : 0 ≤ f ∧ f < D 5 4), (D 1980 f = D (aF 0 f) 5) ∧ (D 1991 f = D (aF 0 f) 7) ∧ ∀ k, 0 ≤ k → k < D (aF 0 f) 7 → (msmP D 1989 (12 * (4 * f + k)) (D 1990 (4 * f + k)) 0 (D 1977 2) ↔ eqr D (aF 0 f + 9 + 2 * k) 1) := fun h => by
    have hfa := h0.2.1 f h.1 (by rw [show (5 : Int) + 975 * 0 = 5 from rfl]; omega)
    have h1 := hfa.1.1
    have h7 := hfa.2.2.2.2.2.1
    rw [show 8 * (0 : Int) + f = f from by omega] at h1 h7
    refine ⟨h1.symm, h7.1.symm, fun k x y => ?_⟩
    obtain ⟨⟨w1, w2, w3, w4⟩, -⟩ := h7.2.2.2.2 k x y
    have sb : ∀ j, 0 ≤ j → j < D 1990 (4 * f + k) → D (aF 0 f + 10 + 2 * k) j % 256 = D 1989 (12 * (4 * f + k) + j) ∧ -128 ≤ D (aF 0 f + 10 + 2 * k) j ∧ D (aF 0 f + 10 + 2 * k) j ≤ 127 := fun j u v => by
      have a1 := w4 j u v
      rw [show aF 0 f + 9 + 2 * k + 1 = aF 0 f + 10 + 2 * k from by omega] at a1
      exact ⟨a1, okD_byte hok (by have : aF 0 f = 7 + 975 * 0 + 17 * f := rfl; omega) (kd_st (by omega) (by omega)) ⟨u, by rw [ln_st (s := 0) (Or.inl rfl) (by omega) (by omega)]; omega⟩⟩
    unfold msmP eqr
    rw [w1, q1, show aF 0 f + 9 + 2 * k + 1 = aF 0 f + 10 + 2 * k from by omega, show (1 : Int) + 1 = 2 from rfl]
    constructor
    · rintro ⟨a, b⟩
      refine ⟨by omega, fun j u v => ?_⟩
      have z1 := sb j u v
      have z2 := tb j u (by omega)
      have z3 := b j u v
      rw [show (0 : Int) + j = j from by omega] at z3
      omega
    · rintro ⟨a, b⟩
      refine ⟨by omega, fun j u v => ?_⟩
      have z1 := sb j u v
      have z2 := tb j u (by omega)
      have z3 := b j u v
      rw [show (0 : Int) + j = j from by omega]
      omega
  constructor
  · rintro ⟨a, b, d, e⟩
    obtain ⟨m1, m2, m3⟩ := main a
    exact ⟨a, by omega, d, fun ⟨k, x, y, z⟩ => e ⟨k, x, by omega, (m3 k x y).mpr z⟩⟩
  · rintro ⟨a, b, d, e⟩
    obtain ⟨m1, m2, m3⟩ := main a
    exact ⟨a, by omega, d, fun ⟨k, x, y, z⟩ => e ⟨k, x, by omega, (m3 k x (by omega)).mp z⟩⟩
theorem stM_fr {f n : Int} (h : ∀ a j, 1978 ≤ a → a ≤ 1991 → D' a j = D a j) : stM D' f n ↔ stM D f n := by
  unfold stM mtxP msmP
  simp only [h 1979 _ (by omega) (by omega), h 1980 _ (by omega) (by omega), h 1978 _ (by omega) (by omega), h 1991 _ (by omega) (by omega), h 1990 _ (by omega) (by omega), h 1989 _ (by omega) (by omega)]
end STD
