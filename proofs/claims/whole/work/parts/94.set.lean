/-! the law's loop: set, turn -/
section SETT
variable {sc : Nat × (Nat → Int32)} {D D' : tD} {K : tD → Int → Prop} {E : tD → Nat → Prop} {s c c' i : Int}
/-- a kept child of a kind, on the other side -/
def mkC (D : tD) (x k1 k2 : Int) : Prop := 0 ≤ x ∧ x < 24 ∧ D 1994 x ≠ 0 ∧ (D 1980 (D 1995 x) = k1 ∨ D 1980 (D 1995 x) = k2)
def mkB (D : tD) : Prop := ∀ x, 0 ≤ x → x < 24 → D 1994 x ≠ 0 → 0 ≤ D 1995 x ∧ D 1995 x < 8
theorem mkB_of (h0 : shR c D 0) : mkB D := fun x a b d => by
  have hn := h0.1
  obtain ⟨b1, b2, b3⟩ := h0.2.2.1 x a b
  rw [show 24 * (0 : Int) + x = x from by omega] at b1
  have hp := (b3 (by omega)).1
  rw [show 24 * (0 : Int) + x = x from by omega] at hp
  omega
theorem mkC_iff {x k1 k2 : Int} (h0 : shR c D 0) : mkC D x k1 k2 ↔ (kcC D x k1 ∨ kcC D x k2) := by
  have hn := h0.1
  have key : 0 ≤ x → x < 24 → D (aC 0 x) 3 = D 1994 x ∧ (D (aC 0 x) 3 = 0 ∨ D (aC 0 x) 3 = 1) ∧ (D (aC 0 x) 3 = 1 → D 1980 (D 1995 x) = D (aF 0 (D (aC 0 x) 4)) 5) := fun a b => by
    obtain ⟨b1, b2, b3⟩ := h0.2.2.1 x a b
    rw [show 24 * (0 : Int) + x = x from by omega] at b1
    refine ⟨b1, b2, fun z => ?_⟩
    have hp := (b3 z).1
    have hfa := (h0.2.1 _ hp.1 hp.2.1).1.1
    rw [show 24 * (0 : Int) + x = x from by omega] at hp
    rw [show 8 * (0 : Int) + D (aC 0 x) 4 = D (aC 0 x) 4 from by omega] at hfa
    rw [hp.2.2, show D (aC 0 x) 4 + 8 * 0 = D (aC 0 x) 4 from by omega, hfa]
  unfold mkC kcC
  constructor
  · rintro ⟨a, b, d, e⟩
    obtain ⟨q1, q2, q3⟩ := key a b
    have q4 : D (aC 0 x) 3 = 1 := by omega
    rw [q3 q4] at e
    rcases e with e | e
    · exact Or.inl ⟨a, b, q4, e⟩
    · exact Or.inr ⟨a, b, q4, e⟩
  · rintro (⟨a, b, d, e⟩ | ⟨a, b, d, e⟩)
    · obtain ⟨q1, q2, q3⟩ := key a b
      exact ⟨a, b, by omega, Or.inl (by rw [q3 d]; exact e)⟩
    · obtain ⟨q1, q2, q3⟩ := key a b
      exact ⟨a, b, by omega, Or.inr (by rw [q3 d]; exact e)⟩
theorem mkC_fr {x k1 k2 : Int} (h : ∀ a j, (1980 ≤ a ∧ a ≤ 1995) → D' a j = D a j) : mkC D' x k1 k2 ↔ mkC D x k1 k2 := by
  unfold mkC
  rw [h 1994 _ (by omega), h 1995 _ (by omega), h 1980 _ (by omega)]
theorem mkB_fr (h : ∀ a j, (1980 ≤ a ∧ a ≤ 1995) → D' a j = D a j) (hb : mkB D) : mkB D' := fun x a b d => by
  rw [h 1994 _ (by omega)] at d
  rw [h 1995 _ (by omega)]
  exact hb x a b d
theorem c_mkC {x k1 k2 : Int} (hb : mkB D) (hk : 0 ≤ k1) (hT : mkC D x k1 k2 → K D 1) (hF : ¬ mkC D x k1 k2 → K D 0) : WP sc 220 0 D [(0, (1211, 1977)), (1, (0, x)), (2, (0, k1)), (3, (0, k2))] [] K E := by
  refine v220_0 (c_within (fun hx => ?_) (fun hx => ?_))
  · rw [if_neg (by omega)]
    refine ⟨by omega, fun _ => ?_⟩
    split
    · rename_i q
      exact hF (fun w => w.2.2.1 q)
    · rename_i q
      have hbx := hb x (by omega) (by omega) q
      rw [if_neg (by omega)]
      refine ⟨by omega, by omega, ?_⟩
      split
      · rename_i z
        exact hT ⟨by omega, by omega, q, Or.inl z⟩
      · rename_i z
        refine ⟨by omega, by omega, ?_⟩
        split
        · rename_i z2
          exact hT ⟨by omega, by omega, q, Or.inr z2⟩
        · rename_i z2
          exact hF (fun w => by rcases w.2.2.2 with w2 | w2; exact z w2; exact z2 w2)
  · rw [if_pos rfl]
    exact hF (fun w => hx (by have := w.1; have := w.2.1; omega))
theorem c_set {x v : Int} (h0 : shR c D 0) (hT : kcC D x 1 → -mostN ≤ v ∧ v ≤ mostN → K (wr D (aC 0 x) 5 v) 0) (hN : ¬ kcC D x 1 → D (-1) 0 < 599000 ∧ E (bump D) 93) (hF : kcC D x 1 → ¬ (-mostN ≤ v ∧ v ≤ mostN) → D (-1) 0 < 599000 ∧ E (bump D) 90) : WP sc 13 0 D [(0, (1200, 0)), (1, (0, x)), (2, (1, v))] [] K E := by
  refine v13_0 (c_kc h0 (fun h => ?_) (fun h => ?_))
  · rw [if_neg (by unfold aC; have := h.1; omega)]
    refine c_num (fun hv => ?_) (fun hv => ?_)
    · rw [if_neg (by omega)]
      exact hT h hv
    · rw [if_pos rfl]
      exact hF h hv
  · rw [if_pos rfl]
    exact hN h
theorem m_set {x v : Int} (hb : mkB D) (hT : mkC D x 1 1 → -mostN ≤ v ∧ v ≤ mostN → K (wr (wr (wr D 1977 0 0) 1977 0 0) 1999 x v) 0) (hN : ¬ mkC D x 1 1 → K (wr D 1977 0 1) 0) (hF : mkC D x 1 1 → ¬ (-mostN ≤ v ∧ v ≤ mostN) → K (wr (wr D 1977 0 0) 1977 0 2) 0) : WP sc 226 0 D [(0, (1211, 1977)), (1, (0, x)), (2, (1, v))] [] K E := by
  refine v226_0 (c_mkC hb (by omega) (fun h => ?_) (fun h => ?_))
  · have hx := h.1
    have hx2 := h.2.1
    rw [if_neg (by omega)]
    refine c_fails0 ?_
    rw [if_pos rfl]
    refine m_num (fun hv => ?_) (fun hv => ?_)
    · rw [if_neg (by omega)]
      refine c_fails0 ?_
      rw [if_pos rfl]
      exact ⟨by omega, hT h hv⟩
    · rw [if_pos rfl]
      refine c_fails1 ?_
      rw [if_neg (by omega)]
      exact hF h hv
  · rw [if_pos rfl]
    refine c_fails1 ?_
    rw [if_neg (by omega)]
    exact hN h
theorem l_set (hR : RL RSc D c) (hc : c < 600) (hi : 0 ≤ i ∧ i + 5 ≤ (sc.1 : Int) ∧ (sc.1 : Int) ≤ 2560) (hgo : ∀ D', RL RSc D' (c + 1) → WP sc 317 1610 D' (LV i) [] K E) : WP sc 317 811 D (LV i) [] K E := by
  have r6 := hR.2.2.2.2.2.1
  have r8 := hR.2.2.2.2.2.2.2
  refine v317_811 ?_
  rw [w32_id (x := i + 1) (by omega) (by omega), w32_id (x := i + 2) (by omega) (by omega), w32_id (x := i + 3) (by omega) (by omega)]
  refine ⟨by omega, fun hx => ⟨by omega, fun hy => ⟨by omega, fun hz => v307_0 ?_⟩⟩⟩
  generalize tlo (tlsl (tsv sc (i + 2)) 32) (tla (tsv sc (i + 3)) 4294967295) = v
  generalize tsv sc (i + 2) = y at hy ⊢
  generalize tsv sc (i + 3) = z at hz ⊢
  generalize tsv sc (i + 1) = x at hx ⊢
  have hb := mkB_of r8.1
  have frb : ∀ a j, (1980 ≤ a ∧ a ≤ 1995) → bump D a j = D a j := fun a j u => bump_ne (by omega)
  have hiff : mkC D x 1 1 ↔ kcC D x 1 := (mkC_iff r8.1).trans (by constructor; (rintro (w | w) <;> exact w); exact Or.inl)
  refine c_set r8.1 (fun hk hv => ?_) (fun hk => ?_) (fun hk hv => ?_)
  · have hx0 := hk.1
    have hx1 := hk.2.1
    have fr1 : ∀ a j, (1980 ≤ a ∧ a ≤ 1995) → (wr D (aC 0 x) 5 v) a j = D a j := fun a j u => wr_ne (by unfold aC; omega)
    refine ⟨by omega, fun _ => ⟨by omega, fun _ => ⟨by omega, fun _ => ?_⟩⟩⟩
    refine m_set (mkB_fr fr1 hb) (fun _ _ => ?_) (fun w => absurd ((mkC_fr fr1).mpr (hiff.mpr hk)) w) (fun _ w => absurd hv w)
    refine tail_v (by rw [wr_ne (by omega), wr_self]) (hgo _ (RL_fld (x := x) (fld := 5) (arr := 1999) (v := v) hR hc ⟨hx0, hx1⟩ hk.2.2.1 (Or.inl ⟨rfl, rfl, hv⟩) ?_ wr_self ?_ (fun j u => ?_) (fun j u => ?_) (fun j u => ?_) (fun a j u1 u2 u3 u4 u5 => ?_)))
    · rw [wr_ne (by unfold aC; omega), wr_ne (by unfold aC; omega), wr_ne (by unfold aC; omega), wr_self]
    · rw [wr_ne (by omega), wr_ne (by omega), wr_ne (by omega), wr_ne (by unfold aC; omega)]
    · rw [wr_ne (by unfold aC; omega), wr_ne (by unfold aC; omega), wr_ne (by unfold aC; omega), wr_ni u]
    · rw [wr_ni u, wr_ne (by omega), wr_ne (by omega), wr_ne (by unfold aC; omega)]
    · rw [wr_ne (by omega), wr_ni u, wr_ni u, wr_ne (by unfold aC; omega)]
    · rw [wr_ne u2, wr_ne u3, wr_ne u3, wr_ne u1]
  · refine ⟨by omega, ?_⟩
    rw [if_pos rfl]
    refine ⟨by omega, fun _ => ⟨by omega, fun _ => ⟨by omega, fun _ => ?_⟩⟩⟩
    refine m_set (mkB_fr frb hb) (fun w _ => absurd (hiff.mp ((mkC_fr frb).mp w)) hk) (fun _ => ?_) (fun w _ => absurd (hiff.mp ((mkC_fr frb).mp w)) hk)
    exact tail_v wr_self (hgo _ (RL_thr hR hc))
  · refine ⟨by omega, ?_⟩
    rw [if_neg (by omega), if_pos rfl]
    refine ⟨by omega, fun _ => ⟨by omega, fun _ => ⟨by omega, fun _ => ?_⟩⟩⟩
    refine m_set (mkB_fr frb hb) (fun _ w => absurd w hv) (fun w => absurd ((mkC_fr frb).mpr (hiff.mpr hk)) w) (fun _ _ => ?_)
    exact tail_v wr_self (hgo _ (RL_thr2 hR hc))
/-- states: one bit more or less -/
def stv (on a k : Int) : Int := if on = 0 then tia a (tix (tsl 1 k) (-1)) else tio a (tsl 1 k)
theorem stv_b : ∀ (a : Fin 16) (k : Fin 4), (0 ≤ tia (a.val : Nat) (tix (tsl 1 (k.val : Nat)) (-1)) ∧ tia (a.val : Nat) (tix (tsl 1 (k.val : Nat)) (-1)) ≤ 15) ∧ (0 ≤ tio (a.val : Nat) (tsl 1 (k.val : Nat)) ∧ tio (a.val : Nat) (tsl 1 (k.val : Nat)) ≤ 15) := by decide +kernel
theorem stv_r {on a k : Int} (ha : 0 ≤ a ∧ a ≤ 15) (hk : 0 ≤ k ∧ k < 4) : 0 ≤ stv on a k ∧ stv on a k ≤ 15 := by
  have h := stv_b ⟨a.toNat, by omega⟩ ⟨k.toNat, by omega⟩
  dsimp only at h
  rw [Int.toNat_of_nonneg ha.1, Int.toNat_of_nonneg hk.1] at h
  unfold stv
  split
  · exact h.1
  · exact h.2
def tnC (D : tD) (x k : Int) : Prop := kcC D x 4 ∧ 0 ≤ k ∧ k < D (aF 0 (D (aC 0 x) 4)) 7
theorem c_turn {x k on : Int} (h0 : shR c D 0) (hT : tnC D x k → K (wr D (aC 0 x) 7 (stv on (D (aC 0 x) 7) k)) 0) (hN : ¬ tnC D x k → D (-1) 0 < 599000 ∧ E (bump D) 93) : WP sc 15 0 D [(0, (1200, 0)), (1, (0, x)), (2, (0, k)), (3, (0, on))] [] K E := by
  have hn := h0.1
  refine v15_0 (c_kc h0 (fun h => ?_) (fun h => ?_))
  · have hx := h.1
    have hp := ((h0.2.2.1 x h.1 h.2.1).2.2 h.2.2.1).1
    rw [if_neg (by unfold aC; omega)]
    split
    · exact hN (fun w => by have := w.2.1; omega)
    · refine c_parent (s := 0) (Or.inl rfl) (by omega) ?_
      rw [if_neg (by unfold aF; omega)]
      split
      · rename_i hk1 hk2
        have := hT ⟨h, by omega, hk2⟩
        unfold stv at this
        refine v36_0 ?_
        split
        · rename_i q; rw [if_pos q] at this; exact this
        · rename_i q; rw [if_neg q] at this; exact this
      · rename_i hk1 hk2
        exact hN (fun w => hk2 w.2.2)
  · rw [if_pos rfl]
    exact hN (fun w => h w.1)
def tnM (D : tD) (x k : Int) : Prop := mkC D x 4 4 ∧ 0 ≤ k ∧ k < D 1991 (D 1995 x)
theorem m_turn {x k on : Int} (hb : mkB D) (h91 : ∀ f, 0 ≤ D 1991 f → D 1991 f ≤ 4 → True) (hr : mkC D x 4 4 → 0 ≤ D 1991 (D 1995 x) ∧ D 1991 (D 1995 x) ≤ 4) (hT : tnM D x k → K (wr (wr D 1977 0 0) 2001 x (stv on (D 2001 x) k)) 0) (hN : ¬ tnM D x k → K (wr D 1977 0 1) 0) : WP sc 229 0 D [(0, (1211, 1977)), (1, (0, x)), (2, (0, k)), (3, (0, on))] [] K E := by
  refine v229_0 (c_mkC hb (by omega) (fun h => ?_) (fun h => ?_))
  · have hx := h.1
    have hx2 := h.2.1
    have hbx := hb x hx hx2 h.2.2.1
    have h4 := hr h
    rw [if_neg (by omega)]
    refine ⟨by omega, by omega, ?_⟩
    rw [w32_id (by omega) (by omega)]
    refine c_within (fun hk => ?_) (fun hk => ?_)
    · rw [if_neg (by omega)]
      refine c_fails0 ?_
      have := hT ⟨h, by omega, by omega⟩
      unfold stv at this
      rw [if_pos rfl, wr_ne (show (2001 : Int) ≠ 1977 by omega)]
      split
      · rename_i q; rw [if_pos q] at this; exact ⟨by omega, by omega, this⟩
      · rename_i q; rw [if_neg q] at this; exact ⟨by omega, by omega, this⟩
    · rw [if_pos rfl]
      refine c_fails1 ?_
      rw [if_neg (by omega)]
      exact hN (fun w => hk (by have := w.2; omega))
  · rw [if_pos rfl]
    refine c_fails1 ?_
    rw [if_neg (by omega)]
    exact hN (fun w => h w.1)
end SETT
