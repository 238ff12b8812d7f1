/-! rows: what their methods do -/
section ROW
variable {sc : Nat × (Nat → Int32)} {D : tD} {K : tD → Int → Prop} {E : tD → Nat → Prop}
theorem w32_id {x : Int} (h1 : -2147483648 ≤ x) (h2 : x ≤ 2147483647) : w32 x = x := by unfold w32; omega
theorem w64_id {x : Int} (h1 : -9223372036854775808 ≤ x) (h2 : x ≤ 9223372036854775807) : w64 x = x := by unfold w64; omega
theorem w8_w8 (x : Int) : w8 (w8 x) = w8 x := by unfold w8; omega
theorem w8_mod (x : Int) : w8 x % 256 = x % 256 := by unfold w8; omega
theorem tbl_of {x : Int} {P : Prop} (h : x = 0 ∨ x = 1) (hP : P) : tbl x P := by
  unfold tbl
  rcases h with h | h
  · rw [if_pos h]; exact hP
  · rw [if_neg (by omega), if_pos h]; exact hP
theorem tia255_n : ∀ n : Fin 256, tia ((n.val : Int) - 128) 255 = ((n.val : Int) - 128) % 256 := by decide +kernel
theorem tia255 {b : Int} (h1 : -128 ≤ b) (h2 : b ≤ 127) : tia b 255 = b % 256 := by
  have h := tia255_n ⟨(b + 128).toNat, by omega⟩
  have e : (((b + 128).toNat : Nat) : Int) - 128 = b := by omega
  rw [e] at h
  exact h
/-- all that the memory's kinds say holds at every place of a run -/
def okD (D : tD) : Prop := ∃ h, hr h D
theorem wp_ok {y pc : Nat} {lv : List (Nat × tV)} {st : List tV} (H : okD D → WP sc y pc D lv st K E) : WP sc y pc D lv st K E := fun hsc fr lo h lv' st' hf hl hh h1 h2 => H ⟨h, hh⟩ hsc fr lo h lv' st' hf hl hh h1 h2
theorem okD_byte (h : okD D) {a j : Int} (ha : 0 ≤ a ∧ a < 2018) (hk : tkd a.toNat = 2) (hj : 0 ≤ j ∧ j < ln a) : -128 ≤ D a j ∧ D a j ≤ 127 := by
  obtain ⟨h, hh⟩ := h
  have h5 := hh.2 a.toNat (by omega)
  rw [cer_2 hk] at h5
  obtain ⟨f, -, g2⟩ := h5
  have hlt : j.toNat < tln a.toNat := by unfold ln at hj; omega
  have g3 := g2 j.toNat hlt
  rw [Int.toNat_of_nonneg ha.1, Int.toNat_of_nonneg hj.1] at g3
  exact g3.2
/-- the byte at a place of a row, or -1 -/
def rat (D : tD) (r p : Int) : Int := if 0 ≤ p ∧ p < D r 1 then D (r + 1) p % 256 else -1
theorem c_at {r p : Int} (hs : D r 1 ≤ ln (r + 1)) (hK : K D (rat D r p)) : WP sc 90 0 D [(0, (1207, r)), (1, (0, p))] [] K E := by
  refine v90_0 ?_
  unfold rat at hK
  split
  · rw [if_neg (by omega)] at hK; exact hK
  · split
    · refine ⟨by omega, fun hb => ?_⟩
      rw [if_pos (by omega)] at hK
      rw [tia255 hb.1 hb.2]
      exact hK
    · rw [if_neg (by omega)] at hK; exact hK
/-- a byte more -/
noncomputable def rpush (D : tD) (r b : Int) : tD := if D r 1 < ln (r + 1) then wr (wr D (r + 1) (D r 1) (w8 b)) r 1 (D r 1 + 1) else wr D r 2 1
theorem c_push {r b : Int} (h0 : 0 ≤ D r 1) (h1 : D r 1 ≤ 20000) (hK : K (rpush D r b) 0) : WP sc 91 0 D [(0, (1207, r)), (1, (0, b))] [] K E := by
  refine v91_0 ?_
  unfold rpush at hK
  split
  · rename_i h
    rw [if_pos h] at hK
    refine ⟨⟨h0, h⟩, ?_⟩
    rw [w8_w8, show (wr D (r + 1) (D r 1) (w8 b)) r 1 = D r 1 from wr_ne (by omega), w32_id (by omega) (by omega)]
    exact hK
  · rename_i h
    rw [if_neg h] at hK
    exact hK
def rclear (D : tD) (r : Int) : tD := wr (wr D r 1 0) r 2 0
theorem c_clear {r : Int} (hK : K (rclear D r) 0) : WP sc 89 0 D [(0, (1207, r))] [] K E := v89_0 hK
/-- the first place of a byte from a place on -/
def fnd (D : tD) (r b k x : Int) : Prop := (x = -1 ∧ ∀ j, k ≤ j → j < D r 1 → D (r + 1) j ≠ b) ∨ (k ≤ x ∧ x < D r 1 ∧ D (r + 1) x = b ∧ ∀ j, k ≤ j → j < x → D (r + 1) j ≠ b)
theorem c_find1 {r b k0 : Int} (h1 : D r 1 ≤ ln (r + 1)) (h2 : D r 1 ≤ 20000) (hK : ∀ x, fnd D r b k0 x → K D x) (k : Int) (hk : 0 ≤ k0 ∧ k0 ≤ k ∧ k ≤ 20001) (hj : ∀ j, k0 ≤ j → j < k → D (r + 1) j ≠ b) : WP sc 98 10 D [(0, (1207, r)), (1, (0, b)), (3, (0, k))] [] K E := by
  refine v98_10 ?_
  split
  · rename_i hlt
    refine ⟨by omega, fun _ => ?_⟩
    split
    · rename_i he
      exact hK _ (Or.inr ⟨by omega, hlt, he, hj⟩)
    · rename_i he
      rw [w32_id (by omega) (by omega)]
      refine c_find1 h1 h2 hK (k + 1) (by omega) (fun j h3 h4 => ?_)
      by_cases e : j = k
      · rw [e]; exact he
      · exact hj j h3 (by omega)
  · exact hK _ (Or.inl ⟨rfl, fun j h3 h4 => hj j h3 (by omega)⟩)
termination_by (D r 1 - k).toNat
decreasing_by omega
theorem c_find {r b k : Int} (h1 : D r 1 ≤ ln (r + 1)) (h2 : D r 1 ≤ 20000) (hk : 0 ≤ k ∧ k ≤ 20001) (hK : ∀ x, fnd D r b k x → K D x) : WP sc 98 0 D [(0, (1207, r)), (1, (0, b)), (2, (0, k))] [] K E := by
  refine v98_0 ?_
  rw [if_neg (by omega)]
  exact c_find1 h1 h2 hK k (by omega) (fun j _ _ => by omega)
/-- two rows are alike -/
def eqr (D : tD) (a b : Int) : Prop := D a 1 = D b 1 ∧ ∀ j, 0 ≤ j → j < D a 1 → D (a + 1) j = D (b + 1) j
theorem c_like1 {a b : Int} (he : D a 1 = D b 1) (h1 : D a 1 ≤ ln (a + 1)) (h2 : D b 1 ≤ ln (b + 1)) (h3 : D a 1 ≤ 20000) (hT : eqr D a b → K D 1) (hF : ¬ eqr D a b → K D 0) (k : Int) (hk : 0 ≤ k) (hj : ∀ j, 0 ≤ j → j < k → D (a + 1) j = D (b + 1) j) : WP sc 99 15 D [(0, (1207, a)), (1, (1207, b)), (2, (0, k))] [] K E := by
  refine v99_15 ?_
  split
  · rename_i hlt
    refine ⟨by omega, fun _ => ⟨by omega, fun _ => ?_⟩⟩
    split
    · rename_i heq
      rw [w32_id (by omega) (by omega)]
      refine c_like1 he h1 h2 h3 hT hF (k + 1) (by omega) (fun j h4 h5 => ?_)
      by_cases e : j = k
      · rw [e]; exact heq
      · exact hj j h4 (by omega)
    · rename_i hne
      exact hF (fun h => hne (h.2 k hk hlt))
  · exact hT ⟨he, fun j h4 h5 => hj j h4 (by omega)⟩
termination_by (D a 1 - k).toNat
decreasing_by omega
theorem c_like {a b : Int} (h1 : D a 1 ≤ ln (a + 1)) (h2 : D b 1 ≤ ln (b + 1)) (h3 : D a 1 ≤ 20000) (hT : eqr D a b → K D 1) (hF : ¬ eqr D a b → K D 0) : WP sc 99 0 D [(0, (1207, a)), (1, (1207, b))] [] K E := by
  refine v99_0 ?_
  split
  · rename_i he
    exact c_like1 he h1 h2 h3 hT hF 0 (by omega) (fun j _ _ => by omega)
  · rename_i hne
    exact hF (fun h => hne h.1)
/-- a span is a text -/
def spis (D : tD) (r s e t : Int) : Prop := 0 ≤ s ∧ e ≤ D r 1 ∧ e - s = tsn t ∧ ∀ j, s ≤ j → j < e → D (r + 1) j = tsc t (j - s)
theorem c_span1 {r s e t : Int} (h1 : D r 1 ≤ ln (r + 1)) (h3 : D r 1 ≤ 20000) (hs : 0 ≤ s) (he : e ≤ D r 1) (hn : e - s = tsn t) (hT : spis D r s e t → K D 1) (hF : ¬ spis D r s e t → K D 0) (k : Int) (hk : s ≤ k) (hj : ∀ j, s ≤ j → j < k → D (r + 1) j = tsc t (j - s)) : WP sc 100 27 D [(0, (1207, r)), (1, (0, s)), (2, (0, e)), (3, (4, t)), (4, (0, k))] [] K E := by
  refine v100_27 ?_
  split
  · rename_i hlt
    rw [w32_id (x := k - s) (by omega) (by omega)]
    refine ⟨by omega, fun _ => ⟨by omega, fun _ => ?_⟩⟩
    split
    · rename_i heq
      rw [w32_id (by omega) (by omega)]
      refine c_span1 h1 h3 hs he hn hT hF (k + 1) (by omega) (fun j h4 h5 => ?_)
      by_cases e : j = k
      · rw [e]; exact heq
      · exact hj j h4 (by omega)
    · rename_i hne
      exact hF (fun h => hne (h.2.2.2 k hk hlt))
  · exact hT ⟨hs, he, hn, fun j h4 h5 => hj j h4 (by omega)⟩
termination_by (e - k).toNat
decreasing_by omega
theorem c_span {r s e t : Int} (h1 : D r 1 ≤ ln (r + 1)) (h3 : D r 1 ≤ 20000) (hr : -2 ≤ s ∧ s ≤ 20001 ∧ -2 ≤ e ∧ e ≤ 20001) (hT : spis D r s e t → K D 1) (hF : ¬ spis D r s e t → K D 0) : WP sc 100 0 D [(0, (1207, r)), (1, (0, s)), (2, (0, e)), (3, (4, t))] [] K E := by
  refine v100_0 ?_
  rw [w32_id (x := e - s) (by omega) (by omega)]
  split
  · exact hF (fun h => by have := h.1; omega)
  split
  · exact hF (fun h => by have := h.2.1; omega)
  split
  · rename_i hs he hn
    exact c_span1 h1 h3 (by omega) (by omega) hn hT hF s (by omega) (fun j _ _ => by omega)
  · rename_i hn
    exact hF (fun h => hn h.2.2.1)
end ROW
