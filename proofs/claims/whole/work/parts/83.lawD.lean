/-! the law's loop: feed -/
section LAWD
variable {sc : Nat × (Nat → Int32)} {D : tD} {K : tD → Int → Prop} {E : tD → Nat → Prop} {RS : Int → tD → Prop} {c i : Int}
theorem tla255g {v : Int} (h : -9223372036854775808 ≤ v ∧ v ≤ 9223372036854775807) : tla v 255 = v % 256 := by
  have e1 : tla v 255 = (BitVec.ofInt 64 v &&& 255#64).toInt := rfl
  have e2 : (BitVec.ofInt 64 v &&& 255#64).toNat = (v % 18446744073709551616).toNat % 256 := by
    rw [BitVec.toNat_and, BitVec.toNat_ofInt]
    show (v % (2 ^ 64 : Nat)).toNat &&& (2 ^ 8 - 1) = _
    rw [Nat.and_two_pow_sub_one_eq_mod]
    rfl
  rw [e1, BitVec.toInt_eq_toNat_of_lt (by rw [e2]; omega), e2]
  omega
theorem lus_bv {v : Int} (h : -9223372036854775808 ≤ v ∧ v ≤ 9223372036854775807) (s : Nat) : ((BitVec.ofInt 64 v) >>> s).toInt % 256 = ((v % 18446744073709551616) / 2 ^ s) % 256 := by
  have e1 : (((BitVec.ofInt 64 v) >>> s).toNat : Int) = (v % 18446744073709551616) / 2 ^ s := by
    rw [BitVec.toNat_ushiftRight, BitVec.toNat_ofInt, Nat.shiftRight_eq_div_pow]
    have h0 : 0 ≤ v % 18446744073709551616 := by omega
    show (((v % 18446744073709551616).toNat / 2 ^ s : Nat) : Int) = _
    rw [Int.natCast_ediv, Int.toNat_of_nonneg h0]
    simp
  rw [BitVec.toInt_eq_toNat_cond]
  split
  · rw [e1]
  · rw [e1]
    show (_ - ((2 ^ 64 : Nat) : Int)) % 256 = _
    have : ((2 ^ 64 : Nat) : Int) = 18446744073709551616 := rfl
    rw [this]
    omega
theorem lsr_bv {v : Int} (h : -9223372036854775808 ≤ v ∧ v ≤ 9223372036854775807) (s : Nat) : ((BitVec.ofInt 64 v).sshiftRight s).toInt = v / 2 ^ s := by
  rw [BitVec.toInt_sshiftRight, BitVec.toInt_ofInt, Int.shiftRight_eq_div_pow]
  have e : v.bmod (2 ^ 64) = v := by rw [bm64]; exact w64_id (by omega) (by omega)
  rw [e]
  simp
theorem feedb {v k : Int} (h : -9223372036854775808 ≤ v ∧ v ≤ 9223372036854775807) (hk : 0 ≤ k ∧ k < 8) : tia (w32 (tlus v (8 * k))) 255 = w32 (tla (tlsr v (8 * k)) 255) ∧ 0 ≤ w32 (tla (tlsr v (8 * k)) 255) ∧ w32 (tla (tlsr v (8 * k)) 255) ≤ 255 := by
  have hkk : k = 0 ∨ k = 1 ∨ k = 2 ∨ k = 3 ∨ k = 4 ∨ k = 5 ∨ k = 6 ∨ k = 7 := by omega
  have fin : ∀ (s : Nat) (X Y : Int), X = ((BitVec.ofInt 64 v) >>> s).toInt → Y = ((BitVec.ofInt 64 v).sshiftRight s).toInt → ((v % 18446744073709551616) / 2 ^ s) % 256 = (v / 2 ^ s) % 256 → tia (w32 X) 255 = w32 (tla Y 255) ∧ 0 ≤ w32 (tla Y 255) ∧ w32 (tla Y 255) ≤ 255 := fun s X Y hX hY he => by
    have h1 := lus_bv h s
    have h2 := lsr_bv h s
    have hr : -9223372036854775808 ≤ Y ∧ Y ≤ 9223372036854775807 := by
      have a1 := BitVec.le_two_mul_toInt (x := (BitVec.ofInt 64 v).sshiftRight s)
      have a2 := BitVec.two_mul_toInt_lt (x := (BitVec.ofInt 64 v).sshiftRight s)
      rw [← hY] at a1 a2
      have b : ((2 : Int) ^ 64) = 18446744073709551616 := rfl
      omega
    rw [← hX] at h1
    rw [← hY] at h2
    have hw : -2147483648 ≤ w32 X ∧ w32 X ≤ 2147483647 := by unfold w32; omega
    rw [tia255g hw, tla255g hr]
    unfold w32
    omega
  rcases hkk with rfl | rfl | rfl | rfl | rfl | rfl | rfl | rfl
  · exact fin 0 _ _ rfl rfl (by omega)
  · exact fin 8 _ _ rfl rfl (by omega)
  · exact fin 16 _ _ rfl rfl (by omega)
  · exact fin 24 _ _ rfl rfl (by omega)
  · exact fin 32 _ _ rfl rfl (by omega)
  · exact fin 40 _ _ rfl rfl (by omega)
  · exact fin 48 _ _ rfl rfl (by omega)
  · exact fin 56 _ _ rfl rfl (by omega)
/-- the bytes that a feed gives -/
def fdb (v k : Int) : Int := w32 (tla (tlsr v (8 * k)) 255)
theorem c_feed1 {n v s : Int} (hv : -9223372036854775808 ≤ v ∧ v ≤ 9223372036854775807) (hn : 1 ≤ n ∧ n ≤ 8) (hs : 0 ≤ s ∧ s + n ≤ 4000) (D : tD) (k : Int) (hk : 0 ≤ k ∧ k ≤ n) (h1 : D 1 1 = s + k) (hK : ∀ D', D' 1 1 = s + n → (∀ j, j < s + k → D' 2 j = D 2 j) → (∀ j, k ≤ j → j < n → D' 2 (s + j) % 256 = fdb v j) → (∀ a j, a ≠ 1 → a ≠ 2 → D' a j = D a j) → K D' (s + n)) : WP sc 1 49 D [(0, (1200, 0)), (1, (0, n)), (2, (1, v)), (4, (0, k))] [] K E := by
  have l2 : ln (1 + 1) = 4000 := rfl
  refine v1_49 ?_
  split
  · rename_i hlt
    have hb := feedb hv (k := k) (by omega)
    rw [w32_id (x := 8 * k) (by omega) (by omega), w32_id (x := k + 1) (by omega) (by omega), hb.1]
    refine c_push (by omega) (by omega) ?_
    unfold rpush
    rw [if_pos (by rw [l2]; omega)]
    refine c_feed1 hv hn hs _ (k + 1) (by omega) (by rw [wr_self]; omega) (fun D' g1 g2 g3 g4 => ?_)
    refine hK D' g1 (fun j hj => ?_) (fun j h3 h4 => ?_) (fun a j h3 h4 => ?_)
    · rw [g2 j (by omega), wr_ne (by omega), show (1 : Int) + 1 = 2 from rfl, wr_ni (by omega)]
    · by_cases e : j = k
      · rw [e, g2 (s + k) (by omega), wr_ne (by omega), show (1 : Int) + 1 = 2 from rfl, h1, wr_self, w8_mod]
        unfold fdb
        omega
      · exact g3 j (by omega) h4
    · rw [g4 a j h3 h4, wr_ne h3, wr_ne (by omega)]
  · rename_i hge
    have e : k = n := by omega
    subst e
    rw [h1]
    exact hK D (by omega) (fun j _ => rfl) (fun j h3 h4 => by omega) (fun a j _ _ => rfl)
termination_by (n - k).toNat
decreasing_by omega
theorem c_mfeed1 {n v : Int} (hn : 1 ≤ n ∧ n ≤ 8) (D : tD) (hs : 0 ≤ D 1977 2 ∧ D 1977 2 + n ≤ 4000) (k : Int) (hk : 0 ≤ k ∧ k ≤ n) (hK : ∀ D', D' 1977 2 = D 1977 2 + n → (∀ j, j < D 1977 2 + k → D' 1978 j = D 1978 j) → (∀ j, k ≤ j → j < n → D' 1978 (D 1977 2 + j) = fdb v j) → (∀ a j, a ≠ 1978 → ¬ (a = 1977 ∧ j = 2) → D' a j = D a j) → K D' (D 1977 2 + n)) : WP sc 203 55 D [(0, (1211, 1977)), (1, (0, n)), (2, (1, v)), (4, (0, k))] [] K E := by
  refine v203_55 ?_
  split
  · rename_i hlt
    rw [w32_id (x := D 1977 2 + k) (by omega) (by omega), w32_id (x := 8 * k) (by omega) (by omega), w32_id (x := k + 1) (by omega) (by omega)]
    refine ⟨by omega, ?_⟩
    have e2 : (wr D 1978 (D 1977 2 + k) (w32 (tla (tlsr v (8 * k)) 255))) 1977 2 = D 1977 2 := wr_ne (by omega)
    refine c_mfeed1 hn _ (by rw [e2]; exact hs) (k + 1) (by omega) (fun D' g1 g2 g3 g4 => ?_)
    rw [e2] at g1 g2 g3 ⊢
    refine hK D' g1 (fun j hj => ?_) (fun j h3 h4 => ?_) (fun a j h3 h4 => ?_)
    · rw [g2 j (by omega), wr_ni (by omega)]
    · by_cases e : j = k
      · rw [e, g2 _ (by omega), wr_self]; rfl
      · exact g3 j (by omega) h4
    · rw [g4 a j h3 h4, wr_ne h3]
  · rename_i hge
    rw [w32_id (x := D 1977 2 + n) (by omega) (by omega), wr_self]
    exact hK _ wr_self (fun j _ => wr_ne (by omega)) (fun j h3 h4 => by omega) (fun a j h1 h2 => by simp only [wr]; rw [if_neg (by omega)])
termination_by (n - k).toNat
decreasing_by omega
theorem tlo_r (x y : Int) : -9223372036854775808 ≤ tlo x y ∧ tlo x y ≤ 9223372036854775807 := i64r _
/-- the law compares what was thrown, and the answer -/
theorem tail_r {r2 r5 : Int} (h1 : D 1977 0 = r2) (h2 : r2 = 0 → D 2017 0 = r5) (hgo : WP sc 317 1610 D (LV i) [] K E) : WP sc 166 0 D [(0, (1211, 1977))] [] (fun D7 r8 => if r8 = r2 then (if r2 = 0 then (((0 : Int) ≤ 0 ∧ (0 : Int) < ln 2017) ∧ (if tlc (D7 2017 0) r5 = 0 then (WP sc 317 1610 D7 (LV i) [] K E) else (K D7 0))) else (WP sc 317 1610 D7 (LV i) [] K E)) else (K D7 0)) (fun D7 e9 => E D7 e9) := by
  refine c_thrown ?_
  rw [if_pos h1]
  split
  · rename_i h0
    refine ⟨by decide +kernel, ?_⟩
    rw [if_pos (tlc_eq.mpr (h2 h0))]
    exact hgo
  · exact hgo
theorem tail_v {r2 : Int} (h1 : D 1977 0 = r2) (hgo : WP sc 317 1610 D (LV i) [] K E) : WP sc 166 0 D [(0, (1211, 1977))] [] (fun D7 r8 => if r8 = r2 then (WP sc 317 1610 D7 (LV i) [] K E) else (K D7 0)) (fun D7 e9 => E D7 e9) := by
  refine c_thrown ?_
  rw [if_pos h1]
  exact hgo
theorem l_feed (hRS : depR RS) (hR : RL RS D c) (hc : c < 600) (hi : 0 ≤ i ∧ i + 5 ≤ (sc.1 : Int) ∧ (sc.1 : Int) ≤ 2560) (hgo : ∀ D', RL RS D' (c + 1) → WP sc 317 1610 D' (LV i) [] K E) : WP sc 317 152 D (LV i) [] K E := by
  have hR0 := hR
  obtain ⟨r1, r2, r3, r4, r5, r6, r7, r8⟩ := hR
  obtain ⟨q1, q2, q3, q4⟩ := r1
  refine v317_152 ?_
  rw [w32_id (x := i + 1) (by omega) (by omega), w32_id (x := i + 2) (by omega) (by omega), w32_id (x := i + 3) (by omega) (by omega)]
  refine ⟨by omega, fun hx => ⟨by omega, fun hy => ⟨by omega, fun hz => v298_0 (v1_0 ?_)⟩⟩⟩
  have hv := tlo_r (tlsl (tsv sc (i + 2)) 32) (tla (tsv sc (i + 3)) 4294967295)
  generalize tlo (tlsl (tsv sc (i + 2)) 32) (tla (tsv sc (i + 3)) 4294967295) = v at hv ⊢
  generalize tsv sc (i + 2) = y at hy ⊢
  generalize tsv sc (i + 3) = z at hz ⊢
  generalize tsv sc (i + 1) = x at hx ⊢
  have fr1 : ∀ t, RL RS (wr (wr D (-1) 0 (D (-1) 0 + 1)) 1977 0 t) (c + 1) := fun t => RL_frame hRS hR0 hc (Or.inr (by simp [wr])) (fun a j h => by
    unfold depA depS at h
    simp only [wr]
    rw [if_neg (by omega), if_neg (by omega)])
  have fr2 : ∀ t u, RL RS (wr (wr (wr D (-1) 0 (D (-1) 0 + 1)) 1977 0 t) 1977 0 u) (c + 1) := fun t u => RL_frame hRS hR0 hc (Or.inr (by simp [wr])) (fun a j h => by
    unfold depA depS at h
    simp only [wr]
    rw [if_neg (by omega), if_neg (by omega), if_neg (by omega)])
  split
  · refine ⟨by omega, ?_⟩
    rw [if_pos rfl]
    refine ⟨by omega, fun _ => ⟨by omega, fun _ => ⟨by omega, fun _ => v203_0 (c_within (fun h => by omega) (fun _ => ?_))⟩⟩⟩
    rw [if_pos rfl]
    refine c_fails1 ?_
    rw [if_neg (by omega)]
    exact tail_r wr_self (fun h => by omega) (hgo _ (fr1 _))
  split
  · refine ⟨by omega, ?_⟩
    rw [if_pos rfl]
    refine ⟨by omega, fun _ => ⟨by omega, fun _ => ⟨by omega, fun _ => v203_0 (c_within (fun h => by omega) (fun _ => ?_))⟩⟩⟩
    rw [if_pos rfl]
    refine c_fails1 ?_
    rw [if_neg (by omega)]
    exact tail_r wr_self (fun h => by omega) (hgo _ (fr1 _))
  rw [w32_id (x := D 1 1 + x) (by omega) (by omega)]
  split
  · refine ⟨by omega, ?_⟩
    rw [if_neg (by omega), if_pos rfl]
    refine ⟨by omega, fun _ => ⟨by omega, fun _ => ⟨by omega, fun _ => v203_0 (c_within (fun _ => ?_) (fun h => absurd (by omega) h))⟩⟩⟩
    rw [if_neg (by omega)]
    refine c_fails0 ?_
    rw [if_pos rfl, show (wr (wr D (-1) 0 (D (-1) 0 + 1)) 1977 0 0) 1977 2 = D 1977 2 from by simp [wr], w32_id (by omega) (by omega), if_pos (by omega)]
    refine c_fails1 ?_
    rw [if_neg (by omega)]
    exact tail_r wr_self (fun h => by omega) (hgo _ (fr2 _ _))
  · refine c_feed1 (s := D 1 1) hv (by omega) (by omega) D 0 (by omega) (by omega) (fun D1 g1 g2 g3 g4 => ?_)
    refine ⟨by decide +kernel, ?_⟩
    refine ⟨by omega, fun _ => ⟨by omega, fun _ => ⟨by omega, fun _ => v203_0 (c_within (fun _ => ?_) (fun h => absurd (by omega) h))⟩⟩⟩
    rw [if_neg (by omega)]
    refine c_fails0 ?_
    have e0 : ∀ a j, a ≠ 2017 → ¬ (a = 1977 ∧ j = 0) → (wr (wr D1 2017 0 (D 1 1 + x)) 1977 0 0) a j = D1 a j := fun a j h1 h2 => by
      simp only [wr]
      rw [if_neg (by omega), if_neg (by omega)]
    rw [if_pos rfl, e0 1977 2 (by omega) (by omega), g4 1977 2 (by omega) (by omega), w32_id (x := D 1977 2 + x) (by omega) (by omega), if_neg (by omega)]
    refine c_fails0 ?_
    rw [if_pos rfl]
    have e1 : ∀ a j, a ≠ 2017 → ¬ (a = 1977 ∧ j = 0) → (wr (wr (wr D1 2017 0 (D 1 1 + x)) 1977 0 0) 1977 0 0) a j = D1 a j := fun a j h1 h2 => by
      rw [show (wr (wr (wr D1 2017 0 (D 1 1 + x)) 1977 0 0) 1977 0 0) a j = (wr (wr D1 2017 0 (D 1 1 + x)) 1977 0 0) a j from by simp only [wr]; rw [if_neg (by omega)], e0 a j h1 h2]
    have e2 : (wr (wr (wr D1 2017 0 (D 1 1 + x)) 1977 0 0) 1977 0 0) 1977 2 = D 1977 2 := by rw [e1 _ _ (by omega) (by omega), g4 _ _ (by omega) (by omega)]
    refine c_mfeed1 (by omega) _ (by rw [e2]; omega) 0 (by omega) (fun D2 k1 k2 k3 k4 => ?_)
    rw [e2] at k1 k2 k3 ⊢
    have gg : ∀ a j, a ≠ 1 → a ≠ 2 → a ≠ 1978 → a ≠ 2017 → ¬ (a = 1977 ∧ (j = 0 ∨ j = 2)) → D2 a j = D a j := fun a j h1 h2 h3 h4 h5 => by
      rw [k4 a j h3 (by omega), e1 a j h4 (by omega), g4 a j h1 h2]
    refine tail_r ?_ (fun _ => ?_) (hgo _ ⟨⟨?_, ?_, ?_, fun j h1 h2 => ?_⟩, rowm_W ⟨fun j => gg _ _ (by omega) (by omega) (by omega) (by omega) (by omega), fun j => gg _ _ (by omega) (by omega) (by omega) (by omega) (by omega), fun j => gg _ _ (by omega) (by omega) (by omega) (by omega) (by omega), gg _ _ (by omega) (by omega) (by omega) (by omega) (by omega)⟩ r2, ?_, ?_, ?_, ?_, by omega, hRS _ _ ?_ r8⟩)
    · rw [k4 _ _ (by omega) (by omega), wr_self]
    · rw [k4 _ _ (by omega) (by omega), wr_ne (by omega), wr_ne (by omega), wr_self]; omega
    · rw [k1, k4 _ _ (by omega) (by omega), e1 _ _ (by omega) (by omega), g1]; omega
    · rw [k1]; omega
    · rw [k1]; omega
    · rw [k1] at h2
      rw [show (0 : Int) + j = j from by omega, show (1 : Int) + 1 = 2 from rfl, k4 _ _ (by omega) (by omega), e1 _ _ (by omega) (by omega)]
      by_cases hj : j < D 1977 2
      · rw [g2 j (by omega), k2 j (by omega), e1 _ _ (by omega) (by omega), g4 _ _ (by omega) (by omega)]
        have := q4 j h1 hj
        simpa using this
      · have a1 := g3 (j - D 1 1) (by omega) (by omega)
        have a2 := k3 (j - D 1977 2) (by omega) (by omega)
        rw [show D 1 1 + (j - D 1 1) = j from by omega] at a1
        rw [show D 1977 2 + (j - D 1977 2) = j from by omega] at a2
        rw [a1, a2, q1]
    · rw [gg 0 8 (by omega) (by omega) (by omega) (by omega) (by omega), gg 1977 3 (by omega) (by omega) (by omega) (by omega) (by omega)]; omega
    · rw [gg 1957 3 (by omega) (by omega) (by omega) (by omega) (by omega), gg 1977 46 (by omega) (by omega) (by omega) (by omega) (by omega)]; exact r4
    · rw [gg 1957 0 (by omega) (by omega) (by omega) (by omega) (by omega), gg 1968 0 (by omega) (by omega) (by omega) (by omega) (by omega)]; exact r5
    · rw [gg (-1) 0 (by omega) (by omega) (by omega) (by omega) (by omega)]; omega
    · intro a j h
      unfold depS at h
      exact gg _ _ (by omega) (by omega) (by omega) (by omega) (by omega)
end LAWD
