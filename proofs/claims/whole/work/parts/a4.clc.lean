/-! own names: the class's clash -/
section CLC
variable {sc : Nat × (Nat → Int32)} {D D' : tD} {K : tD → Int → Prop} {E : tD → Nat → Prop} {s : Int}
/-- the parts that a kind has -/
def hp (kd p : Int) : Prop := p = 0 ∨ (p = 1 ∧ kd = 0) ∨ (p = 2 ∧ (kd = 0 ∨ kd = 2)) ∨ ((p = 3 ∨ p = 4 ∨ p = 5) ∧ kd = 2) ∨ (p = 6 ∧ kd = 3)
theorem c_hasP {F p : Int} (hp0 : 0 ≤ p ∧ p ≤ 6) (hT : hp (D F 5) p → K D 1) (hF : ¬ hp (D F 5) p → K D 0) : WP sc 64 0 D [(0, (1204, F)), (1, (0, p))] [] K E := by
  refine v64_0 ?_
  unfold hp at hT hF
  repeat' split
  all_goals first
    | exact hT (by omega)
    | exact hF (by omega)
def ptx (p : Int) : Int := if p = 1 then 33 else if p = 2 then 34 else if p = 3 then 35 else if p = 4 then 36 else if p = 5 then 37 else if p = 6 then 38 else 39
theorem c_ptx {p : Int} (hK : K D (ptx p)) : WP sc 60 0 D [(0, (0, p))] [] K E := by
  refine v60_0 ?_
  unfold ptx at hK
  simp only [apply_ite (K D)] at hK
  exact hK
theorem ptx_n : ∀ p : Fin 7, tsn (ptx (p.val : Int)) = ltn (p.val : Int) ∧ ∀ k : Fin 8, (k.val : Int) < ltn (p.val : Int) → tsc (ptx (p.val : Int)) (k.val : Int) = ltr (p.val : Int) (k.val : Int) := by decide +kernel
theorem ltn_8 : ∀ p : Fin 7, ltn (p.val : Int) ≤ 8 := by decide +kernel
theorem ltn_le8 {p : Int} (hp : 0 ≤ p ∧ p ≤ 6) : 0 ≤ ltn p ∧ ltn p ≤ 8 := by
  have h := ltn_8 ⟨p.toNat, by omega⟩
  rw [show ((p.toNat : Nat) : Int) = p from by omega] at h
  exact ⟨(ltn_le ⟨hp.1, by omega⟩).1, h⟩
theorem ptx_len {p : Int} (hp : 0 ≤ p ∧ p ≤ 6) : tsn (ptx p) = ltn p := by
  have h := (ptx_n ⟨p.toNat, by omega⟩).1
  rw [show ((p.toNat : Nat) : Int) = p from by omega] at h
  exact h
theorem ptx_at {p k : Int} (hp : 0 ≤ p ∧ p ≤ 6) (hk : 0 ≤ k ∧ k < ltn p) : tsc (ptx p) k = ltr p k := by
  have l := ltn_le8 hp
  have h := (ptx_n ⟨p.toNat, by omega⟩).2 ⟨k.toNat, by omega⟩
  rw [show ((p.toNat : Nat) : Int) = p from by omega, show ((k.toNat : Nat) : Int) = k from by omega] at h
  exact h hk.2
/-- a row is a name with a part's text behind it -/
def onr (D : tD) (r : Int) (n : Int → Int) (z p : Int) : Prop := D r 1 = z + ltn p ∧ ∀ j, 0 ≤ j → j < z + ltn p → D (r + 1) j = jn n z p j
theorem spjn_owP {r G z p q : Int} {n : Int → Int} (hq : 0 ≤ q ∧ q ≤ 6) (h : onr D r n z p) : spjn D r 0 (D r 1) (G + 1) (ptx q) ↔ owP n z p (D (G + 2)) (D (G + 1) 1) q := by
  obtain ⟨h1, h2⟩ := h
  have lq := ptx_len hq
  have key : ∀ j, 0 ≤ j → j < D (G + 1) 1 + ltn q → jnb D (G + 1) (ptx q) j = jn (D (G + 2)) (D (G + 1) 1) q j := fun j u v => by
    unfold jnb jn
    rw [show G + 1 + 1 = G + 2 from by omega]
    by_cases e : j < D (G + 1) 1
    · rw [if_pos e, if_pos e]
    · rw [if_neg e, if_neg e, ptx_at hq (by omega)]
  unfold spjn owP
  rw [lq]
  constructor
  · rintro ⟨a, b, d, e⟩
    refine ⟨by omega, fun k u v => ?_⟩
    have := e k u (by omega)
    rw [h2 k u v, show k - 0 = k from by omega, key k u (by omega)] at this
    exact this
  · rintro ⟨a, b⟩
    refine ⟨by omega, by omega, by omega, fun j u v => ?_⟩
    rw [h2 j u (by omega), show j - 0 = j from by omega, key j u (by omega)]
    exact b j u (by omega)
def owQ (D : tD) (G : Int) (n : Int → Int) (z p : Int) : Prop := ∃ q, (0 ≤ q ∧ q ≤ 6) ∧ hp (D G 5) q ∧ owP n z p (D (G + 2)) (D (G + 1) 1) q
theorem c_owns1 {G r z p : Int} {n : Int → Int} (h : onr D r n z p) (hr : D r 1 ≤ ln (r + 1) ∧ 0 ≤ D r 1 ∧ D r 1 ≤ 20000) (hG : 0 ≤ D (G + 1) 1 ∧ D (G + 1) 1 ≤ ln (G + 2) ∧ D (G + 1) 1 ≤ 20000) (hT : owQ D G n z p → K D 1) (hF : ¬ owQ D G n z p → K D 0) : ∀ (m : Nat) (q : Int), 7 - q = (m : Int) → 0 ≤ q → (∀ j, 0 ≤ j → j < q → ¬ (hp (D G 5) j ∧ owP n z p (D (G + 2)) (D (G + 1) 1) j)) → WP sc 65 2 D [(0, (1204, G)), (1, (1207, r)), (2, (0, q))] [] K E := by
  intro m
  induction m with
  | zero =>
    intro q hm hq hj
    refine v65_2 ?_
    rw [if_neg (by omega)]
    exact hF (fun ⟨j, j1, j2, j3⟩ => hj j j1.1 (by omega) ⟨j2, j3⟩)
  | succ m ih =>
    intro q hm hq hj
    have go : ¬ (hp (D G 5) q ∧ owP n z p (D (G + 2)) (D (G + 1) 1) q) → WP sc 65 2 D [(0, (1204, G)), (1, (1207, r)), (2, (0, w32 (q + 1)))] [] K E := fun hn => by
      rw [w32_id (by omega) (by omega)]
      refine ih (q + 1) (by omega) (by omega) (fun j u v => ?_)
      by_cases e : j = q
      · rw [e]; exact hn
      · exact hj j u (by omega)
    refine v65_2 ?_
    rw [if_pos (by omega)]
    refine c_hasP (by omega) (fun hh => ?_) (fun hh => ?_)
    · rw [if_neg (by omega)]
      refine c_ptx (c_join hr.1 (by rw [show G + 1 + 1 = G + 2 from by omega]; exact hG.2.1) hr.2.2 ⟨hG.1, hG.2.2⟩ (by omega) (fun ht => ?_) (fun ht => ?_))
      · rw [if_neg (by omega)]
        exact hT ⟨q, by omega, hh, (spjn_owP (by omega) h).mp ht⟩
      · rw [if_pos rfl]
        exact go (fun w => ht ((spjn_owP (by omega) h).mpr w.2))
    · rw [if_pos rfl]
      exact go (fun w => hh w.1)
theorem c_owns {G r z p : Int} {n : Int → Int} (h : onr D r n z p) (hr : D r 1 ≤ ln (r + 1) ∧ 0 ≤ D r 1 ∧ D r 1 ≤ 20000) (hG : 0 ≤ D (G + 1) 1 ∧ D (G + 1) 1 ≤ ln (G + 2) ∧ D (G + 1) 1 ≤ 20000) (hT : owQ D G n z p → K D 1) (hF : ¬ owQ D G n z p → K D 0) : WP sc 65 0 D [(0, (1204, G)), (1, (1207, r))] [] K E :=
  v65_0 (c_owns1 h hr hG hT hF 7 0 (by omega) (by omega) (fun j u v => by omega))
theorem c_owned1 {z p : Int} {n : Int → Int} (hs : s = 0 ∨ s = 1) (h : onr D (978 + 975 * s) n z p) (hr : 0 ≤ D (978 + 975 * s) 1 ∧ D (978 + 975 * s) 1 ≤ 32) (h8 : D (5 + 975 * s) 4 ≤ 8) (hG : ∀ k, 0 ≤ k → k < D (5 + 975 * s) 4 → 0 ≤ D (aF s k + 1) 1 ∧ D (aF s k + 1) 1 ≤ 24) (hT : (∃ k, (0 ≤ k ∧ k < D (5 + 975 * s) 4) ∧ owQ D (aF s k) n z p) → K D 1) (hF : (¬ ∃ k, (0 ≤ k ∧ k < D (5 + 975 * s) 4) ∧ owQ D (aF s k) n z p) → K D 0) : ∀ (m : Nat) (k : Int), 9 - k = (m : Int) → 0 ≤ k → (∀ j, 0 ≤ j → j < k → ¬ owQ D (aF s j) n z p) → WP sc 110 2 D [(0, (1208, 5 + 975 * s)), (1, (0, k))] [] K E := by
  have l9 := ln_fams hs
  have l32 : ln (978 + 975 * s + 1) = 32 := by rcases hs with rfl | rfl <;> rfl
  intro m
  induction m with
  | zero =>
    intro k hm hk hj
    refine v110_2 ?_
    rw [if_neg (by omega)]
    exact hF (fun ⟨j, j1, j2⟩ => hj j j1.1 (by omega) j2)
  | succ m ih =>
    intro k hm hk hj
    refine v110_2 ?_
    by_cases e : k < D (5 + 975 * s) 4
    · rw [if_pos e, l9]
      have l24 := ln_nam (f := k) hs (by omega)
      have hg := hG k hk e
      refine ⟨by omega, ?_⟩
      rw [show 5 + 975 * s + 1 + 1 + 17 * k = aF s k from by unfold aF; omega, show 5 + 975 * s + 973 = 978 + 975 * s from by omega]
      refine c_owns h (by rw [l32]; omega) (by rw [l24]; omega) (fun ho => ?_) (fun ho => ?_)
      · rw [if_neg (by omega)]
        exact hT ⟨k, ⟨hk, e⟩, ho⟩
      · rw [if_pos rfl, w32_id (by omega) (by omega)]
        refine ih (k + 1) (by omega) (by omega) (fun j u v => ?_)
        by_cases e2 : j = k
        · rw [e2]; exact ho
        · exact hj j u (by omega)
    · rw [if_neg e]
      exact hF (fun ⟨j, j1, j2⟩ => hj j j1.1 (by omega) j2)
theorem c_owned {z p : Int} {n : Int → Int} (hs : s = 0 ∨ s = 1) (h : onr D (978 + 975 * s) n z p) (hr : 0 ≤ D (978 + 975 * s) 1 ∧ D (978 + 975 * s) 1 ≤ 32) (h8 : D (5 + 975 * s) 4 ≤ 8) (hG : ∀ k, 0 ≤ k → k < D (5 + 975 * s) 4 → 0 ≤ D (aF s k + 1) 1 ∧ D (aF s k + 1) 1 ≤ 24) (hT : (∃ k, (0 ≤ k ∧ k < D (5 + 975 * s) 4) ∧ owQ D (aF s k) n z p) → K D 1) (hF : (¬ ∃ k, (0 ≤ k ∧ k < D (5 + 975 * s) 4) ∧ owQ D (aF s k) n z p) → K D 0) : WP sc 110 0 D [(0, (1208, 5 + 975 * s))] [] K E :=
  v110_0 (c_owned1 hs h hr h8 hG hT hF 9 0 (by omega) (by omega) (fun j u v => by omega))
/-- the name of a family with a part's text behind it, in the row for own names -/
theorem c_mkown {F z p r : Int} (hp : 0 ≤ p ∧ p ≤ 6) (hr : ln (r + 1) = 32) (hz : D (F + 1) 1 = z ∧ 0 ≤ z ∧ z ≤ 24) (hl : ln (F + 2) = 24) (hFr : F + 2 < r) (hb : ∀ j, 0 ≤ j → j < z → -128 ≤ D (F + 2) j ∧ D (F + 2) j ≤ 127) (hK : ∀ D', onr D' r (D (F + 2)) z p → frw D D' r → K D' 0) : WP sc 93 0 D [(0, (1207, r)), (1, (1207, F + 1)), (2, (0, 0)), (3, (0, D (F + 1) 1))] [] (fun D4 _ => WP sc 60 0 D4 [(0, (0, p))] [] (fun D7 r8 => WP sc 92 0 D7 [(0, (1207, r)), (1, (4, r8))] [] K E) E) E := by
  have lp := ltn_le8 hp
  refine c_bec (by omega) (by rw [show F + 1 + 1 = F + 2 from by omega]; omega) (by omega) (by omega) (by rw [hr]; omega) (fun D1 hb1 => ?_)
  obtain ⟨b1, b2, b3, b4, b5⟩ := hb1
  have hw : wo D1 r (spn (D (F + 2)) 0 z.toNat) := by
    refine ⟨by rw [b1, hr]; omega, Or.inl ⟨by rw [spn_len, hr]; omega, b2, by rw [spn_len, b1]; omega, ?_⟩⟩
    rw [spn_map]
    refine spn_at (fun j u v => ?_)
    rw [b4 _ (by omega) (by omega), show F + 1 + 1 = F + 2 from by omega, show (0 : Int) + (0 + j) = 0 + j from by omega, w8_id (hb _ (by omega) (by omega))]
  refine c_ptx (c_wtext (by omega) hw (fun D2 hw2 hf2 => hK D2 ?_ (frw_tr b5 hf2)))
  have ll : ((spn (D (F + 2)) 0 z.toNat ++ txl (ptx p)).length : Int) = z + ltn p := by
    rw [List.length_append, spn_len]
    unfold txl
    rw [spn_len, ptx_len hp]
    omega
  obtain ⟨q1, q2⟩ := hw2
  rw [ll] at q2
  rcases q2 with ⟨w1, w2, w3, w4⟩ | ⟨w1, w2⟩
  · refine ⟨w3, fun j u v => ?_⟩
    rw [List.map_append, atL_app, List.length_map, spn_len] at w4
    obtain ⟨x1, x2⟩ := w4
    unfold jn
    by_cases e : j < z
    · rw [if_pos e]
      rw [spn_map] at x1
      have y := spn_at (D := fun _ j => w8 (D (F + 2) j)) (a := 0) (T := fun j => w8 (D (F + 2) j)) (n := z.toNat) (s := 0) (o := 0) (fun j _ _ => rfl)
      have t := atL_eq x1 y j u (by rw [spn_len]; omega)
      rw [show (0 : Int) + j = j from by omega] at t
      rw [t, w8_id (hb j u e)]
    · rw [if_neg e]
      unfold txl at x2
      rw [spn_map] at x2
      have y := spn_at (D := fun _ j => w8 (tsc (ptx p) j)) (a := 0) (T := fun j => w8 (tsc (ptx p) j)) (n := (tsn (ptx p)).toNat) (s := 0) (o := 0) (fun j _ _ => rfl)
      have t := atL_eq x2 y (j - z) (by omega) (by rw [spn_len, ptx_len hp]; omega)
      rw [show (0 : Int) + ((z.toNat : Nat) : Int) + (j - z) = j from by omega, show (0 : Int) + (j - z) = j - z from by omega, ptx_at hp (by omega)] at t
      have := ltr_rng (w := p) (k := j - z) (by omega) (by omega)
      rw [t, w8_id (by omega)]
  · omega
/-- what the class calls a clash -/
def clC (D : tD) (s F k : Int) : Prop := ∃ p, (0 ≤ p ∧ p ≤ 6) ∧ hp (D F 5) p ∧ owQ D (aF s k) (D (F + 2)) (D (F + 1) 1) p
theorem owQ_fr {G z p : Int} {n : Int → Int} (h : ∀ a j, G ≤ a → a ≤ G + 2 → D' a j = D a j) : owQ D' G n z p ↔ owQ D G n z p := by
  unfold owQ
  rw [h G 5 (by omega) (by omega), h (G + 1) 1 (by omega) (by omega), show D' (G + 2) = D (G + 2) from funext (fun j => h _ j (by omega) (by omega))]
theorem c_clash1 {F : Int} {D0 : tD} (hs : s = 0 ∨ s = 1) (hF9 : 7 + 975 * s ≤ F ∧ F ≤ 143 + 975 * s) (hlF : ln (F + 2) = 24) (h8 : D0 (5 + 975 * s) 4 ≤ 8) (hz : 0 ≤ D0 (F + 1) 1 ∧ D0 (F + 1) 1 ≤ 24) (hb : ∀ j, 0 ≤ j → j < D0 (F + 1) 1 → -128 ≤ D0 (F + 2) j ∧ D0 (F + 2) j ≤ 127) (hG : ∀ k, 0 ≤ k → k < D0 (5 + 975 * s) 4 → 0 ≤ D0 (aF s k + 1) 1 ∧ D0 (aF s k + 1) 1 ≤ 24) (hT : (∃ k, (0 ≤ k ∧ k < D0 (5 + 975 * s) 4) ∧ clC D0 s F k) → ∀ D', frw D0 D' (978 + 975 * s) → K D' 1) (hN : (¬ ∃ k, (0 ≤ k ∧ k < D0 (5 + 975 * s) 4) ∧ clC D0 s F k) → ∀ D', frw D0 D' (978 + 975 * s) → K D' 0) : ∀ (m : Nat) (p : Int) (D : tD), 7 - p = (m : Int) → 0 ≤ p → frw D0 D (978 + 975 * s) → (∀ q, 0 ≤ q → q < p → ¬ (hp (D0 F 5) q ∧ ∃ k, (0 ≤ k ∧ k < D0 (5 + 975 * s) 4) ∧ owQ D0 (aF s k) (D0 (F + 2)) (D0 (F + 1) 1) q)) → WP sc 109 2 D [(0, (1208, 5 + 975 * s)), (1, (1204, F)), (2, (0, p))] [] K E := by
  have l32 : ln (978 + 975 * s + 1) = 32 := by rcases hs with rfl | rfl <;> rfl
  intro m
  induction m with
  | zero =>
    intro p D hm hp0 hf hj
    refine v109_2 ?_
    rw [if_neg (by omega)]
    exact hN (fun ⟨k, k1, q, q1, q2, q3⟩ => hj q q1.1 (by omega) ⟨q2, k, k1, q3⟩) D hf
  | succ m ih =>
    intro p D hm hp0 hf hj
    have lo : ∀ a j, a < 978 + 975 * s → D a j = D0 a j := fun a j u => hf a j (by omega) (by omega)
    have go : ∀ D1, frw D0 D1 (978 + 975 * s) → ¬ (hp (D0 F 5) p ∧ ∃ k, (0 ≤ k ∧ k < D0 (5 + 975 * s) 4) ∧ owQ D0 (aF s k) (D0 (F + 2)) (D0 (F + 1) 1) p) → WP sc 109 2 D1 [(0, (1208, 5 + 975 * s)), (1, (1204, F)), (2, (0, w32 (p + 1)))] [] K E := fun D1 hf1 hn => by
      rw [w32_id (by omega) (by omega)]
      refine ih (p + 1) D1 (by omega) (by omega) hf1 (fun q u v => ?_)
      by_cases e : q = p
      · rw [e]; exact hn
      · exact hj q u (by omega)
    refine v109_2 ?_
    rw [if_pos (by omega)]
    refine c_hasP (by omega) (fun hh => ?_) (fun hh => ?_)
    · rw [lo _ _ (by omega)] at hh
      rw [if_neg (by omega), show 5 + 975 * s + 973 = 978 + 975 * s from by omega]
      refine c_mkown (z := D0 (F + 1) 1) (by omega) l32 ⟨lo _ _ (by omega), hz⟩ hlF (by omega) (fun j u v => by rw [lo _ _ (by omega)]; exact hb j u v) (fun D1 ho hf1 => ?_)
      rw [show D (F + 2) = D0 (F + 2) from funext (fun j => lo _ _ (by omega))] at ho
      have hf2 := frw_tr hf hf1
      have lo1 : ∀ a j, a < 978 + 975 * s → D1 a j = D0 a j := fun a j u => hf2 a j (by omega) (by omega)
      have lp := ltn_le8 (p := p) (by omega)
      have ow : ∀ k, 0 ≤ k → k < D0 (5 + 975 * s) 4 → (owQ D1 (aF s k) (D0 (F + 2)) (D0 (F + 1) 1) p ↔ owQ D0 (aF s k) (D0 (F + 2)) (D0 (F + 1) 1) p) := fun k u v => owQ_fr (fun a j _ w => lo1 a j (by unfold aF at w; omega))
      refine c_owned hs ho (by rw [ho.1]; omega) (by rw [lo1 _ _ (by omega)]; exact h8) (fun k u v => ?_) (fun hh2 => ?_) (fun hh2 => ?_)
      · rw [lo1 _ _ (by omega)] at v
        rw [lo1 _ _ (by unfold aF; omega)]
        exact hG k u v
      · rw [if_neg (by omega)]
        rw [lo1 _ _ (by omega)] at hh2
        obtain ⟨k, k1, k2⟩ := hh2
        exact hT ⟨k, k1, p, by omega, hh, (ow k k1.1 k1.2).mp k2⟩ D1 hf2
      · rw [if_pos rfl]
        rw [lo1 _ _ (by omega)] at hh2
        exact go D1 hf2 (fun ⟨_, k, k1, k2⟩ => hh2 ⟨k, k1, (ow k k1.1 k1.2).mpr k2⟩)
    · rw [lo _ _ (by omega)] at hh
      rw [if_pos rfl]
      exact go D hf (fun w => hh w.1)
theorem c_clash {F : Int} (hs : s = 0 ∨ s = 1) (hF9 : 7 + 975 * s ≤ F ∧ F ≤ 143 + 975 * s) (hlF : ln (F + 2) = 24) (h8 : D (5 + 975 * s) 4 ≤ 8) (hz : 0 ≤ D (F + 1) 1 ∧ D (F + 1) 1 ≤ 24) (hb : ∀ j, 0 ≤ j → j < D (F + 1) 1 → -128 ≤ D (F + 2) j ∧ D (F + 2) j ≤ 127) (hG : ∀ k, 0 ≤ k → k < D (5 + 975 * s) 4 → 0 ≤ D (aF s k + 1) 1 ∧ D (aF s k + 1) 1 ≤ 24) (hT : (∃ k, (0 ≤ k ∧ k < D (5 + 975 * s) 4) ∧ clC D s F k) → ∀ D', frw D D' (978 + 975 * s) → K D' 1) (hN : (¬ ∃ k, (0 ≤ k ∧ k < D (5 + 975 * s) 4) ∧ clC D s F k) → ∀ D', frw D D' (978 + 975 * s) → K D' 0) : WP sc 109 0 D [(0, (1208, 5 + 975 * s)), (1, (1204, F))] [] K E :=
  v109_0 (c_clash1 hs hF9 hlF h8 hz hb hG hT hN 7 0 D (by omega) (by omega) frw_refl (fun q u v => by omega))
theorem ow_hp_n : ∀ kd : Fin 5, (∀ i : Fin 5, (i.val : Int) < owN (kd.val : Int) → (owW (kd.val : Int) (i.val : Int) = 0 ∨ (owW (kd.val : Int) (i.val : Int) = 1 ∧ (kd.val : Int) = 0) ∨ (owW (kd.val : Int) (i.val : Int) = 2 ∧ ((kd.val : Int) = 0 ∨ (kd.val : Int) = 2)) ∨ ((owW (kd.val : Int) (i.val : Int) = 3 ∨ owW (kd.val : Int) (i.val : Int) = 4 ∨ owW (kd.val : Int) (i.val : Int) = 5) ∧ (kd.val : Int) = 2) ∨ (owW (kd.val : Int) (i.val : Int) = 6 ∧ (kd.val : Int) = 3))) := by decide +kernel
theorem ow_hp {kd p : Int} (hk : 0 ≤ kd ∧ kd ≤ 4) : (∃ i, (0 ≤ i ∧ i < owN kd) ∧ owW kd i = p) ↔ (0 ≤ p ∧ p ≤ 6) ∧ hp kd p := by
  constructor
  · rintro ⟨i, i1, i2⟩
    have nb := owN_b kd
    have h := ow_hp_n ⟨kd.toNat, by omega⟩ ⟨i.toNat, by omega⟩
    rw [show ((kd.toNat : Nat) : Int) = kd from by omega, show ((i.toNat : Nat) : Int) = i from by omega, i2] at h
    have w := owW_in i1
    rw [i2] at w
    exact ⟨by omega, h i1.2⟩
  · rintro ⟨h1, h2⟩
    unfold hp at h2
    rcases h2 with e | ⟨e, e1⟩ | ⟨e, e1 | e1⟩ | ⟨e | e | e, e1⟩ | ⟨e, e1⟩
    · exact ⟨0, ⟨by omega, by have := owN_b kd; omega⟩, by rw [e]; rfl⟩
    · rw [e, e1]; exact ⟨1, by decide, by decide⟩
    · rw [e, e1]; exact ⟨2, by decide, by decide⟩
    · rw [e, e1]; exact ⟨4, by decide, by decide⟩
    · rw [e, e1]; exact ⟨1, by decide, by decide⟩
    · rw [e, e1]; exact ⟨2, by decide, by decide⟩
    · rw [e, e1]; exact ⟨3, by decide, by decide⟩
    · rw [e, e1]; exact ⟨1, by decide, by decide⟩
theorem clC_clF {F k : Int} (hF : 0 ≤ D F 5 ∧ D F 5 ≤ 4) (hk : 0 ≤ D (aF s k) 5 ∧ D (aF s k) 5 ≤ 4) : clC D s F k ↔ clF (D (F + 2)) (D (F + 1) 1) (D F 5) (D (aF s k + 2)) (D (aF s k + 1) 1) (D (aF s k) 5) := by
  unfold clC owQ clF
  constructor
  · rintro ⟨p, p1, p2, q, q1, q2, h⟩
    obtain ⟨i, i1, i2⟩ := (ow_hp hF).mpr ⟨p1, p2⟩
    obtain ⟨j, j1, j2⟩ := (ow_hp hk).mpr ⟨q1, q2⟩
    exact ⟨i, j, i1, j1, by rw [i2, j2]; exact h⟩
  · rintro ⟨i, j, i1, j1, h⟩
    obtain ⟨p1, p2⟩ := (ow_hp hF).mp ⟨i, i1, rfl⟩
    obtain ⟨q1, q2⟩ := (ow_hp hk).mp ⟨j, j1, rfl⟩
    exact ⟨_, p1, p2, _, q1, q2, h⟩
end CLC
