/-! own names: words, and the other side's clash -/
section OWN
variable {sc : Nat × (Nat → Int32)} {D D' : tD} {K : tD → Int → Prop} {E : tD → Nat → Prop} {c s : Int}
/-- how many letters a word has -/
def ltn (w : Int) : Int := if w = 1 then 6 else if w = 2 then 8 else if w = 3 then 7 else if w = 4 then 6 else if w = 5 then 4 else if w = 6 then 5 else if w = 7 then 7 else if w = 8 then 5 else if w = 9 then 9 else if w = 10 then 4 else if w = 11 then 8 else if w = 12 then 4 else if w = 13 then 4 else if w = 14 then 4 else if w = 15 then 3 else if w = 16 then 4 else if w = 17 then 2 else 0
theorem ltr_n : ∀ w : Fin 18, ∀ k : Fin 10, ((k.val : Int) < ltn (w.val : Int) → 1 ≤ ltr (w.val : Int) (k.val : Int) ∧ ltr (w.val : Int) (k.val : Int) ≤ 127) ∧ ((k.val : Int) = ltn (w.val : Int) → ltr (w.val : Int) (k.val : Int) = 0) ∧ 0 ≤ ltn (w.val : Int) ∧ ltn (w.val : Int) ≤ 9 := by decide +kernel
theorem ltn_le {w : Int} (hw : 0 ≤ w ∧ w < 18) : 0 ≤ ltn w ∧ ltn w ≤ 9 := by
  have h := (ltr_n ⟨w.toNat, by omega⟩ ⟨0, by omega⟩).2.2
  rw [show ((w.toNat : Nat) : Int) = w from by omega] at h
  exact h
theorem ltr_rng {w k : Int} (hw : 0 ≤ w ∧ w < 18) (hk : 0 ≤ k ∧ k < ltn w) : 1 ≤ ltr w k ∧ ltr w k ≤ 127 := by
  have hl := ltn_le hw
  have h := (ltr_n ⟨w.toNat, by omega⟩ ⟨k.toNat, by omega⟩).1
  rw [show ((w.toNat : Nat) : Int) = w from by omega, show ((k.toNat : Nat) : Int) = k from by omega] at h
  exact h hk.2
theorem ltr_end {w : Int} (hw : 0 ≤ w ∧ w < 18) : ltr w (ltn w) = 0 := by
  have hl := ltn_le hw
  have h := (ltr_n ⟨w.toNat, by omega⟩ ⟨(ltn w).toNat, by omega⟩).2.1
  rw [show ((w.toNat : Nat) : Int) = w from by omega, show (((ltn w).toNat : Nat) : Int) = ltn w from by omega] at h
  exact h rfl
theorem m_letters1 {w : Int} (hw : 0 ≤ w ∧ w < 18) (hK : K D (ltn w)) : ∀ (m : Nat) (k : Int), ltn w - k = (m : Int) → 0 ≤ k → WP sc 173 2 D [(0, (0, w)), (1, (0, k))] [] K E := by
  have hl := ltn_le hw
  intro m
  induction m with
  | zero =>
    intro k hm hk
    refine v173_2 (m_letter ?_)
    have e : k = ltn w := by omega
    rw [e, if_pos (ltr_end hw)]
    exact hK
  | succ m ih =>
    intro k hm hk
    refine v173_2 (m_letter ?_)
    have := ltr_rng hw ⟨hk, by omega⟩
    rw [if_neg (by omega), w32_id (x := k + 1) (by omega) (by omega)]
    exact ih _ (by omega) (by omega)
theorem m_letters {w : Int} (hw : 0 ≤ w ∧ w < 18) (hK : K D (ltn w)) : WP sc 173 0 D [(0, (0, w))] [] K E := by
  have hl := ltn_le hw
  exact v173_0 (m_letters1 hw hK (ltn w).toNat 0 (by omega) (by omega))
/-- the byte k of a name with a word behind it -/
def jn (n : Int → Int) (z w k : Int) : Int := if k < z then n k else ltr w (k - z)
def owP (n1 : Int → Int) (z1 v : Int) (n2 : Int → Int) (z2 w : Int) : Prop := z1 + ltn v = z2 + ltn w ∧ ∀ k, 0 ≤ k → k < z1 + ltn v → jn n1 z1 v k = jn n2 z2 w k
theorem owP_ext {n1 n2 m1 m2 : Int → Int} {z1 z2 v w : Int} (h1 : ∀ k, 0 ≤ k → k < z1 → n1 k = m1 k) (h2 : ∀ k, 0 ≤ k → k < z2 → n2 k = m2 k) (h : owP n1 z1 v n2 z2 w) : owP m1 z1 v m2 z2 w := by
  refine ⟨h.1, fun k u q => ?_⟩
  have := h.2 k u q
  unfold jn at this ⊢
  by_cases e1 : k < z1
  · rw [if_pos e1] at this ⊢
    rw [← h1 k u e1]
    by_cases e2 : k < z2
    · rw [if_pos e2] at this ⊢
      rw [← h2 k u e2]; exact this
    · rw [if_neg e2] at this ⊢; exact this
  · rw [if_neg e1] at this ⊢
    by_cases e2 : k < z2
    · rw [if_pos e2] at this ⊢
      rw [← h2 k u e2]; exact this
    · rw [if_neg e2] at this ⊢; exact this
/-- the other side's names -/
def nmf (D : tD) (f : Int) : Int → Int := fun k => D 1981 (24 * f + k)
def nzP (D : tD) (f : Int) : Prop := (0 ≤ f ∧ f < 16) ∧ 0 ≤ D 1982 f ∧ D 1982 f ≤ 24
theorem m_ownByte {f w k : Int} (hf : nzP D f) (hk : 0 ≤ k ∧ k ≤ 100) (hK : K D (jn (nmf D f) (D 1982 f) w k)) : WP sc 174 0 D [(0, (1211, 1977)), (1, (0, f)), (2, (0, w)), (3, (0, k))] [] K E := by
  obtain ⟨h1, h2, h3⟩ := hf
  unfold jn nmf at hK
  refine v174_0 ⟨h1, ?_⟩
  by_cases e : k < D 1982 f
  · rw [if_pos e] at hK ⊢
    rw [w32_id (x := 24 * f) (by omega) (by omega), w32_id (x := 24 * f + k) (by omega) (by omega)]
    exact ⟨by omega, hK⟩
  · rw [if_neg e] at hK ⊢
    rw [w32_id (by omega) (by omega)]
    exact ⟨h1, m_letter hK⟩
theorem m_ownSize {f w : Int} (hf : nzP D f) (hw : 0 ≤ w ∧ w < 18) (hK : K D (D 1982 f + ltn w)) : WP sc 175 0 D [(0, (1211, 1977)), (1, (0, f)), (2, (0, w))] [] K E := by
  have hl := ltn_le hw
  refine v175_0 ⟨hf.1, m_letters hw ?_⟩
  have := hf.2
  rw [w32_id (by omega) (by omega)]
  exact hK
theorem m_sameOwn1 {f v g w : Int} (hf : nzP D f) (hg : nzP D g) (hv : 0 ≤ v ∧ v < 18) (hw : 0 ≤ w ∧ w < 18) (he : D 1982 f + ltn v = D 1982 g + ltn w) (hT : owP (nmf D f) (D 1982 f) v (nmf D g) (D 1982 g) w → K D 1) (hN : ¬ owP (nmf D f) (D 1982 f) v (nmf D g) (D 1982 g) w → K D 0) : ∀ (m : Nat) (k b : Int), D 1982 f + ltn v - k = (m : Int) → 0 ≤ k → ((b = 1 ∧ ∀ j, 0 ≤ j → j < k → jn (nmf D f) (D 1982 f) v j = jn (nmf D g) (D 1982 g) w j) ∨ (b = 0 ∧ ¬ owP (nmf D f) (D 1982 f) v (nmf D g) (D 1982 g) w)) → WP sc 177 24 D [(0, (1211, 1977)), (1, (0, f)), (2, (0, v)), (3, (0, g)), (4, (0, w)), (5, (0, b)), (6, (0, k))] [] K E := by
  have l1 := ltn_le hv
  have z1 := hf.2
  intro m
  induction m with
  | zero =>
    intro k b hm hk h
    refine v177_24 (m_ownSize hf hv ?_)
    rw [if_neg (by omega)]
    rcases h with ⟨e, h⟩ | ⟨e, h⟩
    · rw [e]; exact tbl_of (Or.inr rfl) (hT ⟨he, fun j u q => h j u (by omega)⟩)
    · rw [e]; exact tbl_of (Or.inl rfl) (hN h)
  | succ m ih =>
    intro k b hm hk h
    refine v177_24 (m_ownSize hf hv ?_)
    rw [if_pos (by omega), w32_id (x := k + 1) (by omega) (by omega)]
    rcases h with ⟨e, h⟩ | ⟨e, h⟩
    · rw [e, if_neg (by omega)]
      refine m_ownByte hf (by omega) (m_ownByte hg (by omega) ?_)
      by_cases q : jn (nmf D f) (D 1982 f) v k = jn (nmf D g) (D 1982 g) w k
      · rw [if_pos q]
        refine ih _ _ (by omega) (by omega) (Or.inl ⟨rfl, fun j u z => ?_⟩)
        by_cases e2 : j = k
        · rw [e2]; exact q
        · exact h j u (by omega)
      · rw [if_neg q]
        exact ih _ _ (by omega) (by omega) (Or.inr ⟨rfl, fun z => q (z.2 k hk (by omega))⟩)
    · rw [if_pos e]
      exact ih _ _ (by omega) (by omega) (Or.inr ⟨rfl, h⟩)
theorem m_sameOwn {f v g w : Int} (hf : nzP D f) (hg : nzP D g) (hv : 0 ≤ v ∧ v < 18) (hw : 0 ≤ w ∧ w < 18) (hT : owP (nmf D f) (D 1982 f) v (nmf D g) (D 1982 g) w → K D 1) (hN : ¬ owP (nmf D f) (D 1982 f) v (nmf D g) (D 1982 g) w → K D 0) : WP sc 177 0 D [(0, (1211, 1977)), (1, (0, f)), (2, (0, v)), (3, (0, g)), (4, (0, w))] [] K E := by
  have l1 := ltn_le hv
  have z1 := hf.2
  refine v177_0 (m_ownSize hf hv (m_ownSize hg hw ?_))
  by_cases he : D 1982 f + ltn v = D 1982 g + ltn w
  · rw [if_pos he]
    exact m_sameOwn1 hf hg hv hw he hT hN (D 1982 f + ltn v).toNat 0 1 (by omega) (by omega) (Or.inl ⟨rfl, fun j u z => by omega⟩)
  · rw [if_neg he]
    exact hN (fun z => he z.1)
/-- the words that a kind owns -/
def owW (kd i : Int) : Int := if i = 0 then 0 else if kd = 0 then (if i < 3 then i else -1) else if kd = 1 then -1 else if kd = 2 then (if i = 1 then 3 else if i = 2 then 4 else if i = 3 then 5 else if i = 4 then 2 else -1) else if kd = 3 then (if i = 1 then 6 else -1) else -1
def owN (kd : Int) : Int := if kd = 0 then 3 else if kd = 2 then 5 else if kd = 3 then 2 else 1
theorem m_ownWord {kd i : Int} (hK : K D (owW kd i)) : WP sc 176 0 D [(0, (0, kd)), (1, (0, i))] [] K E := by
  refine v176_0 ?_
  unfold owW at hK
  simp only [apply_ite (K D)] at hK
  exact hK
theorem owN_b (kd : Int) : 1 ≤ owN kd ∧ owN kd ≤ 5 := by
  unfold owN
  repeat' split
  all_goals omega
theorem owW_in {kd i : Int} (hi : 0 ≤ i ∧ i < owN kd) : 0 ≤ owW kd i ∧ owW kd i < 7 := by
  unfold owN at hi
  unfold owW
  repeat' split
  all_goals first | omega | (simp_all; done) | (simp_all; omega)
theorem owW_out {kd : Int} : owW kd (owN kd) < 0 := by
  unfold owW owN
  by_cases k0 : kd = 0
  · rw [k0]; simp
  · by_cases k2 : kd = 2
    · rw [k2]; simp
    · by_cases k3 : kd = 3
      · rw [k3]; simp
      · rw [if_neg k0, if_neg k2, if_neg k3, if_neg (by omega), if_neg k0]
        split
        · omega
        · omega
/-- two families have an own name in common -/
def clF (n1 : Int → Int) (z1 k1 : Int) (n2 : Int → Int) (z2 k2 : Int) : Prop := ∃ i k, (0 ≤ i ∧ i < owN k1) ∧ (0 ≤ k ∧ k < owN k2) ∧ owP n1 z1 (owW k1 i) n2 z2 (owW k2 k)
theorem clF_ext {n1 n2 m1 m2 : Int → Int} {z1 z2 k1 k2 : Int} (h1 : ∀ k, 0 ≤ k → k < z1 → n1 k = m1 k) (h2 : ∀ k, 0 ≤ k → k < z2 → n2 k = m2 k) : clF n1 z1 k1 n2 z2 k2 ↔ clF m1 z1 k1 m2 z2 k2 :=
  ⟨fun ⟨i, k, a, b, d⟩ => ⟨i, k, a, b, owP_ext h1 h2 d⟩, fun ⟨i, k, a, b, d⟩ => ⟨i, k, a, b, owP_ext (fun k u v => (h1 k u v).symm) (fun k u v => (h2 k u v).symm) d⟩⟩
/-- what has been found up to a place of the two loops -/
def clQ (P : Int → Int → Prop) (N2 i k : Int) : Prop := (∃ i' k', (0 ≤ i' ∧ i' < i) ∧ (0 ≤ k' ∧ k' < N2) ∧ P i' k') ∨ ∃ k', (0 ≤ k' ∧ k' < k) ∧ P i k'
theorem clQ_row {P : Int → Int → Prop} {N2 i : Int} (hi : 0 ≤ i) : clQ P N2 i N2 ↔ clQ P N2 (i + 1) 0 := by
  constructor
  · rintro (⟨i', k', a, b, d⟩ | ⟨k', b, d⟩)
    · exact Or.inl ⟨i', k', by omega, b, d⟩
    · exact Or.inl ⟨i, k', by omega, b, d⟩
  · rintro (⟨i', k', a, b, d⟩ | ⟨k', b, d⟩)
    · by_cases e : i' = i
      · subst e; exact Or.inr ⟨k', b, d⟩
      · exact Or.inl ⟨i', k', by omega, b, d⟩
    · omega
theorem clQ_stp {P : Int → Int → Prop} {N2 i k : Int} (hk : 0 ≤ k) : clQ P N2 i (k + 1) ↔ clQ P N2 i k ∨ P i k := by
  constructor
  · rintro (h | ⟨k', b, d⟩)
    · exact Or.inl (Or.inl h)
    · by_cases e : k' = k
      · subst e; exact Or.inr d
      · exact Or.inl (Or.inr ⟨k', by omega, d⟩)
  · rintro ((h | ⟨k', b, d⟩) | h)
    · exact Or.inl h
    · exact Or.inr ⟨k', by omega, d⟩
    · exact Or.inr ⟨k, by omega, h⟩
theorem clQ_end {P : Int → Int → Prop} {N1 N2 : Int} : clQ P N2 N1 0 ↔ ∃ i k, (0 ≤ i ∧ i < N1) ∧ (0 ≤ k ∧ k < N2) ∧ P i k := by
  constructor
  · rintro (h | ⟨k', b, d⟩)
    · exact h
    · omega
  · exact fun h => Or.inl h
def b01 (b : Int) (Q : Prop) : Prop := (b = 1 ∧ Q) ∨ (b = 0 ∧ ¬ Q)
theorem b01_iff {b : Int} {Q R : Prop} (h : Q ↔ R) (hb : b01 b Q) : b01 b R := by
  rcases hb with ⟨e, q⟩ | ⟨e, q⟩
  · exact Or.inl ⟨e, h.mp q⟩
  · exact Or.inr ⟨e, fun z => q (h.mpr z)⟩
theorem m_clash2 {f g : Int} (hf : nzP D f) (hg : nzP D g) {i : Int} (hi : 0 ≤ i ∧ i < owN (D 1980 f)) {P : Int → Int → Prop} (hP : ∀ k, 0 ≤ k → k < owN (D 1980 g) → (owP (nmf D f) (D 1982 f) (owW (D 1980 f) i) (nmf D g) (D 1982 g) (owW (D 1980 g) k) ↔ P i k)) (hgo : ∀ b, b01 b (clQ P (owN (D 1980 g)) (i + 1) 0) → WP sc 178 5 D [(0, (1211, 1977)), (1, (0, f)), (2, (0, g)), (3, (0, b)), (4, (0, i + 1))] [] K E) : ∀ (m : Nat) (k b : Int), owN (D 1980 g) - k = (m : Int) → 0 ≤ k → b01 b (clQ P (owN (D 1980 g)) i k) → WP sc 178 22 D [(0, (1211, 1977)), (1, (0, f)), (2, (0, g)), (3, (0, b)), (4, (0, i)), (5, (0, k))] [] K E := by
  have n1 := owN_b (D 1980 f)
  have n2 := owN_b (D 1980 g)
  intro m
  induction m with
  | zero =>
    intro k b hm hk hb
    refine v178_22 ⟨hg.1, m_ownWord ?_⟩
    have e : k = owN (D 1980 g) := by omega
    subst e
    rw [if_pos owW_out, w32_id (x := i + 1) (by omega) (by omega)]
    exact hgo b (b01_iff (clQ_row hi.1) hb)
  | succ m ih =>
    intro k b hm hk hb
    have w1 := owW_in hi
    have w2 := owW_in (kd := D 1980 g) (i := k) ⟨hk, by omega⟩
    refine v178_22 ⟨hg.1, m_ownWord ?_⟩
    rw [if_neg (by omega), w32_id (x := k + 1) (by omega) (by omega)]
    by_cases e0 : b = 0
    · rw [if_pos e0]
      have nq : ¬ clQ P (owN (D 1980 g)) i k := by rcases hb with ⟨e, q⟩ | ⟨e, q⟩; omega; exact q
      refine ⟨hf.1, m_ownWord ⟨hg.1, m_ownWord (m_sameOwn hf hg (by omega) (by omega) (fun z => ?_) (fun z => ?_))⟩⟩
      · rw [if_neg (by omega)]
        exact ih _ _ (by omega) (by omega) (Or.inl ⟨rfl, (clQ_stp hk).mpr (Or.inr ((hP k hk (by omega)).mp z))⟩)
      · rw [if_pos rfl]
        refine ih _ _ (by omega) (by omega) (Or.inr ⟨rfl, fun y => ?_⟩)
        rcases (clQ_stp hk).mp y with y | y
        · exact nq y
        · exact z ((hP k hk (by omega)).mpr y)
    · rw [if_neg e0]
      have q : clQ P (owN (D 1980 g)) i k := by rcases hb with ⟨e, q⟩ | ⟨e, q⟩; exact q; omega
      exact ih _ _ (by omega) (by omega) (Or.inl ⟨rfl, (clQ_stp hk).mpr (Or.inl q)⟩)
theorem m_clash {f g : Int} (hf : nzP D f) (hg : nzP D g) (hT : clF (nmf D f) (D 1982 f) (D 1980 f) (nmf D g) (D 1982 g) (D 1980 g) → K D 1) (hN : ¬ clF (nmf D f) (D 1982 f) (D 1980 f) (nmf D g) (D 1982 g) (D 1980 g) → K D 0) : WP sc 178 0 D [(0, (1211, 1977)), (1, (0, f)), (2, (0, g))] [] K E := by
  have n1 := owN_b (D 1980 f)
  have n2 := owN_b (D 1980 g)
  have loop : ∀ (m : Nat) (i b : Int), owN (D 1980 f) - i = (m : Int) → 0 ≤ i → b01 b (clQ (fun i k => owP (nmf D f) (D 1982 f) (owW (D 1980 f) i) (nmf D g) (D 1982 g) (owW (D 1980 g) k)) (owN (D 1980 g)) i 0) → WP sc 178 5 D [(0, (1211, 1977)), (1, (0, f)), (2, (0, g)), (3, (0, b)), (4, (0, i))] [] K E := by
    intro m
    induction m with
    | zero =>
      intro i b hm hi hb
      refine v178_5 ⟨hf.1, m_ownWord ?_⟩
      have e : i = owN (D 1980 f) := by omega
      subst e
      rw [if_pos owW_out]
      rcases b01_iff clQ_end hb with ⟨e, q⟩ | ⟨e, q⟩
      · rw [e]; exact tbl_of (Or.inr rfl) (hT q)
      · rw [e]; exact tbl_of (Or.inl rfl) (hN q)
    | succ m ih =>
      intro i b hm hi hb
      have w1 := owW_in (kd := D 1980 f) (i := i) ⟨hi, by omega⟩
      refine v178_5 ⟨hf.1, m_ownWord ?_⟩
      rw [if_neg (by omega)]
      exact m_clash2 hf hg ⟨hi, by omega⟩ (fun k _ _ => Iff.rfl) (fun b' hb' => ih _ _ (by omega) (by omega) hb') (owN (D 1980 g)).toNat 0 b (by omega) (by omega) hb
  refine v178_0 (loop (owN (D 1980 f)).toNat 0 0 (by omega) (by omega) (Or.inr ⟨rfl, fun y => ?_⟩))
  rcases y with ⟨i', k', a, _⟩ | ⟨k', a, _⟩
  · omega
  · omega
/-! with a name on the tape -/
theorem m_cw80 {of size g x4 x5 x6 x7 x8 : Int} (hg : nzP D g) (h6 : 0 ≤ x6 ∧ x6 < 18) (h8 : 0 ≤ x8 ∧ x8 < 18) (hz : 0 ≤ size ∧ size ≤ 24) (h7 : 0 ≤ x7 ∧ x7 ≤ 10) (h4 : x4 = 0 ∨ x4 = 1) (hT : (x4 = 1 ∨ owP (D 1978) size x6 (nmf D g) (D 1982 g) x8) → WP sc 211 26 D [(0, (1211, 1977)), (1, (0, of)), (2, (0, size)), (3, (0, g)), (4, (0, 1)), (5, (0, x5)), (6, (0, x6)), (7, (0, x7 + 1))] [] K E) (hN : ¬ (x4 = 1 ∨ owP (D 1978) size x6 (nmf D g) (D 1982 g) x8) → WP sc 211 26 D [(0, (1211, 1977)), (1, (0, of)), (2, (0, size)), (3, (0, g)), (4, (0, 0)), (5, (0, x5)), (6, (0, x6)), (7, (0, x7 + 1))] [] K E) : ∀ (m : Nat) (j b : Int), size + ltn x6 - j = (m : Int) → 0 ≤ j → ((b = 1 ∧ D 1982 g + ltn x8 = size + ltn x6 ∧ ∀ q, 0 ≤ q → q < j → jn (D 1978) size x6 q = jn (nmf D g) (D 1982 g) x8 q) ∨ (b = 0 ∧ ¬ owP (D 1978) size x6 (nmf D g) (D 1982 g) x8)) → WP sc 211 80 D [(0, (1211, 1977)), (1, (0, of)), (2, (0, size)), (3, (0, g)), (4, (0, x4)), (5, (0, x5)), (6, (0, x6)), (7, (0, x7)), (8, (0, x8)), (9, (0, b)), (10, (0, j))] [] K E := by
  have l6 := ltn_le h6
  have l8 := ltn_le h8
  intro m
  have fin : ∀ b : Int, ((b = 1 ∧ owP (D 1978) size x6 (nmf D g) (D 1982 g) x8) ∨ (b = 0 ∧ ¬ owP (D 1978) size x6 (nmf D g) (D 1982 g) x8)) → (if x4 = 0 then (if b = 0 then (WP sc 211 26 D [(0, (1211, 1977)), (1, (0, of)), (2, (0, size)), (3, (0, g)), (4, (0, 0)), (5, (0, x5)), (6, (0, x6)), (7, (0, x7 + 1))] [] K E) else (WP sc 211 26 D [(0, (1211, 1977)), (1, (0, of)), (2, (0, size)), (3, (0, g)), (4, (0, 1)), (5, (0, x5)), (6, (0, x6)), (7, (0, x7 + 1))] [] K E)) else (WP sc 211 26 D [(0, (1211, 1977)), (1, (0, of)), (2, (0, size)), (3, (0, g)), (4, (0, 1)), (5, (0, x5)), (6, (0, x6)), (7, (0, x7 + 1))] [] K E)) := fun b hb => by
    by_cases e4 : x4 = 0
    · rw [if_pos e4]
      rcases hb with ⟨e, q⟩ | ⟨e, q⟩
      · rw [if_neg (by omega)]; exact hT (Or.inr q)
      · rw [if_pos e]
        refine hN (fun z => ?_)
        rcases z with z | z
        · omega
        · exact q z
    · rw [if_neg e4]
      exact hT (Or.inl (by omega))
  induction m with
  | zero =>
    intro j b hm hj h
    refine v211_80 (m_letters h6 ?_)
    rw [w32_id (x := size + ltn x6) (by omega) (by omega), if_neg (by omega), w32_id (x := x7 + 1) (by omega) (by omega)]
    refine fin b ?_
    rcases h with ⟨e, q1, q2⟩ | ⟨e, q⟩
    · exact Or.inl ⟨e, q1.symm, fun k u v => q2 k u (by omega)⟩
    · exact Or.inr ⟨e, q⟩
  | succ m ih =>
    intro j b hm hj h
    refine v211_80 (m_letters h6 ?_)
    rw [w32_id (x := size + ltn x6) (by omega) (by omega), if_pos (by omega), w32_id (x := x7 + 1) (by omega) (by omega), w32_id (x := j + 1) (by omega) (by omega)]
    rcases h with ⟨e, q1, q2⟩ | ⟨e, q⟩
    · rw [if_neg (by omega)]
      refine m_ownByte hg (by omega) ?_
      have go : ∀ y, y = jn (D 1978) size x6 j → (if jn (nmf D g) (D 1982 g) x8 j = y then (WP sc 211 80 D [(0, (1211, 1977)), (1, (0, of)), (2, (0, size)), (3, (0, g)), (4, (0, x4)), (5, (0, x5)), (6, (0, x6)), (7, (0, x7)), (8, (0, x8)), (9, (0, 1)), (10, (0, j + 1))] [] K E) else (WP sc 211 80 D [(0, (1211, 1977)), (1, (0, of)), (2, (0, size)), (3, (0, g)), (4, (0, x4)), (5, (0, x5)), (6, (0, x6)), (7, (0, x7)), (8, (0, x8)), (9, (0, 0)), (10, (0, j + 1))] [] K E)) := fun y hy => by
        rw [hy]
        by_cases z : jn (nmf D g) (D 1982 g) x8 j = jn (D 1978) size x6 j
        · rw [if_pos z]
          refine ih _ _ (by omega) (by omega) (Or.inl ⟨rfl, q1, fun k u v => ?_⟩)
          by_cases e2 : k = j
          · rw [e2]; exact z.symm
          · exact q2 k u (by omega)
        · rw [if_neg z]
          exact ih _ _ (by omega) (by omega) (Or.inr ⟨rfl, fun y => z (y.2 j hj (by omega)).symm⟩)
      by_cases e2 : j < size
      · rw [if_pos e2]
        refine ⟨by omega, go _ ?_⟩
        unfold jn
        rw [if_pos e2]
      · rw [if_neg e2, w32_id (x := j - size) (by omega) (by omega)]
        refine m_letter (go _ ?_)
        unfold jn
        rw [if_neg e2]
    · rw [if_pos e]
      exact fin b (Or.inr ⟨e, q⟩)
theorem m_clashW {of size g : Int} (hg : nzP D g) (hz : 0 ≤ size ∧ size ≤ 24) (hT : clF (D 1978) size of (nmf D g) (D 1982 g) (D 1980 g) → K D 1) (hN : ¬ clF (D 1978) size of (nmf D g) (D 1982 g) (D 1980 g) → K D 0) : WP sc 211 0 D [(0, (1211, 1977)), (1, (0, of)), (2, (0, size)), (3, (0, g))] [] K E := by
  have n1 := owN_b of
  have n2 := owN_b (D 1980 g)
  have z1 := hg.2
  have loop : ∀ (m : Nat) (i b : Int), owN of - i = (m : Int) → 0 ≤ i → b01 b (clQ (fun i k => owP (D 1978) size (owW of i) (nmf D g) (D 1982 g) (owW (D 1980 g) k)) (owN (D 1980 g)) i 0) → WP sc 211 6 D [(0, (1211, 1977)), (1, (0, of)), (2, (0, size)), (3, (0, g)), (4, (0, b)), (5, (0, i))] [] K E := by
    intro m
    induction m with
    | zero =>
      intro i b hm hi hb
      refine v211_6 (m_ownWord ?_)
      have e : i = owN of := by omega
      subst e
      rw [if_pos owW_out]
      rcases b01_iff clQ_end hb with ⟨e, q⟩ | ⟨e, q⟩
      · rw [e]; exact tbl_of (Or.inr rfl) (hT q)
      · rw [e]; exact tbl_of (Or.inl rfl) (hN q)
    | succ m ih =>
      intro i b hm hi hb
      have w1 := owW_in (kd := of) (i := i) ⟨hi, by omega⟩
      refine v211_6 (m_ownWord ?_)
      rw [if_neg (by omega)]
      refine m_ownWord ?_
      have inner : ∀ (m2 : Nat) (k b : Int), owN (D 1980 g) - k = (m2 : Int) → 0 ≤ k → b01 b (clQ (fun i k => owP (D 1978) size (owW of i) (nmf D g) (D 1982 g) (owW (D 1980 g) k)) (owN (D 1980 g)) i k) → WP sc 211 26 D [(0, (1211, 1977)), (1, (0, of)), (2, (0, size)), (3, (0, g)), (4, (0, b)), (5, (0, i)), (6, (0, owW of i)), (7, (0, k))] [] K E := by
        intro m2
        induction m2 with
        | zero =>
          intro k b hm hk hb
          refine v211_26 ⟨hg.1, m_ownWord ?_⟩
          have e : k = owN (D 1980 g) := by omega
          subst e
          rw [if_pos owW_out, w32_id (x := i + 1) (by omega) (by omega)]
          exact ih _ _ (by omega) (by omega) (b01_iff (clQ_row hi) hb)
        | succ m2 ih2 =>
          intro k b hm hk hb
          have w2 := owW_in (kd := D 1980 g) (i := k) ⟨hk, by omega⟩
          have l1 := ltn_le (w := owW of i) (by omega)
          have l2 := ltn_le (w := owW (D 1980 g) k) (by omega)
          have b4 : b = 0 ∨ b = 1 := by rcases hb with ⟨e, _⟩ | ⟨e, _⟩ <;> omega
          refine v211_26 ⟨hg.1, m_ownWord ?_⟩
          rw [if_neg (by omega)]
          refine ⟨hg.1, m_ownWord (m_ownSize hg (by omega) (m_letters (by omega) ?_))⟩
          rw [w32_id (x := size + ltn (owW of i)) (by omega) (by omega)]
          have cw := m_cw80 (sc := sc) (K := K) (E := E) (of := of) (size := size) (g := g) (x4 := b) (x5 := i) (x6 := owW of i) (x7 := k) (x8 := owW (D 1980 g) k) hg (by omega) (by omega) hz (by omega) b4 (fun z => ih2 _ _ (by omega) (by omega) (Or.inl ⟨rfl, (clQ_stp hk).mpr (by
            rcases z with z | z
            · rcases hb with ⟨e, q⟩ | ⟨e, q⟩
              · exact Or.inl q
              · omega
            · exact Or.inr z)⟩)) (fun z => ih2 _ _ (by omega) (by omega) (Or.inr ⟨rfl, fun y => z (by
            rcases (clQ_stp hk).mp y with y | y
            · rcases hb with ⟨e, q⟩ | ⟨e, q⟩
              · exact Or.inl e
              · exact absurd y q
            · exact Or.inr y)⟩))
          by_cases e : D 1982 g + ltn (owW (D 1980 g) k) = size + ltn (owW of i)
          · rw [if_pos e]
            exact cw (size + ltn (owW of i)).toNat 0 1 (by omega) (by omega) (Or.inl ⟨rfl, e, fun q u v => by omega⟩)
          · rw [if_neg e]
            exact cw (size + ltn (owW of i)).toNat 0 0 (by omega) (by omega) (Or.inr ⟨rfl, fun y => e y.1.symm⟩)
      exact inner (owN (D 1980 g)).toNat 0 b (by omega) (by omega) hb
  refine v211_0 (loop (owN of).toNat 0 0 (by omega) (by omega) (Or.inr ⟨rfl, fun y => ?_⟩))
  rcases y with ⟨i', k', a, _⟩ | ⟨k', a, _⟩
  · omega
  · omega
end OWN
