/-! the law's loop: cap, bound -/
section CAP
variable {sc : Nat × (Nat → Int32)} {D D' : tD} {K : tD → Int → Prop} {E : tD → Nat → Prop} {s c i : Int}
theorem RL_upd (hR : RL RSc D c) (hc : c < 600) (h1 : D' (-1) 0 = D (-1) 0 ∨ D' (-1) 0 = D (-1) 0 + 1) (hf : ∀ a j, depA a j → ¬ depS a j → D' a j = D a j) (hs : RSc (c + 1) D') : RL RSc D' (c + 1) := by
  obtain ⟨r1, r2, r3, r4, r5, r6, r7, r8⟩ := hR
  have h0 : ∀ a j, a = 0 ∧ j = 8 ∨ (1 ≤ a ∧ a ≤ 4) ∨ (a = 1957 ∧ (j = 0 ∨ j = 3)) ∨ (a = 1968 ∧ j = 0) ∨ (a = 1977 ∧ (j = 2 ∨ j = 3 ∨ j = 43 ∨ j = 46)) ∨ a = 1978 ∨ a = 2013 → D' a j = D a j := fun a j h => hf a j (Or.inr h) (fun w => by rcases w with w | w | w | w <;> omega)
  refine ⟨rowm_T ⟨fun j => h0 _ _ (by omega), fun j => h0 _ _ (by omega), fun j => h0 _ _ (by omega), h0 _ _ (by omega)⟩ r1, rowm_W ⟨fun j => h0 _ _ (by omega), fun j => h0 _ _ (by omega), fun j => h0 _ _ (by omega), h0 _ _ (by omega)⟩ r2, ?_, ?_, ?_, by omega, by omega, hs⟩
  · rw [h0 0 8 (by omega), h0 1977 3 (by omega)]; omega
  · rw [h0 1957 3 (by omega), h0 1977 46 (by omega)]; exact r4
  · rw [h0 1957 0 (by omega), h0 1968 0 (by omega)]; exact r5
/-- the parts of a family -/
def faB (D : tD) (s f : Int) : Prop := D (aF s f) 6 = D 1988 (8 * s + f) ∧ 0 ≤ D (aF s f) 6 ∧ D (aF s f) 6 ≤ 6 ∧ (D (aF s f) 5 ≠ 2 → D (aF s f) 6 = 0) ∧ (∀ k, 0 ≤ k → k < D (aF s f) 6 → D (aF s f + 7) k = D 1987 (6 * (8 * s + f) + k) ∧ -mostN ≤ D (aF s f + 7) k ∧ D (aF s f + 7) k ≤ mostN) ∧ ∀ k, 0 ≤ k → k + 1 < D (aF s f) 6 → D (aF s f + 7) k < D (aF s f + 7) (k + 1)
def faT (D : tD) (s f : Int) : Prop := D (aF s f) 7 = D 1991 (8 * s + f) ∧ 0 ≤ D (aF s f) 7 ∧ D (aF s f) 7 ≤ 4 ∧ (D (aF s f) 5 ≠ 4 → D (aF s f) 7 = 0) ∧ ∀ k, 0 ≤ k → k < D (aF s f) 7 → rowm D (aF s f + 9 + 2 * k) 12 1989 (12 * (4 * (8 * s + f) + k)) (D 1990 (4 * (8 * s + f) + k)) ∧ txtP D (aF s f + 9 + 2 * k) 0 (D (aF s f + 9 + 2 * k) 1) 12
def faU (D : tD) (s f : Int) : Prop := s = 0 → D (aF s f) 8 = D 1993 f ∧ 0 ≤ D (aF s f) 8 ∧ D (aF s f) 8 ≤ 24 ∧ D (aF s f) 9 = D 1992 f
theorem faR_mk {f : Int} (h5 : D' (aF s f) 5 = D (aF s f) 5) (hr : ∀ a j, aF s f + 1 ≤ a → a ≤ aF s f + 6 → D' a j = D a j) (hm : ∀ a j, 1980 ≤ a → a ≤ 1986 → D' a j = D a j) (hB : faB D' s f) (hT : faT D' s f) (hU : faU D' s f) (hx : faR D s f) : faR D' s f := by
  have hq : ∀ q, 1 ≤ q → q ≤ 5 → ∀ p, rat D' (aF s f + q) p = rat D (aF s f + q) p := fun q u v => rat_fr (hr _ _ (by omega) (by omega)) (fun j => hr _ _ (by omega) (by omega))
  obtain ⟨a1, ⟨a2, a3⟩, a4, ⟨a5, a6⟩, -, -, -⟩ := hx
  refine ⟨by rw [h5, hm 1980 _ (by omega) (by omega)]; exact a1, ⟨rowm_fr (fun j => hr _ _ (by omega) (by omega)) (fun j => hr _ _ (by omega) (by omega)) (fun j => hm _ _ (by omega) (by omega)) (hm _ _ (by omega) (by omega)) a2, ?_⟩, rowm_fr (fun j => hr _ _ (by omega) (by omega)) (fun j => hr _ _ (by omega) (by omega)) (fun j => hm _ _ (by omega) (by omega)) (hm _ _ (by omega) (by omega)) a4, ⟨rowm_fr (fun j => hr _ _ (by omega) (by omega)) (fun j => hr _ _ (by omega) (by omega)) (fun j => hm _ _ (by omega) (by omega)) (hm _ _ (by omega) (by omega)) a5, ?_⟩, hB, hT, hU⟩
  · rw [hr _ _ (by omega) (by omega)]; exact namP_fr (hq 1 (by omega) (by omega)) a3
  · rw [hr _ _ (by omega) (by omega)]; exact txtP_fr (hq 5 (by omega) (by omega)) a6
theorem faB_fr {f : Int} (h5 : D' (aF s f) 5 = D (aF s f) 5) (h6 : D' (aF s f) 6 = D (aF s f) 6) (h7 : ∀ j, D' (aF s f + 7) j = D (aF s f + 7) j) (hm : ∀ j, D' 1988 j = D 1988 j) (hn : ∀ j, D' 1987 j = D 1987 j) (hx : faB D s f) : faB D' s f := by
  unfold faB at hx ⊢
  simp only [h5, h6, h7, hm, hn]
  exact hx
theorem faT_fr {f : Int} (h5 : D' (aF s f) 5 = D (aF s f) 5) (h7 : D' (aF s f) 7 = D (aF s f) 7) (hr : ∀ a j, aF s f + 9 ≤ a → a ≤ aF s f + 16 → D' a j = D a j) (hm : ∀ a j, 1989 ≤ a → a ≤ 1991 → D' a j = D a j) (hx : faT D s f) : faT D' s f := by
  obtain ⟨b1, b2, b3, b4, b5⟩ := hx
  refine ⟨by rw [h7, hm _ _ (by omega) (by omega)]; exact b1, by omega, by omega, by rw [h5, h7]; exact b4, fun k x y => ?_⟩
  rw [h7] at y
  obtain ⟨b6, b7⟩ := b5 k x y
  refine ⟨rowm_fr (fun j => hr _ _ (by omega) (by omega)) (fun j => hr _ _ (by omega) (by omega)) (fun j => hm _ _ (by omega) (by omega)) (hm _ _ (by omega) (by omega)) b6, ?_⟩
  rw [hr _ _ (by omega) (by omega)]
  exact txtP_fr (rat_fr (hr _ _ (by omega) (by omega)) (fun j => hr _ _ (by omega) (by omega))) b7
/-- what a change of the kept sheet leaves of the rest -/
theorem RSc_kept (h : RSc c D) (h0 : shR (c + 1) D' 0) (hf : ∀ a j, (980 ≤ a ∧ a ≤ 1954) ∨ (1971 ≤ a ∧ a ≤ 1973) ∨ a = 2008 ∨ (a = 1977 ∧ (j = 22 ∨ j = 35)) → D' a j = D a j) (hm : ∀ a j, 1979 ≤ a → a ≤ 2007 → a ≠ 1992 → a ≠ 1993 → (a = 1979 → j = 1) → ((∃ f, 0 ≤ f ∧ f < 8 ∧ fdep 1 f a j) ∨ (∃ k, 0 ≤ k ∧ k < 24 ∧ cdep 1 k a j) ∨ a = 1979 ∨ ((a = 1994 ∨ a = 1996) ∧ 24 ≤ j ∧ j < 48)) → D' a j = D a j) (hu : ∀ a j, (a = 1979 ∧ j = 0) ∨ a = 1981 ∨ a = 1982 → D' a j = D a j) : RSc (c + 1) D' := by
  obtain ⟨a1, a2, ⟨b1, b2, b3⟩, a4⟩ := h
  have h1 : ∀ a j, 1971 ≤ a → a ≤ 1973 → D' a j = D a j := fun a j x y => hf a j (by omega)
  refine ⟨h0, shR_fr2 (Or.inr rfl) (by omega) (fun a j u => ?_) a2, ⟨rowm_fr (fun j => h1 _ _ (by omega) (by omega)) (fun j => h1 _ _ (by omega) (by omega)) (fun j => hf _ _ (by omega)) (hf _ _ (by omega)) b1, lsW_fr (h1 _ _ (by omega) (by omega)) (rat_fr (h1 _ _ (by omega) (by omega)) (fun j => h1 _ _ (by omega) (by omega))) (h1 _ _ (by omega) (by omega)) b2, by rw [h1 _ _ (by omega) (by omega)]; exact b3⟩, ?_⟩
  · rcases u with u | u | u | u | u | u | u
    · exact hf _ _ (by omega)
    · exact hm _ _ (by omega) (by omega) (by omega) (by omega) (fun _ => u.2) (Or.inr (Or.inr (Or.inl u.1)))
    · exact hm _ _ (by omega) (by omega) (by omega) (by omega) (fun e => by omega) (Or.inl u.2)
    · omega
    · exact hm _ _ (by omega) (by omega) (by omega) (by omega) (fun e => by omega) (Or.inr (Or.inr (Or.inr (by omega))))
    · exact hm _ _ (by omega) (by omega) (by omega) (by omega) (fun e => by omega) (Or.inr (Or.inl u.2))
    · exact hf _ _ (by omega)
  · rw [hf 1977 22 (by omega)]
    exact ⟨by omega, by omega, unq_fr hu a4.2.2⟩
theorem c_isFam {f k : Int} (hn : 0 ≤ D 1979 0 ∧ D 1979 0 ≤ 8) (hT : (0 ≤ f ∧ f < D 1979 0) ∧ (k < 0 ∨ D 1980 f = k) → K D 1) (hF : ¬ ((0 ≤ f ∧ f < D 1979 0) ∧ (k < 0 ∨ D 1980 f = k)) → K D 0) : WP sc 212 0 D [(0, (1211, 1977)), (1, (0, f)), (2, (0, k))] [] K E := by
  refine v212_0 ⟨by decide +kernel, ?_⟩
  rw [w32_id (x := D 1979 0 - 1) (by omega) (by omega)]
  refine c_within (fun h => ?_) (fun h => ?_)
  · rw [if_neg (by omega)]
    split
    · rename_i q
      exact hT ⟨by omega, Or.inl q⟩
    · rename_i q
      refine ⟨by omega, ?_⟩
      split
      · rename_i q2
        exact hT ⟨by omega, Or.inr q2⟩
      · rename_i q2
        exact hF (fun w => by rcases w.2 with w2 | w2; exact q w2; exact q2 w2)
  · rw [if_pos rfl]
    exact hF (fun w => h (by omega))
theorem bump_ne {a j : Int} (h : a ≠ -1) : bump D a j = D a j := wr_ne h
theorem l_cap (hR : RL RSc D c) (hc : c < 600) (hi : 0 ≤ i ∧ i + 5 ≤ (sc.1 : Int) ∧ (sc.1 : Int) ≤ 2560) (hgo : ∀ D', RL RSc D' (c + 1) → WP sc 317 1610 D' (LV i) [] K E) : WP sc 317 563 D (LV i) [] K E := by
  have r6 := hR.2.2.2.2.2.1
  have r8 := hR.2.2.2.2.2.2.2
  have hn := r8.1.1
  rw [show (5 : Int) + 975 * 0 = 5 from rfl] at hn
  refine v317_563 ?_
  rw [w32_id (x := i + 1) (by omega) (by omega), w32_id (x := i + 2) (by omega) (by omega)]
  refine ⟨by omega, fun hx => ⟨by omega, fun hy => v303_0 (v9_0 ?_)⟩⟩
  generalize tsv sc (i + 1) = f at hx ⊢
  generalize tsv sc (i + 2) = v at hy ⊢
  have no : ¬ ((0 ≤ f ∧ f < D 5 4) ∧ 0 ≤ v ∧ v ≤ 24) → D (-1) 0 < 599000 ∧ (if (90 : Nat) = 90 then (0 ≤ i + 1 ∧ i + 1 < (sc.1 : Int)) ∧ (-2147483648 ≤ f ∧ f ≤ 2147483647 → (0 ≤ i + 2 ∧ i + 2 < (sc.1 : Int)) ∧ (-2147483648 ≤ v ∧ v ≤ 2147483647 → WP sc 217 0 (bump D) [(0, (1211, 1977)), (1, (0, f)), (2, (0, v))] [] (fun D4 _ => WP sc 166 0 D4 [(0, (1211, 1977))] [] (fun D7 r8 => if r8 = 1 then WP sc 317 1610 D7 (LV i) [] K E else K D7 0) (fun D7 e9 => E D7 e9)) (fun D4 e6 => E D4 e6))) else False) := fun hno => by
    refine ⟨by omega, ?_⟩
    rw [if_pos rfl]
    refine ⟨by omega, fun _ => ⟨by omega, fun _ => v217_0 (c_isFam (by rw [bump_ne (by omega)]; omega) (fun h => ?_) (fun h => ?_))⟩⟩
    · rw [if_neg (by omega)]
      refine c_within (fun h2 => absurd ⟨by rw [bump_ne (by omega)] at h; omega, h2⟩ hno) (fun h2 => ?_)
      rw [if_pos rfl]
      refine c_fails1 ?_
      rw [if_neg (by omega)]
      exact tail_v wr_self (hgo _ (RL_thr hR hc))
    · rw [if_pos rfl]
      refine c_fails1 ?_
      rw [if_neg (by omega)]
      exact tail_v wr_self (hgo _ (RL_thr hR hc))
  refine c_famAt (s := 0) (Or.inl rfl) (by rw [show (5 : Int) + 975 * 0 = 5 from rfl]; omega) (fun h => ?_) (fun h => ?_)
  · rw [show (5 : Int) + 975 * 0 = 5 from rfl] at h
    rw [if_neg (by unfold aF; omega)]
    split
    · exact no (by omega)
    split
    · exact no (by omega)
    rename_i h0 h24
    refine ⟨by omega, fun _ => ⟨by omega, fun _ => v217_0 (c_isFam (by rw [wr_ne (by unfold aF; omega)]; omega) (fun h2 => ?_) (fun h2 => ?_))⟩⟩
    · rw [if_neg (by omega)]
      refine c_within (fun h3 => ?_) (fun h3 => absurd (by omega) h3)
      rw [if_neg (by omega)]
      refine c_fails0 ?_
      rw [if_pos rfl]
      refine ⟨by omega, ?_⟩
      have hfa := r8.1.2.1 f h.1 (by rw [show (5 : Int) + 975 * 0 = 5 from rfl]; omega)
      have ne : ∀ a j, a ≠ aF 0 f → a ≠ 1977 → a ≠ 1993 → (wr (wr (wr D (aF 0 f) 8 v) 1977 0 0) 1993 f v) a j = D a j := fun a j u1 u2 u3 => by rw [wr_ne u3, wr_ne u2, wr_ne u1]
      have nj : ∀ j, j ≠ 8 → (wr (wr (wr D (aF 0 f) 8 v) 1977 0 0) 1993 f v) (aF 0 f) j = D (aF 0 f) j := fun j u => by rw [wr_ne (by unfold aF; omega), wr_ne (by unfold aF; omega), wr_ni u]
      refine tail_v ?_ (hgo _ (RL_upd hR hc (Or.inl (ne _ _ (by unfold aF; omega) (by omega) (by omega))) (fun a j u1 u2 => ?_) (RSc_kept r8 (shR_fam (f := f) (Or.inl rfl) (by omega) (by omega) (fun _ => ?_) ⟨nj _ (by omega), Int.le_of_eq (nj _ (by omega)).symm⟩ (fun a j u1 u2 => ?_) r8.1) (fun a j u => ?_) (fun a j u1 u2 u3 u4 u5 u6 => ?_) (fun a j u => ne _ _ (by unfold aF; omega) (by omega) (by omega)))))
      · rw [wr_ne (by omega), wr_self]
      · simp only [wr]
        rcases u1 with u1 | u1
        · exact absurd u1 u2
        · rw [if_neg (by omega), if_neg (by omega), if_neg (by unfold aF; omega)]
      · refine faR_mk (nj _ (by omega)) (fun a j x y => ne _ _ (by omega) (by unfold aF at y; omega) (by unfold aF at y; omega)) (fun a j x y => ne _ _ (by unfold aF; omega) (by omega) (by omega)) (faB_fr (nj _ (by omega)) (nj _ (by omega)) (fun j => ne _ _ (by omega) (by unfold aF; omega) (by unfold aF; omega)) (fun j => ne _ _ (by unfold aF; omega) (by omega) (by omega)) (fun j => ne _ _ (by unfold aF; omega) (by omega) (by omega)) hfa.2.2.2.2.1) (faT_fr (nj _ (by omega)) (nj _ (by omega)) (fun a j x y => ne _ _ (by omega) (by unfold aF at y; omega) (by unfold aF at y; omega)) (fun a j x y => ne _ _ (by unfold aF; omega) (by omega) (by omega)) hfa.2.2.2.2.2.1) (fun _ => ?_) hfa
        have h9 := hfa.2.2.2.2.2.2 rfl
        rw [nj 9 (by omega), ne 1992 f (by unfold aF; omega) (by omega) (by omega), show (wr (wr (wr D (aF 0 f) 8 v) 1977 0 0) 1993 f v) (aF 0 f) 8 = v from by rw [wr_ne (by unfold aF; omega), wr_ne (by unfold aF; omega), wr_self], wr_self]
        exact ⟨rfl, by omega, by omega, h9.2.2.2⟩
      · have v1 : ¬ (aF 0 f ≤ a ∧ a ≤ aF 0 f + 16) := fun w => u2 (Or.inl w)
        by_cases e1 : a = 1993
        · have e2 : j ≠ f := fun w => u2 (Or.inr (Or.inr (Or.inr (Or.inr (Or.inr (Or.inr (Or.inr (Or.inr ⟨rfl, Or.inr e1, w⟩))))))))
          rw [wr_ni e2, wr_ne (by omega), wr_ne (by omega)]
        · by_cases e2 : a = 1977
          · have : j = 22 := by unfold sdep at u1; omega
            rw [e2, this]
            simp only [wr]
            rw [if_neg (by omega), if_neg (by omega), if_neg (by unfold aF; omega)]
          · exact ne _ _ (by omega) e2 e1
      · simp only [wr]
        rw [if_neg (by omega), if_neg (by omega), if_neg (by unfold aF; omega)]
      · exact ne _ _ (by unfold aF; omega) (by omega) u4
    · exfalso
      refine h2 ⟨?_, Or.inl (by omega)⟩
      rw [wr_ne (by unfold aF; omega)]
      omega
  · rw [if_pos rfl]
    rw [show (5 : Int) + 975 * 0 = 5 from rfl] at h
    exact no (by omega)
end CAP
