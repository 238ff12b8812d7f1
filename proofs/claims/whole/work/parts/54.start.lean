/-! the fresh heap is as the memory D0 says -/
theorem okv_ref {b a i : Nat} {d : Int} {m3 : Nat} (h : (decide ((b : Int) = d) && Nat.blt b 2018 && Nat.beq (tkd b + 1000) m3 && Nat.ble 1000 m3) = true) : vr (m3, d) (.ref b) ∧ 1000 ≤ m3 := by
  obtain ⟨h, h4⟩ := (Bool.and_eq_true _ _).mp h
  obtain ⟨h, h3⟩ := (Bool.and_eq_true _ _).mp h
  obtain ⟨h1, h2⟩ := (Bool.and_eq_true _ _).mp h
  have e1 : (b : Int) = d := of_decide_eq_true h1
  have e2 := nblt.mp h2
  have e3 : tkd b + 1000 = m3 := nbeq.mp h3
  have e4 : 1000 ≤ m3 := Nat.le_of_ble_eq_true h4
  refine ⟨vnp' (by omega) ⟨by omega, by omega, ?_, ?_⟩, e4⟩
  · rw [← e1, Int.toNat_natCast]
  · rw [← e1, Int.toNat_natCast]; exact e3
theorem okv_spec {m : Nat × Int × Nat} {a i : Nat} {v : Value} (h : okv m a i v = true) : fdr m a (D0 a i) v := by
  obtain ⟨m1, m2, m3⟩ := m
  rcases m1 with _ | _ | _ | _ | _ | _ | m1
  · cases v with
    | int x => exact vi' (of_decide_eq_true h)
    | _ => exact Bool.noConfusion (h : false = true)
  · cases v with
    | int x =>
      have h0 : (decide (x.toInt = D0 a i) && decide (0 ≤ D0 a i) && decide (D0 a i ≤ 1)) = true := h
      obtain ⟨h1, h3⟩ := (Bool.and_eq_true _ _).mp h0
      obtain ⟨h1, h2⟩ := (Bool.and_eq_true _ _).mp h1
      exact ⟨vi' (of_decide_eq_true h1), of_decide_eq_true h2, of_decide_eq_true h3⟩
    | _ => exact Bool.noConfusion (h : false = true)
  · cases v with
    | long x => exact vl' (of_decide_eq_true h)
    | _ => exact Bool.noConfusion (h : false = true)
  · cases v with
    | ref b => exact okv_ref (a := a) (i := i) h
    | _ => exact Bool.noConfusion (h : false = true)
  · cases v with
    | null =>
      have h0 : (decide (D0 a i = -1) && Nat.ble 1000 m3) = true := h
      obtain ⟨h1, h2⟩ := (Bool.and_eq_true _ _).mp h0
      exact ⟨Or.inl ⟨of_decide_eq_true h1, rfl⟩, Nat.le_of_ble_eq_true h2⟩
    | _ => exact Bool.noConfusion (h : false = true)
  · cases v with
    | ref b => exact okv_ref (a := a) (i := i) h
    | _ => exact Bool.noConfusion (h : false = true)
  · exact Bool.noConfusion (h : false = true)
theorem okf_spec {c a : Nat} : ∀ {fs : List Value} {i0 : Nat}, okf c a fs i0 = true → ∀ i v, fs[i]? = some v → fdr (tfm c (i0 + i)) a (D0 a ((i0 + i : Nat) : Int)) v := by
  intro fs
  induction fs with
  | nil => intro i0 h i v hv; simp at hv
  | cons w r ih =>
    intro i0 h i v hv
    have h2 : (okv (tfm c i0) a i0 w && okf c a r (i0 + 1)) = true := h
    obtain ⟨h3, h4⟩ := (Bool.and_eq_true _ _).mp h2
    cases i with
    | zero =>
      rw [List.getElem?_cons_zero] at hv
      cases hv
      exact okv_spec h3
    | succ i =>
      rw [List.getElem?_cons_succ] at hv
      have h5 := ih h4 i v hv
      rw [show i0 + 1 + i = i0 + (i + 1) from by omega] at h5
      exact h5
theorem D0_arr {a : Nat} {j : Int} (h : tkd a = 0 ∨ tkd a = 1 ∨ tkd a = 2 ∨ tkd a = 3) : D0 a j = if a = 1993 then 24 else 0 := by
  have n1 : tkd 1957 = 202 := by decide +kernel
  have n2 : tkd 1968 = 202 := by decide +kernel
  have n3 : tkd 1977 = 211 := by decide +kernel
  have n4 : tkd 1955 = 210 := by decide +kernel
  have n5 : tkd 1956 = 209 := by decide +kernel
  have q1 : a ≠ 1957 := fun e => by subst e; omega
  have q2 : a ≠ 1968 := fun e => by subst e; omega
  have q3 : a ≠ 1977 := fun e => by subst e; omega
  have q4 : a ≠ 1955 := fun e => by subst e; omega
  have q5 : a ≠ 1956 := fun e => by subst e; omega
  unfold D0
  by_cases h0 : a = 1993
  · rw [if_pos (by omega), if_pos h0]
  · rw [if_neg (by omega), if_neg (by omega), if_neg (by omega), if_neg (by omega), if_neg (by omega), if_neg (by omega), if_neg (by omega), if_neg (by omega), if_neg h0]
set_option maxRecDepth 8000 in
theorem okc_spec {x : Option pv_E} {a : Nat} (h1 : okc false x a = true) (h2 : okc true x a = true) : cer x D0 a := by
  have hD : ∀ j : Nat, tkd a = 0 ∨ tkd a = 1 ∨ tkd a = 2 ∨ tkd a = 3 → D0 a j = if a = 1993 then 24 else 0 := fun j h => D0_arr h
  unfold okc at h1 h2
  split at h1
  · rename_i hk
    rw [cer_0 hk]
    rw [hk] at h2
    dsimp only at h2
    split at h2
    · rename_i n f
      obtain ⟨g1, g2⟩ := (Bool.and_eq_true _ _).mp h2
      have e1 := nbeq.mp g1
      subst e1
      refine ⟨f, rfl, fun j hj => ?_⟩
      have e2 := of_decide_eq_true (List.all_eq_true.mp g2 j (List.mem_range.mpr hj))
      rw [e2]
      refine vi' ?_
      rw [hD j (Or.inl hk)]
      unfold okz
      by_cases ha : a = 1993
      · rw [if_pos ha, nbeq.mpr ha]; rfl
      · rw [if_neg ha, nbne ha]; rfl
    · cases h2
  · rename_i hk
    rw [cer_1 hk]
    rw [hk] at h2
    dsimp only at h2
    split at h2
    · rename_i n f
      obtain ⟨g1, g3⟩ := (Bool.and_eq_true _ _).mp h2
      obtain ⟨g1, g2⟩ := (Bool.and_eq_true _ _).mp g1
      have e1 := nbeq.mp g1
      subst e1
      have ha : a ≠ 1993 := fun e => by rw [nbeq.mpr e] at g3; cases g3
      refine ⟨f, rfl, fun j hj => ?_⟩
      have e2 := of_decide_eq_true (List.all_eq_true.mp g2 j (List.mem_range.mpr hj))
      rw [e2, hD j (Or.inr (Or.inl hk)), if_neg ha]
      exact vl' rfl
    · cases h2
  · rename_i hk
    rw [cer_2 hk]
    rw [hk] at h2
    dsimp only at h2
    split at h2
    · rename_i n f
      obtain ⟨g1, g3⟩ := (Bool.and_eq_true _ _).mp h2
      obtain ⟨g1, g2⟩ := (Bool.and_eq_true _ _).mp g1
      have e1 := nbeq.mp g1
      subst e1
      have ha : a ≠ 1993 := fun e => by rw [nbeq.mpr e] at g3; cases g3
      refine ⟨f, rfl, fun j hj => ?_⟩
      have e2 := of_decide_eq_true (List.all_eq_true.mp g2 j (List.mem_range.mpr hj))
      rw [e2, hD j (Or.inr (Or.inr (Or.inl hk))), if_neg ha]
      exact ⟨vi' rfl, by omega, by omega⟩
    · cases h2
  · rename_i hk
    rw [cer_3 hk]
    rw [hk] at h2
    dsimp only at h2
    split at h2
    · rename_i n f
      obtain ⟨g1, g3⟩ := (Bool.and_eq_true _ _).mp h2
      obtain ⟨g1, g2⟩ := (Bool.and_eq_true _ _).mp g1
      have e1 := nbeq.mp g1
      subst e1
      have ha : a ≠ 1993 := fun e => by rw [nbeq.mpr e] at g3; cases g3
      refine ⟨f, rfl, fun j hj => ?_⟩
      have e2 := of_decide_eq_true (List.all_eq_true.mp g2 j (List.mem_range.mpr hj))
      rw [e2, hD j (Or.inr (Or.inr (Or.inr hk))), if_neg ha]
      exact ⟨vi' rfl, by omega, by omega⟩
    · cases h2
  · rename_i k hk
    unfold cer
    rw [hk]
    dsimp only
    cases hb : Nat.blt (k + 4) 200 with
    | true =>
      rw [hb] at h1
      rw [if_pos (nblt.mp hb)]
      dsimp only [cond_true, cond_false] at h1
      split at h1
      · rename_i k2 n f
        obtain ⟨g, g5⟩ := (Bool.and_eq_true _ _).mp h1
        obtain ⟨g, g4⟩ := (Bool.and_eq_true _ _).mp g
        obtain ⟨g, g3⟩ := (Bool.and_eq_true _ _).mp g
        obtain ⟨g1, g2⟩ := (Bool.and_eq_true _ _).mp g
        have e1 := nbeq.mp g1
        have e2 := nbeq.mp g2
        subst e1 e2
        refine ⟨f, rfl, Nat.le_of_ble_eq_true g3, g4, fun j hj => ?_⟩
        have h6 := List.all_eq_true.mp g5 j (List.mem_range.mpr hj)
        split at h6
        · rename_i b hfb
          rw [hfb]
          obtain ⟨q, q3⟩ := (Bool.and_eq_true _ _).mp h6
          obtain ⟨q1, q2⟩ := (Bool.and_eq_true _ _).mp q
          have e4 : (b : Int) = a + 1 + tsd (k + 4 - 10) * (j : Nat) := of_decide_eq_true q1
          have e5 := nblt.mp q2
          refine vnp' (by omega) ⟨by omega, by omega, ?_, ?_⟩
          · rw [← e4, Int.toNat_natCast]; rfl
          · rw [← e4, Int.toNat_natCast]; exact nbeq.mp q3
        · cases h6
      · cases h1
    | false =>
      rw [hb] at h1
      rw [if_neg (by have := nblf hb; omega)]
      dsimp only [cond_true, cond_false] at h1
      split at h1
      · rename_i c fs
        obtain ⟨g, g4⟩ := (Bool.and_eq_true _ _).mp h1
        obtain ⟨g, g3⟩ := (Bool.and_eq_true _ _).mp g
        obtain ⟨g1, g2⟩ := (Bool.and_eq_true _ _).mp g
        have e1 := nbeq.mp g1
        subst e1
        refine ⟨fs, rfl, nbeq.mp g2, nblt.mp g3, fun i v hv => ?_⟩
        have h5 := okf_spec g4 i v hv
        rw [Nat.zero_add] at h5
        exact h5
      · cases h1
