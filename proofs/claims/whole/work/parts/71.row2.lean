/-! rows: spans joined, the order of names, spans put in; sorts of bytes -/
section ROWB
variable {sc : Nat × (Nat → Int32)} {D : tD} {K : tD → Int → Prop} {E : tD → Nat → Prop}
/-- the byte of a name with a text behind it -/
def jnb (D : tD) (a t n : Int) : Int := if n < D a 1 then D (a + 1) n else tsc t (n - D a 1)
def spjn (D : tD) (r s e a t : Int) : Prop := 0 ≤ s ∧ e ≤ D r 1 ∧ e - s = D a 1 + tsn t ∧ ∀ j, s ≤ j → j < e → D (r + 1) j = jnb D a t (j - s)
theorem tsn_nn (t : Int) : 0 ≤ tsn t := by unfold tsn; omega
theorem tsn_le (t : Int) : tsn t ≤ 200 := by
  unfold tsn tstr
  split
  · rename_i q hq
    have h := Nat.le_of_ble_eq_true (List.all_eq_true.mp tstr_sz q (List.mem_of_getElem? hq))
    omega
  · show ((0 : Nat) : Int) ≤ 200
    omega
theorem c_join1 {r s e a t : Int} (h1 : D r 1 ≤ ln (r + 1)) (h2 : D a 1 ≤ ln (a + 1)) (h3 : D r 1 ≤ 20000) (h4 : 0 ≤ D a 1 ∧ D a 1 ≤ 20000) (hs : 0 ≤ s) (he : e ≤ D r 1) (hn : e - s = D a 1 + tsn t) (hT : spjn D r s e a t → K D 1) (hF : ¬ spjn D r s e a t → K D 0) (k : Int) (hk : s ≤ k) (hj : ∀ j, s ≤ j → j < k → D (r + 1) j = jnb D a t (j - s)) : WP sc 101 33 D [(0, (1207, r)), (1, (0, s)), (2, (0, e)), (3, (1207, a)), (4, (4, t)), (5, (0, k))] [] K E := by
  refine v101_33 ?_
  split
  · rename_i hlt
    have go : ∀ w, D (r + 1) k = w → jnb D a t (k - s) = w → WP sc 101 33 D [(0, (1207, r)), (1, (0, s)), (2, (0, e)), (3, (1207, a)), (4, (4, t)), (5, (0, k + 1))] [] K E := fun w e1 e2 => by
      refine c_join1 h1 h2 h3 h4 hs he hn hT hF (k + 1) (by omega) (fun j h5 h6 => ?_)
      by_cases e : j = k
      · rw [e, e1, e2]
      · exact hj j h5 (by omega)
    rw [w32_id (x := k - s) (by omega) (by omega), w32_id (x := k + 1) (by omega) (by omega)]
    split
    · rename_i hin
      refine ⟨by omega, fun _ => ⟨by omega, fun _ => ?_⟩⟩
      split
      · rename_i heq
        exact go _ heq (by unfold jnb; rw [if_pos hin])
      · rename_i hne
        exact hF (fun h => hne (by rw [h.2.2.2 k hk hlt]; unfold jnb; rw [if_pos hin]))
    · rename_i hout
      rw [w32_id (x := k - s - D a 1) (by omega) (by omega)]
      refine ⟨by omega, fun _ => ⟨by omega, fun _ => ?_⟩⟩
      split
      · rename_i heq
        exact go _ heq (by unfold jnb; rw [if_neg hout])
      · rename_i hne
        exact hF (fun h => hne (by rw [h.2.2.2 k hk hlt]; unfold jnb; rw [if_neg hout]))
  · exact hT ⟨hs, he, hn, fun j h5 h6 => hj j h5 (by omega)⟩
termination_by (e - k).toNat
decreasing_by omega
theorem c_join {r s e a t : Int} (h1 : D r 1 ≤ ln (r + 1)) (h2 : D a 1 ≤ ln (a + 1)) (h3 : D r 1 ≤ 20000) (h4 : 0 ≤ D a 1 ∧ D a 1 ≤ 20000) (hr : -2 ≤ s ∧ s ≤ 20001 ∧ -2 ≤ e ∧ e ≤ 20001) (hT : spjn D r s e a t → K D 1) (hF : ¬ spjn D r s e a t → K D 0) : WP sc 101 0 D [(0, (1207, r)), (1, (0, s)), (2, (0, e)), (3, (1207, a)), (4, (4, t))] [] K E := by
  have hn1 := tsn_nn t
  have hn2 := tsn_le t
  refine v101_0 ?_
  rw [w32_id (x := e - s) (by omega) (by omega), w32_id (x := D a 1 + tsn t) (by omega) (by omega)]
  split
  · exact hF (fun h => by have := h.1; omega)
  split
  · exact hF (fun h => by have := h.2.1; omega)
  split
  · rename_i hs he hn
    exact c_join1 h1 h2 h3 h4 (by omega) (by omega) hn hT hF s (by omega) (fun j _ _ => by omega)
  · rename_i hn
    exact hF (fun h => hn h.2.2.1)
/-- the order of two names that end with a byte 1 -/
def onm (D : tD) (a s b t x : Int) : Prop := ∃ k, 0 ≤ k ∧ (∀ j, 0 ≤ j → j < k → s + j < D a 1 ∧ t + j < D b 1 ∧ D (a + 1) (s + j) = D (b + 1) (t + j) ∧ D (a + 1) (s + j) ≠ 1) ∧
  ((x = 0 ∧ (D a 1 ≤ s + k ∨ D b 1 ≤ t + k)) ∨ (s + k < D a 1 ∧ t + k < D b 1 ∧ ((D (a + 1) (s + k) = D (b + 1) (t + k) ∧ D (a + 1) (s + k) = 1 ∧ x = 0) ∨ (D (a + 1) (s + k) < D (b + 1) (t + k) ∧ x = -1) ∨ (D (b + 1) (t + k) < D (a + 1) (s + k) ∧ x = 1))))
theorem c_onm1 {a s b t : Int} (h1 : D a 1 ≤ ln (a + 1)) (h2 : D b 1 ≤ ln (b + 1)) (h3 : D a 1 ≤ 20000) (h4 : D b 1 ≤ 20000) (hs : 0 ≤ s ∧ s ≤ 20001) (ht : 0 ≤ t ∧ t ≤ 20001) (hK : ∀ x, onm D a s b t x → K D x) (k : Int) (hk : 0 ≤ k ∧ k ≤ 20001) (hj : ∀ j, 0 ≤ j → j < k → s + j < D a 1 ∧ t + j < D b 1 ∧ D (a + 1) (s + j) = D (b + 1) (t + j) ∧ D (a + 1) (s + j) ≠ 1) : WP sc 102 3 D [(0, (1207, a)), (1, (0, s)), (2, (1207, b)), (3, (0, t)), (4, (0, k))] [] K E := by
  refine v102_3 ?_
  rw [w32_id (x := s + k) (by omega) (by omega), w32_id (x := t + k) (by omega) (by omega), w32_id (x := k + 1) (by omega) (by omega)]
  split
  · rename_i c1
    split
    · rename_i c2
      refine ⟨by omega, fun _ => ⟨by omega, fun _ => ?_⟩⟩
      split
      · rename_i heq
        split
        · rename_i h1
          exact hK _ ⟨k, hk.1, hj, Or.inr ⟨c1, c2, Or.inl ⟨heq, h1, rfl⟩⟩⟩
        · rename_i hne
          refine c_onm1 h1 h2 h3 h4 hs ht hK (k + 1) (by omega) (fun j h5 h6 => ?_)
          by_cases e : j = k
          · rw [e]; exact ⟨c1, c2, heq, hne⟩
          · exact hj j h5 (by omega)
      · rename_i hne
        split
        · rename_i hlt
          exact hK _ ⟨k, hk.1, hj, Or.inr ⟨c1, c2, Or.inr (Or.inl ⟨hlt, rfl⟩)⟩⟩
        · rename_i hge
          exact hK _ ⟨k, hk.1, hj, Or.inr ⟨c1, c2, Or.inr (Or.inr ⟨by omega, rfl⟩)⟩⟩
    · exact hK _ ⟨k, hk.1, hj, Or.inl ⟨rfl, by omega⟩⟩
  · exact hK _ ⟨k, hk.1, hj, Or.inl ⟨rfl, by omega⟩⟩
termination_by (D a 1 - (s + k)).toNat
decreasing_by omega
theorem c_onm {a s b t : Int} (h1 : D a 1 ≤ ln (a + 1)) (h2 : D b 1 ≤ ln (b + 1)) (h3 : D a 1 ≤ 20000) (h4 : D b 1 ≤ 20000) (hs : 0 ≤ s ∧ s ≤ 20001) (ht : 0 ≤ t ∧ t ≤ 20001) (hK : ∀ x, onm D a s b t x → K D x) : WP sc 102 0 D [(0, (1207, a)), (1, (0, s)), (2, (1207, b)), (3, (0, t))] [] K E :=
  v102_0 (c_onm1 h1 h2 h3 h4 hs ht hK 0 (by omega) (fun j _ _ => by omega))
/-- a span put into a row -/
def rins (D : tD) (r p q s e : Int) : tD := wr (tcy (tcy D (r + 1) p (r + 1) (p + (e - s)) (D r 1 - p)) (q + 1) s (r + 1) p (e - s)) r 1 (D r 1 + (e - s))
def rinsOk (D : tD) (r p q s e : Int) : Prop := 0 ≤ s ∧ s ≤ e ∧ e ≤ D q 1 ∧ 0 ≤ p ∧ p ≤ D r 1 ∧ e - s ≤ ln (r + 1) - D r 1
theorem tcy_ne {D : tD} {a sp d dp n b j : Int} (h : b ≠ d) : tcy D a sp d dp n b j = D b j := if_neg (fun e => h e.1)
theorem c_ins {r p q s e : Int} (h0 : 0 ≤ D r 1) (h1 : D r 1 ≤ ln (r + 1)) (h2 : D q 1 ≤ ln (q + 1)) (h3 : ln (r + 1) ≤ 20000) (h4 : D q 1 ≤ 20000) (hrg : -2 ≤ s ∧ s ≤ 20001 ∧ -2 ≤ e ∧ e ≤ 20001) (hT : rinsOk D r p q s e → K (rins D r p q s e) 0) (hF : ¬ rinsOk D r p q s e → K (wr D r 2 1) 0) : WP sc 94 0 D [(0, (1207, r)), (1, (0, p)), (2, (1207, q)), (3, (0, s)), (4, (0, e))] [] K E := by
  refine v94_0 ?_
  rw [w32_id (x := e - s) (by omega) (by omega), w32_id (x := ln (r + 1) - D r 1) (by omega) (by omega)]
  split
  · exact hF (fun h => by unfold rinsOk at h; omega)
  split
  · exact hF (fun h => by unfold rinsOk at h; omega)
  split
  · exact hF (fun h => by unfold rinsOk at h; omega)
  split
  · exact hF (fun h => by unfold rinsOk at h; omega)
  split
  · exact hF (fun h => by unfold rinsOk at h; omega)
  split
  · exact hF (fun h => by unfold rinsOk at h; omega)
  · rw [w32_id (x := D r 1 - p) (by omega) (by omega), w32_id (x := p + (e - s)) (by omega) (by omega)]
    refine ⟨by omega, by omega, ?_⟩
    rw [show (tcy (tcy D (r + 1) p (r + 1) (p + (e - s)) (D r 1 - p)) (q + 1) s (r + 1) p (e - s)) r 1 = D r 1 from by rw [tcy_ne (by omega), tcy_ne (by omega)], w32_id (by omega) (by omega)]
    exact hT (by unfold rinsOk; omega)
/-- sorts of bytes -/
def srt (s b : Int) : Bool := (decide (97 ≤ b ∧ b ≤ 122) && (s == 1 || decide (3 ≤ s))) || (decide (65 ≤ b ∧ b ≤ 90) && (s == 0 || decide (4 ≤ s))) || (decide (48 ≤ b ∧ b ≤ 57) && decide (2 ≤ s)) || (b == 95 && decide (3 ≤ s)) || (b == 58 && decide (5 ≤ s))
theorem srt_iff (s b : Int) : srt s b = true ↔ ((97 ≤ b ∧ b ≤ 122) ∧ (s = 1 ∨ 3 ≤ s)) ∨ ((65 ≤ b ∧ b ≤ 90) ∧ (s = 0 ∨ 4 ≤ s)) ∨ ((48 ≤ b ∧ b ≤ 57) ∧ 2 ≤ s) ∨ (b = 95 ∧ 3 ≤ s) ∨ (b = 58 ∧ 5 ≤ s) := by
  unfold srt
  simp only [Bool.or_eq_true, Bool.and_eq_true, decide_eq_true_eq, beq_iff_eq]
  omega
theorem c_sort {s b : Int} (hs : 0 ≤ s ∧ s ≤ 5) (hT : srt s b = true → K D 1) (hF : ¬ srt s b = true → K D 0) : WP sc 295 0 D [(0, (0, s)), (1, (0, b))] [] K E := by
  have hs6 : s = 0 ∨ s = 1 ∨ s = 2 ∨ s = 3 ∨ s = 4 ∨ s = 5 := by omega
  rw [srt_iff] at hT hF
  refine v295_0 ?_
  rcases hs6 with e | e | e | e | e | e
  all_goals simp only [e, show ¬ ((0 : Int) = 1) from by decide, show ¬ ((0 : Int) = 2) from by decide, show ¬ ((1 : Int) = 0) from by decide, show ¬ ((1 : Int) = 2) from by decide, show ¬ ((2 : Int) = 0) from by decide, show ¬ ((2 : Int) = 1) from by decide, show ¬ ((3 : Int) = 0) from by decide, show ¬ ((3 : Int) = 1) from by decide, show ¬ ((3 : Int) = 2) from by decide, show ¬ ((4 : Int) = 0) from by decide, show ¬ ((4 : Int) = 1) from by decide, show ¬ ((4 : Int) = 2) from by decide, show ¬ ((4 : Int) = 3) from by decide, show ¬ ((5 : Int) = 0) from by decide, show ¬ ((5 : Int) = 1) from by decide, show ¬ ((5 : Int) = 2) from by decide, show ¬ ((5 : Int) = 3) from by decide, show ¬ ((5 : Int) = 4) from by decide, if_true, if_false]
  all_goals repeat' split
  all_goals first
    | (exfalso; omega)
    | (refine hT ?_; omega)
    | (refine hF ?_; omega)
end ROWB
