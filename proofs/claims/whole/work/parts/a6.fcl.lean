/-! family: the class -/
section FCL
variable {sc : Nat × (Nat → Int32)} {D D' : tD} {K : tD → Int → Prop} {E : tD → Nat → Prop} {c c' s : Int}
def flk (D : tD) (G F : Int) : Prop := D G 5 = D F 5 ∧ eqr D (G + 1) (F + 1) ∧ eqr D (G + 3) (F + 3) ∧ eqr D (G + 5) (F + 5)
def fsz (D : tD) (G : Int) : Prop := (0 ≤ D (G + 1) 1 ∧ D (G + 1) 1 ≤ 24) ∧ (0 ≤ D (G + 3) 1 ∧ D (G + 3) 1 ≤ 8) ∧ (0 ≤ D (G + 5) 1 ∧ D (G + 5) 1 ≤ 40) ∧ ln (G + 2) = 24 ∧ ln (G + 4) = 8 ∧ ln (G + 6) = 40
theorem c_flike {G F : Int} (hG : fsz D G) (hF : fsz D F) (hT : flk D G F → K D 1) (hN : ¬ flk D G F → K D 0) : WP sc 62 0 D [(0, (1204, G)), (1, (1204, F))] [] K E := by
  obtain ⟨g1, g2, g3, g4, g5, g6⟩ := hG
  obtain ⟨f1, f2, f3, f4, f5, f6⟩ := hF
  have x1 : ∀ y : Int, y + 1 + 1 = y + 2 := fun y => by omega
  have x3 : ∀ y : Int, y + 3 + 1 = y + 4 := fun y => by omega
  have x5 : ∀ y : Int, y + 5 + 1 = y + 6 := fun y => by omega
  refine v62_0 ?_
  by_cases e : D G 5 = D F 5
  · rw [if_pos e]
    refine c_like (by rw [x1]; omega) (by rw [x1]; omega) (by omega) (fun h1 => ?_) (fun h1 => ?_)
    · rw [if_neg (by omega)]
      refine c_like (by rw [x3]; omega) (by rw [x3]; omega) (by omega) (fun h2 => ?_) (fun h2 => ?_)
      · rw [if_neg (by omega)]
        refine c_like (by rw [x5]; omega) (by rw [x5]; omega) (by omega) (fun h3 => ?_) (fun h3 => ?_)
        · rw [if_neg (by omega)]
          exact hT ⟨e, h1, h2, h3⟩
        · rw [if_pos rfl]
          exact hN (fun w => h3 w.2.2.2)
      · rw [if_pos rfl]
        exact hN (fun w => h2 w.2.2.1)
    · rw [if_pos rfl]
      exact hN (fun w => h1 w.2.1)
  · rw [if_neg e]
    exact hN (fun w => e w.1)
theorem c_flfind1 {F : Int} (hs : s = 0 ∨ s = 1) (h8 : D (5 + 975 * s) 4 ≤ 8) (hG : ∀ k, 0 ≤ k → k < D (5 + 975 * s) 4 → fsz D (aF s k)) (hF : fsz D F) (hK : ∀ r, fstP (fun k => flk D (aF s k) F) (D (5 + 975 * s) 4) r → K D r) : ∀ (m : Nat) (k : Int), 9 - k = (m : Int) → 0 ≤ k → (∀ j, 0 ≤ j → j < k → j < D (5 + 975 * s) 4 → ¬ flk D (aF s j) F) → WP sc 108 2 D [(0, (1208, 5 + 975 * s)), (1, (1204, F)), (2, (0, k))] [] K E := by
  have l9 := ln_fams hs
  intro m
  induction m with
  | zero =>
    intro k hm hk hj
    refine v108_2 ?_
    rw [if_neg (by omega)]
    exact hK _ (Or.inl ⟨rfl, fun j u v => hj j u (by omega) v⟩)
  | succ m ih =>
    intro k hm hk hj
    refine v108_2 ?_
    by_cases e : k < D (5 + 975 * s) 4
    · rw [if_pos e, l9]
      refine ⟨by omega, ?_⟩
      rw [show 5 + 975 * s + 1 + 1 + 17 * k = aF s k from by unfold aF; omega]
      refine c_flike (hG k hk e) hF (fun h => ?_) (fun h => ?_)
      · rw [if_neg (by omega)]
        exact hK _ (Or.inr ⟨hk, e, h, fun j u v => hj j u v (by omega)⟩)
      · rw [if_pos rfl, w32_id (by omega) (by omega)]
        refine ih (k + 1) (by omega) (by omega) (fun j u v w => ?_)
        by_cases e2 : j = k
        · rw [e2]; exact h
        · exact hj j u (by omega) w
    · rw [if_neg e]
      exact hK _ (Or.inl ⟨rfl, fun j u v => hj j u (by omega) v⟩)
theorem c_flfind {F : Int} (hs : s = 0 ∨ s = 1) (h8 : D (5 + 975 * s) 4 ≤ 8) (hG : ∀ k, 0 ≤ k → k < D (5 + 975 * s) 4 → fsz D (aF s k)) (hF : fsz D F) (hK : ∀ r, fstP (fun k => flk D (aF s k) F) (D (5 + 975 * s) 4) r → K D r) : WP sc 108 0 D [(0, (1208, 5 + 975 * s)), (1, (1204, F))] [] K E :=
  v108_0 (c_flfind1 hs h8 hG hF hK 9 0 (by omega) (by omega) (fun j u v => by omega))
theorem kd_fam_n : ((List.range 18).all fun f => Nat.beq (tkd (9 + 975 * (f / 9) + 17 * (f % 9))) 2 && Nat.beq (tkd (11 + 975 * (f / 9) + 17 * (f % 9))) 2 && Nat.beq (tkd (13 + 975 * (f / 9) + 17 * (f % 9))) 2) = true := by decide +kernel
theorem kd_fam {s f : Int} (hs : s = 0 ∨ s = 1) (hf : 0 ≤ f ∧ f < 9) : tkd (aF s f + 2).toNat = 2 ∧ tkd (aF s f + 4).toNat = 2 ∧ tkd (aF s f + 6).toNat = 2 := by
  have h := List.all_eq_true.mp kd_fam_n (9 * s.toNat + f.toNat) (List.mem_range.mpr (by omega))
  simp only [Bool.and_eq_true] at h
  obtain ⟨⟨h1, h2⟩, h3⟩ := h
  refine ⟨?_, ?_, ?_⟩
  · rw [show (aF s f + 2).toNat = 9 + 975 * ((9 * s.toNat + f.toNat) / 9) + 17 * ((9 * s.toNat + f.toNat) % 9) from by unfold aF; omega]
    exact Nat.eq_of_beq_eq_true h1
  · rw [show (aF s f + 4).toNat = 11 + 975 * ((9 * s.toNat + f.toNat) / 9) + 17 * ((9 * s.toNat + f.toNat) % 9) from by unfold aF; omega]
    exact Nat.eq_of_beq_eq_true h2
  · rw [show (aF s f + 6).toNat = 13 + 975 * ((9 * s.toNat + f.toNat) / 9) + 17 * ((9 * s.toNat + f.toNat) % 9) from by unfold aF; omega]
    exact Nat.eq_of_beq_eq_true h3
/-- the other side's: a family is what the tape tells -/
def mlk (D : tD) (kd a b n k : Int) : Prop := D 1980 k = kd ∧ msmP D 1981 (24 * k) (D 1982 k) 0 a ∧ msmP D 1983 (8 * k) (D 1984 k) (a + 1) b ∧ msmP D 1985 (40 * k) (D 1986 k) (b + 1) n
theorem row_msm {r q cap arr off m o n a b : Int} (hr : rowm D r cap arr off m) (hbr : ∀ j, 0 ≤ j → j < m → -128 ≤ D (r + 1) j ∧ D (r + 1) j ≤ 127) (hz : D' q 1 = b - a) (hq : ∀ j, 0 ≤ j → j < b - a → D' (q + 1) j = D 2 (o + j)) (hT : ∀ j, 0 ≤ j → j < n → D 2 j % 256 = D 1978 j ∧ -128 ≤ D 2 j ∧ D 2 j ≤ 127) (ho : o = a ∧ 0 ≤ a ∧ b ≤ n) (h1 : D' r 1 = D r 1) (h2 : ∀ j, D' (r + 1) j = D (r + 1) j) : eqr D' r q ↔ msmP D arr off m a b := by
  obtain ⟨r1, r2, r3, r4⟩ := hr
  unfold eqr msmP
  rw [h1, hz, r1]
  constructor
  · rintro ⟨e1, e2⟩
    refine ⟨e1, fun j u v => ?_⟩
    have t := hT (a + j) (by omega) (by omega)
    have := e2 j u v
    rw [h2, hq j u (by omega), ho.1] at this
    rw [← r4 j u v, this]
    exact t.1
  · rintro ⟨e1, e2⟩
    refine ⟨e1, fun j u v => ?_⟩
    have t := hT (a + j) (by omega) (by omega)
    have := e2 j u v
    rw [← r4 j u v] at this
    have w := hbr j u v
    rw [h2, hq j u (by omega), ho.1]
    omega
/-- what stands on the class's side where no family came to be -/
def CF (D D' : tD) (F : Int) : Prop := D' 1 1 = 0 ∧ ∀ x j, x ≠ 1 → x < F ∨ F + 6 < x → x ≠ 978 → x ≠ 979 → D' x j = D x j
def clM (D : tD) (kd a k : Int) : Prop := clF (D 1978) a kd (nmf D k) (D 1982 k) (D 1980 k)
theorem c_family {kd : Int} (hok : okD D) (hR : RL RSc D c) (hc : c < 600) (hB : (¬ ((0 ≤ kd ∧ kd ≤ 4) ∧ ∃ a b, famT (D 1978) (D 1977 2) kd a b)) → ∀ D', CF D D' (aF 0 (D 5 4)) → E (bump D') 90) (hL : ∀ a b r D', (0 ≤ kd ∧ kd ≤ 4) → famT (D 1978) (D 1977 2) kd a b → (0 ≤ r ∧ r < D 5 4) → mlk D kd a b (D 1977 2) r → CF D D' (aF 0 (D 5 4)) → K D' r) (hU : ∀ a b D', (0 ≤ kd ∧ kd ≤ 4) → famT (D 1978) (D 1977 2) kd a b → (∀ k, 0 ≤ k → k < D 5 4 → ¬ mlk D kd a b (D 1977 2) k) → (∃ k, (0 ≤ k ∧ k < D 5 4) ∧ clM D kd a k) → CF D D' (aF 0 (D 5 4)) → E (bump D') 92) (hS : ∀ a b D', (0 ≤ kd ∧ kd ≤ 4) → famT (D 1978) (D 1977 2) kd a b → (∀ k, 0 ≤ k → k < D 5 4 → ¬ mlk D kd a b (D 1977 2) k) → (¬ ∃ k, (0 ≤ k ∧ k < D 5 4) ∧ clM D kd a k) → D 5 4 = 8 → CF D D' (aF 0 (D 5 4)) → E (bump D') 91) (hG : ∀ a b D', (0 ≤ kd ∧ kd ≤ 4) → famT (D 1978) (D 1977 2) kd a b → (∀ k, 0 ≤ k → k < D 5 4 → ¬ mlk D kd a b (D 1977 2) k) → (¬ ∃ k, (0 ≤ k ∧ k < D 5 4) ∧ clM D kd a k) → D 5 4 < 8 → CF D D' (aF 0 (D 5 4)) → nfQ D D' (aF 0 (D 5 4)) kd a b (D 1977 2) → K (wr D' 5 4 (D 5 4 + 1)) (D 5 4)) : WP sc 5 0 D [(0, (1200, 0)), (1, (0, kd))] [] K E := by
  have r6 := hR.2.2.2.2.2.1
  have h0 := hR.2.2.2.2.2.2.2.1
  have h8 := h0.1
  rw [show (5 : Int) + 975 * 0 = 5 from rfl] at h8
  obtain ⟨⟨t1, t2, t3⟩, tb⟩ := tape_b hok hR
  have tb2 : ∀ j, 0 ≤ j → j < D 1977 2 → D 2 j % 256 = D 1978 j ∧ -128 ≤ D 2 j ∧ D 2 j ≤ 127 := fun j u v => by
    obtain ⟨q1, q2, q3⟩ := tb j u v
    refine ⟨?_, q2⟩
    rw [← q1]
    unfold rat
    rw [if_pos ⟨u, by omega⟩]
    rfl
  generalize hn : D 1977 2 = n at *
  generalize hf : D 5 4 = f at *
  have eF : aF 0 f = 7 + 17 * f := by unfold aF; omega
  have l9 : ln (5 + 1) = 9 := rfl
  have lF1 := ln_nam (s := 0) (f := f) (Or.inl rfl) (by omega)
  have lF2 := ln_uni (s := 0) (f := f) (Or.inl rfl) (by omega)
  have lF3 := ln_hel (s := 0) (f := f) (Or.inl rfl) (by omega)
  have hfa : ∀ k, 0 ≤ k → k < f → faR D 0 k := fun k u v => h0.2.1 k u (by rw [show (5 : Int) + 975 * 0 = 5 from rfl, hf]; exact v)
  have m0 : ∀ k : Int, 8 * (0 : Int) + k = k := fun k => by omega
  have cl0 : ∀ (D1 : tD) a j, a ≠ 1 → (rclear D1 1) a j = D1 a j := fun D1 a j u => by unfold rclear; rw [wr_ne u, wr_ne u]
  have cl1 : ∀ (D1 : tD), (rclear D1 1) 1 1 = 0 := fun D1 => by unfold rclear; rw [wr_ni (by omega), wr_self]
  have no : (¬ ((0 ≤ kd ∧ kd ≤ 4) ∧ ∃ a b, famT (D 1978) n kd a b)) → ∀ D1 : tD, (∀ x j, x < aF 0 f ∨ aF 0 f + 6 < x → D1 x j = D x j) → WP sc 89 0 D1 [(0, (1207, 1))] [] (fun D4 _ => D4 (-1) 0 < 599000 ∧ E (wr D4 (-1) 0 (D4 (-1) 0 + 1)) 90) (fun D4 e6 => E D4 e6) := fun h D1 hD1 => c_clear ⟨by rw [cl0 _ _ _ (by omega), hD1 _ _ (by omega)]; omega, hB h _ ⟨cl1 D1, fun x j u v w z => by rw [cl0 _ _ _ u]; exact hD1 x j v⟩⟩
  refine v5_0 (v105_0 ?_)
  have main : ∀ r2, r2 = aF 0 f → (if r2 = -1 then (if kd < 0 then (WP sc 89 0 D [(0, (1207, 1))] [] (fun D4 _ => D4 (-1) 0 < 599000 ∧ E (wr D4 (-1) 0 (D4 (-1) 0 + 1)) 90) (fun D4 e6 => E D4 e6)) else (if kd < 5 then False else (WP sc 89 0 D [(0, (1207, 1))] [] (fun D7 _ => D7 (-1) 0 < 599000 ∧ E (wr D7 (-1) 0 (D7 (-1) 0 + 1)) 90) (fun D7 e9 => E D7 e9)))) else (if kd < 0 then (WP sc 89 0 D [(0, (1207, 1))] [] (fun D10 _ => D10 (-1) 0 < 599000 ∧ E (wr D10 (-1) 0 (D10 (-1) 0 + 1)) 90) (fun D10 e12 => E D10 e12)) else (if kd < 5 then (WP sc 57 0 D [(0, (1204, r2)), (1, (0, kd)), (2, (1207, 1))] [] (fun D13 r14 => if r14 = 0 then (WP sc 89 0 D13 [(0, (1207, 1))] [] (fun D16 _ => D16 (-1) 0 < 599000 ∧ E (wr D16 (-1) 0 (D16 (-1) 0 + 1)) 90) (fun D16 e18 => E D16 e18)) else (WP sc 89 0 D13 [(0, (1207, 1))] [] (fun D19 _ => WP sc 108 0 D19 [(0, (1208, 5)), (1, (1204, r2))] [] (fun D22 r23 => if r23 < 0 then (WP sc 109 0 D22 [(0, (1208, 5)), (1, (1204, r2))] [] (fun D25 r26 => if r26 = 0 then (if D25 5 4 < 8 then (WP sc 106 0 D25 [(0, (1208, 5))] [] (fun D28 r29 => K D28 r29) (fun D28 e30 => E D28 e30)) else (D25 (-1) 0 < 599000 ∧ E (wr D25 (-1) 0 (D25 (-1) 0 + 1)) 91)) else (D25 (-1) 0 < 599000 ∧ E (wr D25 (-1) 0 (D25 (-1) 0 + 1)) 92)) (fun D25 e27 => E D25 e27)) else (K D22 r23)) (fun D22 e24 => E D22 e24)) (fun D19 e21 => E D19 e21))) (fun D13 e15 => E D13 e15)) else (WP sc 89 0 D [(0, (1207, 1))] [] (fun D31 _ => D31 (-1) 0 < 599000 ∧ E (wr D31 (-1) 0 (D31 (-1) 0 + 1)) 90) (fun D31 e33 => E D31 e33))))) := fun r2 e2 => by
    subst e2
    rw [if_neg (by omega)]
    by_cases k0 : kd < 0
    · rw [if_pos k0]
      exact no (fun w => by omega) D (fun _ _ _ => rfl)
    rw [if_neg k0]
    by_cases k5 : kd < 5
    · rw [if_pos k5]
      refine c_ftake (n := n) (T := D 1978) t3 ⟨t1, t2⟩ (fun j u v => (tb j u v).1) (fun j u v => (tb j u v).2.1) lF1 lF2 lF3 (by omega) (fun a b D1 hfam hq hlo => ?_) (fun hno D1 hlo => ?_)
      · rw [if_neg (by omega)]
        refine c_clear ?_
        have hCF : CF D (rclear D1 1) (aF 0 f) := ⟨cl1 D1, fun x j u v _ _ => by rw [cl0 _ _ _ u]; exact hlo x j v⟩
        have lo : ∀ x j, x ≠ 1 → x < aF 0 f ∨ aF 0 f + 6 < x → (rclear D1 1) x j = D x j := fun x j u v => by rw [cl0 _ _ _ u]; exact hlo x j v
        have fh := hfam.1
        obtain ⟨fn1, fn2, fn3, fn4⟩ := hfam.2.2.2.2.2.1
        have fx := hfam.2.2.2.2.2.2.1
        have fu : b - a - 1 ≤ 8 := by
          rcases hfam.2.2.2.2.2.2.2 with w | w
          · omega
          · have := w.1; omega
        have hQ : nfQ D (rclear D1 1) (aF 0 f) kd a b n := by
          obtain ⟨⟨q1, q2, q3, q4, q5⟩, ⟨q6, q7⟩, ⟨q8, q9⟩, q10, q11⟩ := hq
          refine ⟨⟨?_, ?_, ?_, ?_, ?_⟩, ⟨?_, fun j u v => ?_⟩, ⟨?_, fun j u v => ?_⟩, ?_, fun j u v => ?_⟩ <;> rw [cl0 _ _ _ (by omega)]
          · exact q1
          · exact q2
          · exact q3
          · exact q4
          · exact q5
          · exact q6
          · exact q7 j u v
          · exact q8
          · exact q9 j u v
          · exact q10
          · exact q11 j u v
        clear hq hlo
        generalize rclear D1 1 = D2 at *
        obtain ⟨⟨q1, q2, q3, q4, q5⟩, ⟨q6, q7⟩, ⟨q8, q9⟩, q10, q11⟩ := hQ
        have hx2 := fx.2.1
        have d54 : D2 5 4 = f := by rw [lo _ _ (by omega) (by omega)]; exact hf
        have kf : ∀ k, 0 ≤ k → k < f → ∀ x j, aF 0 k ≤ x → x ≤ aF 0 k + 6 → D2 x j = D x j := fun k u v x j w z => by
          have ek : aF 0 k = 7 + 17 * k := by unfold aF; omega
          exact lo x j (by omega) (by omega)
        have fszk : ∀ k, 0 ≤ k → k < f → fsz D2 (aF 0 k) := fun k u v => by
          obtain ⟨_, ⟨g1, _⟩, g2, ⟨g3, _⟩, _⟩ := hfa k u v
          have o := kf k u v
          refine ⟨?_, ?_, ?_, ln_nam (Or.inl rfl) (by omega), ln_uni (Or.inl rfl) (by omega), ln_hel (Or.inl rfl) (by omega)⟩
          · rw [o _ _ (by omega) (by omega), g1.1]; exact ⟨g1.2.1, g1.2.2.1⟩
          · rw [o _ _ (by omega) (by omega), g2.1]; exact ⟨g2.2.1, g2.2.2.1⟩
          · rw [o _ _ (by omega) (by omega), g3.1]; exact ⟨g3.2.1, g3.2.2.1⟩
        have lki : ∀ k, 0 ≤ k → k < f → (flk D2 (aF 0 k) (aF 0 f) ↔ mlk D kd a b n k) := fun k u v => by
          obtain ⟨g0, ⟨g1, _⟩, g2, ⟨g3, _⟩, _⟩ := hfa k u v
          have o := kf k u v
          have ek : aF 0 k = 7 + 17 * k := by unfold aF; omega
          obtain ⟨d1, d2, d3⟩ := kd_fam (s := 0) (f := k) (Or.inl rfl) (by omega)
          rw [m0] at g0 g1 g2 g3
          unfold flk mlk
          rw [o _ _ (by omega) (by omega), q1, g0.1]
          have i1 := row_msm (D := D) (D' := D2) (q := aF 0 f + 1) (o := 0) (n := n) (a := 0) (b := a) g1 (fun j u v => okD_byte hok (by omega) (by rw [show aF 0 k + 1 + 1 = aF 0 k + 2 from by omega]; exact d1) ⟨u, by rw [show aF 0 k + 1 + 1 = aF 0 k + 2 from by omega, ln_nam (Or.inl rfl) (by omega)]; have := g1.2.2.1; omega⟩) (by omega) (fun j u v => by rw [show aF 0 f + 1 + 1 = aF 0 f + 2 from by omega, q7 j u (by omega), show (0 : Int) + j = j from by omega]) tb2 (by omega) (o _ _ (by omega) (by omega)) (fun j => o _ _ (by omega) (by omega))
          have i2 := row_msm (D := D) (D' := D2) (q := aF 0 f + 3) (o := a + 1) (n := n) (a := a + 1) (b := b) g2 (fun j u v => okD_byte hok (by omega) (by rw [show aF 0 k + 3 + 1 = aF 0 k + 4 from by omega]; exact d2) ⟨u, by rw [show aF 0 k + 3 + 1 = aF 0 k + 4 from by omega, ln_uni (Or.inl rfl) (by omega)]; have := g2.2.2.1; omega⟩) (by omega) (fun j u v => by rw [show aF 0 f + 3 + 1 = aF 0 f + 4 from by omega, q9 j u (by omega)]) tb2 (by omega) (o _ _ (by omega) (by omega)) (fun j => o _ _ (by omega) (by omega))
          have i3 := row_msm (D := D) (D' := D2) (q := aF 0 f + 5) (o := b + 1) (n := n) (a := b + 1) (b := n) g3 (fun j u v => okD_byte hok (by omega) (by rw [show aF 0 k + 5 + 1 = aF 0 k + 6 from by omega]; exact d3) ⟨u, by rw [show aF 0 k + 5 + 1 = aF 0 k + 6 from by omega, ln_hel (Or.inl rfl) (by omega)]; have := g3.2.2.1; omega⟩) (by omega) (fun j u v => by rw [show aF 0 f + 5 + 1 = aF 0 f + 6 from by omega, q11 j u (by omega)]) tb2 (by omega) (o _ _ (by omega) (by omega)) (fun j => o _ _ (by omega) (by omega))
          rw [i1, i2, i3]
        have hfzF : fsz D2 (aF 0 f) := ⟨by omega, by omega, by omega, lF1, lF2, lF3⟩
        rw [show (5 : Int) = 5 + 975 * 0 from rfl]
        refine c_flfind (s := 0) (Or.inl rfl) (by rw [show (5 : Int) + 975 * 0 = 5 from rfl]; omega) (fun k u v => fszk k u (by rw [show (5 : Int) + 975 * 0 = 5 from rfl, d54] at v; exact v)) hfzF (fun r hr => ?_)
        rw [show (5 : Int) + 975 * 0 = 5 from rfl, d54] at hr
        rcases hr with ⟨r1, r2⟩ | ⟨r1, r2, r3, r4⟩
        · have nl : ∀ k, 0 ≤ k → k < f → ¬ mlk D kd a b n k := fun k u v w => r2 k u v ((lki k u v).mpr w)
          rw [if_pos (by omega)]
          have cli : ∀ k, 0 ≤ k → k < f → (clC D2 0 (aF 0 f) k ↔ clM D kd a k) := fun k u v => by
            obtain ⟨g0, ⟨g1, _⟩, g2, ⟨g3, _⟩, _⟩ := hfa k u v
            have o := kf k u v
            have ek : aF 0 k = 7 + 17 * k := by unfold aF; omega
            rw [m0] at g0 g1
            rw [clC_clF (by omega) (by rw [o _ _ (by omega) (by omega)]; exact g0.2), q6, q1, o _ 5 (by omega) (by omega), o (aF 0 k + 1) 1 (by omega) (by omega), g1.1, g0.1]
            unfold clM
            obtain ⟨d1, _⟩ := kd_fam (s := 0) (f := k) (Or.inl rfl) (by omega)
            obtain ⟨_, ⟨_, nm⟩, _⟩ := hfa k u v
            refine clF_ext (fun j x y => ?_) (fun j x y => ?_)
            · rw [q7 j x y]
              obtain ⟨w1, w2⟩ := tb2 j x (by omega)
              have := fn4 j x y
              rw [srt_iff] at this
              omega
            · unfold nmf
              rw [o _ _ (by omega) (by omega)]
              have e := g1.2.2.2 j x y
              rw [show aF 0 k + 1 + 1 = aF 0 k + 2 from by omega] at e
              have w := okD_byte hok (a := aF 0 k + 2) (j := j) (by omega) d1 ⟨x, by rw [ln_nam (Or.inl rfl) (by omega)]; have := g1.2.2.1; omega⟩
              have n4 := nm.2.2.2.1 j x (by rw [g1.1]; exact y)
              rw [if_pos rfl] at n4
              have n5 : rat D (aF 0 k + 1) j = D (aF 0 k + 1 + 1) j % 256 := if_pos ⟨x, by rw [g1.1]; exact y⟩
              rw [n5, srt_iff, show aF 0 k + 1 + 1 = aF 0 k + 2 from by omega] at n4
              omega
          have clE : (∃ k, (0 ≤ k ∧ k < f) ∧ clC D2 0 (aF 0 f) k) ↔ ∃ k, (0 ≤ k ∧ k < f) ∧ clM D kd a k := ⟨fun ⟨k, k1, k2⟩ => ⟨k, k1, (cli k k1.1 k1.2).mp k2⟩, fun ⟨k, k1, k2⟩ => ⟨k, k1, (cli k k1.1 k1.2).mpr k2⟩⟩
          have cfr : ∀ D3, frw D2 D3 978 → CF D D3 (aF 0 f) := fun D3 h => ⟨by rw [h _ _ (by omega) (by omega)]; exact hCF.1, fun x j u v w z => by rw [h _ _ w (by omega)]; exact hCF.2 x j u v w z⟩
          rw [show (5 : Int) = 5 + 975 * 0 from rfl]
          refine c_clash (s := 0) (Or.inl rfl) (by omega) lF1 (by rw [show (5 : Int) + 975 * 0 = 5 from rfl]; omega) (by omega) (fun j u v => ?_) (fun k u v => ?_) (fun h D3 h3 => ?_) (fun h D3 h3 => ?_)
          · rw [q7 j u (by omega)]
            exact (tb2 j u (by omega)).2
          · rw [show (5 : Int) + 975 * 0 = 5 from rfl, d54] at v
            exact (fszk k u v).1
          · rw [show (5 : Int) + 975 * 0 = 5 from rfl, d54, clE] at h
            rw [show (978 : Int) + 975 * 0 = 978 from rfl] at h3
            have c3 := cfr D3 h3
            rw [if_neg (by omega)]
            exact ⟨by rw [c3.2 _ _ (by omega) (by omega) (by omega) (by omega)]; omega, hU a b D3 (by omega) hfam nl h c3⟩
          · rw [show (5 : Int) + 975 * 0 = 5 from rfl, d54, clE] at h
            rw [show (978 : Int) + 975 * 0 = 978 from rfl] at h3
            have c3 := cfr D3 h3
            have e54 : D3 5 4 = f := by rw [c3.2 _ _ (by omega) (by omega) (by omega) (by omega)]; exact hf
            rw [if_pos rfl, show (5 : Int) + 975 * 0 = 5 from rfl, show (5 : Int) + 975 * 0 = 5 from rfl, e54]
            by_cases e8 : f < 8
            · rw [if_pos e8]
              refine v106_0 ?_
              rw [e54, if_pos e8, wr_self, w32_id (x := f + 1) (by omega) (by omega), w32_id (x := f + 1 - 1) (by omega) (by omega), show f + 1 - 1 = f from by omega]
              refine hG a b D3 (by omega) hfam nl h e8 c3 ?_
              have h4 : ∀ x j, x < 978 → D3 x j = D2 x j := fun x j u => h3 x j (by omega) (by omega)
              refine ⟨⟨?_, ?_, ?_, ?_, ?_⟩, ⟨?_, fun j u v => ?_⟩, ⟨?_, fun j u v => ?_⟩, ?_, fun j u v => ?_⟩ <;> rw [h4 _ _ (by omega)]
              · exact q1
              · exact q2
              · exact q3
              · exact q4
              · exact q5
              · exact q6
              · exact q7 j u v
              · exact q8
              · exact q9 j u v
              · exact q10
              · exact q11 j u v
            · rw [if_neg e8]
              exact ⟨by rw [c3.2 _ _ (by omega) (by omega) (by omega) (by omega)]; omega, hS a b D3 (by omega) hfam nl h (by omega) c3⟩
        · rw [if_neg (by omega)]
          exact hL a b r D2 (by omega) hfam ⟨r1, r2⟩ ((lki r r1 r2).mp r3) hCF
      · rw [if_pos rfl]
        exact no (fun w => hno w.2) D1 hlo
    · rw [if_neg k5]
      exact no (fun w => by omega) D (fun _ _ _ => rfl)
  rw [hf, l9]
  by_cases e : f < 8
  · rw [if_pos e]
    exact ⟨by omega, main _ (by omega)⟩
  · rw [if_neg e]
    exact ⟨by omega, main _ (by omega)⟩
end FCL
