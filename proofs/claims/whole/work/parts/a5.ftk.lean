/-! a family out of a tape: the class -/
section FTK
variable {sc : Nat × (Nat → Int32)} {D D' : tD} {K : tD → Int → Prop} {E : tD → Nat → Prop} {s : Int}
def fnamT (T : Int → Int) (s e : Int) : Prop := s < e ∧ e - s ≤ 24 ∧ ¬ srt 2 (T s) = true ∧ ∀ j, s ≤ j → j < e → srt 5 (T j) = true
def untN (N : Int → Int) (z : Int) (T : Int → Int) (kd s e : Int) : Prop := e - s ≤ 8 ∧ kd ≠ 3 ∧ kd ≠ 4 ∧ (e - s) + 1 < z ∧ N (z - (e - s) - 1) = 95 ∧ ∀ j, 0 ≤ j → j < e - s → srt 3 (T (s + j)) = true ∧ N (z - (e - s) + j) = T (s + j)
def famT (T : Int → Int) (n kd a b : Int) : Prop := (0 ≤ a ∧ a < b ∧ b < n) ∧ T a = 1 ∧ T b = 1 ∧ (∀ j, 0 ≤ j → j < a → T j ≠ 1) ∧ (∀ j, a < j → j < b → T j ≠ 1) ∧ fnamT T 0 a ∧ textT T (b + 1) n 40 ∧ (b = a + 1 ∨ untN T a T kd (a + 1) b)
theorem famT_uni {T : Int → Int} {n kd a b a' b' : Int} (h : famT T n kd a b) (h' : famT T n kd a' b') : a = a' ∧ b = b' := by
  obtain ⟨h1, h2, h3, h4, h5, _⟩ := h
  obtain ⟨g1, g2, g3, g4, g5, _⟩ := h'
  have e : a = a' := by
    by_cases u : a < a'
    · exact absurd h2 (g4 a h1.1 u)
    · by_cases v : a' < a
      · exact absurd g2 (h4 a' g1.1 v)
      · omega
  subst e
  refine ⟨rfl, ?_⟩
  by_cases u : b < b'
  · exact absurd h3 (g5 b (by omega) u)
  · by_cases v : b' < b
    · exact absurd g3 (h5 b' (by omega) v)
    · omega
theorem c_tunit1 {F r s e z : Int} (hz : D (F + 1) 1 = z ∧ 0 ≤ z ∧ z ≤ 24) (hlz : ln (F + 2) = 24) (hlu : ln (F + 4) = 8) (hr : D r 1 ≤ ln (r + 1) ∧ D r 1 ≤ 20000) (hF : r + 1 < F) (hs : 0 ≤ s ∧ s < e ∧ e ≤ D r 1) (h8 : e - s ≤ 8) (hkd : D F 5 ≠ 3 ∧ D F 5 ≠ 4) (hzz : (e - s) + 1 < z) (h95 : rat D (F + 1) (z - (e - s) - 1) = 95) (hT : untN (rat D (F + 1)) z (rat D r) (D F 5) s e → ∀ D', becP D D' (F + 3) r s e → K D' 1) (hN : ¬ untN (rat D (F + 1)) z (rat D r) (D F 5) s e → K D 0) : ∀ (m : Nat) (k : Int), e - k = (m : Int) → s ≤ k → (∀ j, 0 ≤ j → j < k - s → srt 3 (rat D r (s + j)) = true ∧ rat D (F + 1) (z - (e - s) + j) = rat D r (s + j)) → WP sc 58 64 D [(0, (1204, F)), (1, (1207, r)), (2, (0, s)), (3, (0, e)), (4, (0, z - (e - s) - 1)), (5, (0, k))] [] K E := by
  intro m
  induction m with
  | zero =>
    intro k hm hk hj
    refine v58_64 ?_
    rw [if_neg (by omega)]
    refine c_bec (by omega) hr.1 (by rw [show F + 3 + 1 = F + 4 from by omega, hlu]; omega) hr.2 (by rw [show F + 3 + 1 = F + 4 from by omega, hlu]; omega) (fun D1 hb => ?_)
    exact hT ⟨h8, hkd.1, hkd.2, hzz, h95, fun j u v => hj j u (by omega)⟩ D1 hb
  | succ m ih =>
    intro k hm hk hj
    refine v58_64 ?_
    rw [if_pos (by omega)]
    refine c_at hr.1 (c_sort (by omega) (fun ht => ?_) (fun ht => ?_))
    · rw [if_neg (by omega), w32_id (x := z - (e - s) - 1 + 1) (by omega) (by omega), w32_id (x := z - (e - s) - 1 + 1 + k) (by omega) (by omega), w32_id (x := z - (e - s) - 1 + 1 + k - s) (by omega) (by omega), w32_id (x := k + 1) (by omega) (by omega)]
      refine c_at (by rw [show F + 1 + 1 = F + 2 from by omega]; omega) ?_
      rw [show z - (e - s) - 1 + 1 + k - s = z - (e - s) + (k - s) from by omega]
      by_cases q : rat D (F + 1) (z - (e - s) + (k - s)) = rat D r k
      · rw [if_pos q]
        refine ih (k + 1) (by omega) (by omega) (fun j u v => ?_)
        by_cases e2 : j = k - s
        · rw [e2, show s + (k - s) = k from by omega]; exact ⟨ht, q⟩
        · exact hj j u (by omega)
      · rw [if_neg q]
        refine hN (fun w => q ?_)
        have := (w.2.2.2.2.2 (k - s) (by omega) (by omega)).2
        rw [show s + (k - s) = k from by omega] at this
        exact this
    · rw [if_pos rfl]
      refine hN (fun w => ht ?_)
      have := (w.2.2.2.2.2 (k - s) (by omega) (by omega)).1
      rw [show s + (k - s) = k from by omega] at this
      exact this
theorem c_tunit {F r s e z : Int} (hz : D (F + 1) 1 = z ∧ 0 ≤ z ∧ z ≤ 24) (hlz : ln (F + 2) = 24) (hlu : ln (F + 4) = 8) (hr : D r 1 ≤ ln (r + 1) ∧ D r 1 ≤ 20000) (hF : r + 1 < F) (hs : 0 ≤ s ∧ s < e ∧ e ≤ D r 1) (hT : untN (rat D (F + 1)) z (rat D r) (D F 5) s e → ∀ D', becP D D' (F + 3) r s e → K D' 1) (hN : ¬ untN (rat D (F + 1)) z (rat D r) (D F 5) s e → K D 0) : WP sc 58 0 D [(0, (1204, F)), (1, (1207, r)), (2, (0, s)), (3, (0, e))] [] K E := by
  refine v58_0 ?_
  rw [hz.1, w32_id (x := e - s) (by omega) (by omega), w32_id (x := z - (e - s)) (by omega) (by omega), w32_id (x := z - (e - s) - 1) (by omega) (by omega)]
  by_cases h8 : 8 < e - s
  · rw [if_pos h8]; exact hN (fun w => by have := w.1; omega)
  rw [if_neg h8]
  by_cases hzz : z - (e - s) - 1 < 1
  · rw [if_pos hzz]; exact hN (fun w => by have := w.2.2.2.1; omega)
  rw [if_neg hzz]
  by_cases k3 : D F 5 = 3
  · rw [if_pos k3]; exact hN (fun w => w.2.1 k3)
  rw [if_neg k3]
  by_cases k4 : D F 5 = 4
  · rw [if_pos k4]; exact hN (fun w => w.2.2.1 k4)
  rw [if_neg k4]
  refine c_at (by rw [show F + 1 + 1 = F + 2 from by omega]; omega) ?_
  by_cases h95 : rat D (F + 1) (z - (e - s) - 1) = 95
  · rw [if_pos h95]
    exact c_tunit1 hz hlz hlu hr hF hs (by omega) ⟨k3, k4⟩ (by omega) h95 hT hN (e - s).toNat s (by omega) (by omega) (fun j u v => by omega)
  · rw [if_neg h95]
    exact hN (fun w => h95 w.2.2.2.2.1)
/-- a family has been begun with a span of a row as its name -/
def fbP (D D' : tD) (F r s e : Int) : Prop := (D' F 5 = D F 5 ∧ D' F 6 = 0 ∧ D' F 7 = 0 ∧ D' F 8 = 24 ∧ D' F 9 = 0) ∧ (D' (F + 1) 1 = e - s ∧ ∀ j, 0 ≤ j → j < e - s → D' (F + 2) j = D (r + 1) (s + j)) ∧ D' (F + 3) 1 = 0 ∧ D' (F + 5) 1 = 0 ∧ ∀ x j, x < F ∨ F + 5 < x → D' x j = D x j
theorem c_fbeg {F r s e : Int} (hlz : ln (F + 2) = 24) (hr : D r 1 ≤ ln (r + 1) ∧ D r 1 ≤ 20000) (hF : r + 1 < F) (hs : 0 ≤ s ∧ s ≤ e ∧ e ≤ D r 1 ∧ e - s ≤ 24) (hK : ∀ D', fbP D D' F r s e → K D' 0) : WP sc 56 0 D [(0, (1204, F)), (1, (1207, r)), (2, (0, s)), (3, (0, e))] [] K E := by
  refine v56_0 (c_bec (by omega) hr.1 (by rw [show F + 1 + 1 = F + 2 from by omega]; omega) hr.2 (by rw [show F + 1 + 1 = F + 2 from by omega]; omega) (fun D1 hb => ?_))
  obtain ⟨b1, b2, b3, b4, b5⟩ := hb
  refine c_clear (c_clear (hK _ ⟨⟨?_, ?_, ?_, ?_, ?_⟩, ⟨?_, fun j u v => ?_⟩, ?_, ?_, fun x j u => ?_⟩))
  · unfold rclear
    rw [wr_ni (by omega), wr_ni (by omega), wr_ni (by omega), wr_ni (by omega), wr_ne (by omega), wr_ne (by omega), wr_ne (by omega), wr_ne (by omega)]
    exact b5 _ _ (by omega) (by omega)
  · rw [wr_ni (by omega), wr_ni (by omega), wr_ni (by omega), wr_self]
  · rw [wr_ni (by omega), wr_ni (by omega), wr_self]
  · rw [wr_ni (by omega), wr_self]
  · rw [wr_self]
  · unfold rclear
    rw [wr_ne (by omega), wr_ne (by omega), wr_ne (by omega), wr_ne (by omega), wr_ne (by omega), wr_ne (by omega), wr_ne (by omega), wr_ne (by omega)]
    exact b1
  · unfold rclear
    rw [wr_ne (by omega), wr_ne (by omega), wr_ne (by omega), wr_ne (by omega), wr_ne (by omega), wr_ne (by omega), wr_ne (by omega), wr_ne (by omega)]
    rw [show F + 1 + 1 = F + 2 from by omega] at b4
    exact b4 j u v
  · unfold rclear
    rw [wr_ne (by omega), wr_ne (by omega), wr_ne (by omega), wr_ne (by omega), wr_ne (by omega), wr_ne (by omega), wr_ni (by omega), wr_self]
  · unfold rclear
    rw [wr_ne (by omega), wr_ne (by omega), wr_ne (by omega), wr_ne (by omega), wr_ni (by omega), wr_self]
  · unfold rclear
    rw [wr_ne (by omega), wr_ne (by omega), wr_ne (by omega), wr_ne (by omega), wr_ne (by omega), wr_ne (by omega), wr_ne (by omega), wr_ne (by omega)]
    exact b5 _ _ (by omega) (by omega)
/-- a family has become what the tape tells -/
def nfQ (D D' : tD) (F kd a b n : Int) : Prop := (D' F 5 = kd ∧ D' F 6 = 0 ∧ D' F 7 = 0 ∧ D' F 8 = 24 ∧ D' F 9 = 0) ∧ (D' (F + 1) 1 = a ∧ ∀ j, 0 ≤ j → j < a → D' (F + 2) j = D 2 j) ∧ (D' (F + 3) 1 = b - a - 1 ∧ ∀ j, 0 ≤ j → j < b - a - 1 → D' (F + 4) j = D 2 (a + 1 + j)) ∧ D' (F + 5) 1 = n - b - 1 ∧ ∀ j, 0 ≤ j → j < n - b - 1 → D' (F + 6) j = D 2 (b + 1 + j)
theorem c_ftake {F kd n : Int} {T : Int → Int} (hn : D 1 1 = n) (h2 : 0 ≤ n ∧ n ≤ 4000) (hT8 : ∀ j, 0 ≤ j → j < n → rat D 1 j = T j) (hby : ∀ j, 0 ≤ j → j < n → -128 ≤ D 2 j ∧ D 2 j ≤ 127) (hlz : ln (F + 2) = 24) (hlu : ln (F + 4) = 8) (hlh : ln (F + 6) = 40) (hF : 2 < F) (hT : ∀ a b D', famT T n kd a b → nfQ D D' F kd a b n → (∀ x j, x < F ∨ F + 6 < x → D' x j = D x j) → K D' 1) (hN : (¬ ∃ a b, famT T n kd a b) → ∀ D', (∀ x j, x < F ∨ F + 6 < x → D' x j = D x j) → K D' 0) : WP sc 57 0 D [(0, (1204, F)), (1, (0, kd)), (2, (1207, 1))] [] K E := by
  have l2 : ln (1 + 1) = 4000 := rfl
  have hb : ∀ j, 0 ≤ j → j < n → (D (1 + 1) j = 1 ↔ T j = 1) := fun j u v => by
    have e := hT8 j u v
    unfold rat at e
    rw [if_pos ⟨u, by omega⟩, show (1 : Int) + 1 = 2 from rfl] at e
    have := hby j u v
    rw [show (1 : Int) + 1 = 2 from rfl]
    omega
  refine v57_0 (c_find (by rw [l2]; omega) (by omega) (by omega) (fun a ha => ?_))
  rcases ha with ⟨e, ha⟩ | ⟨a1, a2, a3, a4⟩
  · rw [if_pos (by omega)]
    refine hN (fun ⟨a, b, h⟩ => ?_) D (fun _ _ _ => rfl)
    exact ha a h.1.1 (by have := h.1; omega) ((hb a h.1.1 (by have := h.1; omega)).mpr h.2.1)
  rw [if_neg (by omega), w32_id (x := a + 1) (by omega) (by omega)]
  have uA : ∀ x b, famT T n kd x b → x = a := fun x b h => by
    by_cases u : x < a
    · exact absurd ((hb x h.1.1 (by omega)).mpr h.2.1) (a4 x h.1.1 u)
    · by_cases v : a < x
      · exact absurd ((hb a a1 (by omega)).mp a3) (h.2.2.2.1 a a1 v)
      · omega
  refine c_find (by rw [l2]; omega) (by omega) (by omega) (fun b hbf => ?_)
  rcases hbf with ⟨e, hbf⟩ | ⟨b1, b2, b3, b4⟩
  · rw [if_pos (by omega)]
    refine hN (fun ⟨x, b, h⟩ => ?_) D (fun _ _ _ => rfl)
    have := uA x b h
    subst this
    exact hbf b (by have := h.1; omega) (by have := h.1; omega) ((hb b (by have := h.1; omega) (by have := h.1; omega)).mpr h.2.2.1)
  rw [if_neg (by omega)]
  have uB : ∀ x y, famT T n kd x y → y = b := fun x y h => by
    have := uA x y h
    subst this
    have h1 := h.1
    by_cases u : y < b
    · exact absurd ((hb y (by omega) (by omega)).mpr h.2.2.1) (b4 y (by omega) u)
    · by_cases v : b < y
      · exact absurd ((hb b (by omega) (by omega)).mp b3) (h.2.2.2.2.1 b (by omega) v)
      · omega
  have no : ¬ famT T n kd a b → ∀ D', (∀ x j, x < F ∨ F + 6 < x → D' x j = D x j) → K D' 0 := fun hn2 => hN (fun ⟨x, y, h⟩ => hn2 (by
    have e1 := uA x y h
    have e2 := uB x y h
    rw [← e1, ← e2]; exact h))
  have nmI : namP 0 D 1 0 a ↔ fnamT T 0 a := by
    unfold namP fnamT
    rw [if_pos rfl, if_pos rfl]
    by_cases e : 0 < a
    · rw [hT8 0 (by omega) (by omega)]
      constructor
      · rintro ⟨p1, p2, p3, p4, p5⟩
        exact ⟨p1, p2, p3, fun j u v => by rw [← hT8 j u (by omega)]; exact p4 j u v⟩
      · rintro ⟨p1, p2, p3, p4⟩
        exact ⟨p1, p2, p3, fun j u v => by rw [hT8 j u (by omega)]; exact p4 j u v, Or.inl rfl⟩
    · constructor
      · rintro ⟨p1, _⟩; omega
      · rintro ⟨p1, _⟩; omega
  have txI : txtP D 1 (b + 1) n 40 ↔ textT T (b + 1) n 40 := by
    unfold txtP textT
    constructor
    · rintro ⟨p1, p2, p3⟩
      exact ⟨p1, p2, fun j u v => by rw [← hT8 j (by omega) v]; exact p3 j u v⟩
    · rintro ⟨p1, p2, p3⟩
      exact ⟨p1, p2, fun j u v => by rw [hT8 j (by omega) v]; exact p3 j u v⟩
  refine c_name (Or.inl rfl) (by rw [l2]; omega) (by omega) (by omega) (fun hnm => ?_) (fun hnm => ?_)
  · rw [if_neg (by omega), hn, w32_id (x := b + 1) (by omega) (by omega)]
    refine c_text (by rw [l2]; omega) (by omega) (by omega) (fun htx => ?_) (fun htx => ?_)
    · rw [if_neg (by omega)]
      have hz1 := hnm.2.1
      rw [if_pos rfl] at hz1
      have hx1 := htx.2.1
      refine c_fbeg hlz ⟨by rw [l2]; omega, by omega⟩ (by omega) (by omega) (fun D1 g => ?_)
      obtain ⟨⟨g5, g6, g7, g8, g9⟩, ⟨g10, g11⟩, g12, g13, g14⟩ := g
      have k1 : (wr D1 F 5 kd) 1 1 = n := by rw [wr_ne (by omega), g14 _ _ (by omega)]; exact hn
      rw [show (1 : Int) + 1 = 2 from rfl] at g11
      rw [k1]
      refine c_bec (by omega) (by rw [k1, l2]; omega) (by rw [show F + 5 + 1 = F + 6 from by omega]; omega) (by omega) (by rw [k1, show F + 5 + 1 = F + 6 from by omega]; omega) (fun D2 h => ?_)
      obtain ⟨h1, h2', h3, h4, h5⟩ := h
      rw [show F + 5 + 1 = F + 6 from by omega, show (1 : Int) + 1 = 2 from rfl] at h4
      have lo : ∀ x j, x < F ∨ F + 6 < x → D2 x j = D x j := fun x j u => by
        rw [h5 x j (by omega) (by omega), wr_ne (by omega), g14 x j (by omega)]
      have s5 : D2 F 5 = kd := by rw [h5 _ _ (by omega) (by omega), wr_self]
      have sj : ∀ j, j ≠ 5 → D2 F j = D1 F j := fun j u => by rw [h5 _ _ (by omega) (by omega), wr_ni u]
      have n1 : D2 (F + 1) 1 = a := by rw [h5 _ _ (by omega) (by omega), wr_ne (by omega), g10]; omega
      have n2 : ∀ j, 0 ≤ j → j < a → D2 (F + 2) j = D 2 j := fun j u v => by
        rw [h5 _ _ (by omega) (by omega), wr_ne (by omega), g11 j u (by omega), show (0 : Int) + j = j from by omega]
      have u1 : D2 (F + 3) 1 = 0 := by rw [h5 _ _ (by omega) (by omega), wr_ne (by omega)]; exact g12
      have p1 : D2 (F + 5) 1 = n - b - 1 := by rw [h1]; omega
      have p2 : ∀ j, 0 ≤ j → j < n - b - 1 → D2 (F + 6) j = D 2 (b + 1 + j) := fun j u v => by
        rw [h4 j u (by omega), wr_ne (by omega), g14 _ _ (by omega)]
      have base : (b = a + 1 ∨ untN T a T kd (a + 1) b) → famT T n kd a b := fun w => ⟨by omega, (hb a a1 (by omega)).mp a3, (hb b (by omega) (by omega)).mp b3, fun j u v w => a4 j u v ((hb j u (by omega)).mpr w), fun j u v w => b4 j (by omega) v ((hb j (by omega) (by omega)).mpr w), nmI.mp hnm, txI.mp htx, w⟩
      by_cases e : b = a + 1
      · rw [if_pos e]
        exact hT a b D2 (base (Or.inl e)) ⟨⟨s5, by rw [sj _ (by omega)]; exact g6, by rw [sj _ (by omega)]; exact g7, by rw [sj _ (by omega)]; exact g8, by rw [sj _ (by omega)]; exact g9⟩, ⟨n1, n2⟩, ⟨by omega, fun j u v => by omega⟩, p1, p2⟩ lo
      · rw [if_neg e]
        have r1 : ∀ j, rat D2 1 j = rat D 1 j := rat_fr (lo _ _ (by omega)) (fun j => lo _ _ (by omega))
        have rN : ∀ j, 0 ≤ j → j < a → rat D2 (F + 1) j = T j := fun j u v => by
          rw [← hT8 j u (by omega)]
          unfold rat
          rw [n1, if_pos ⟨u, v⟩, if_pos ⟨u, by omega⟩, show F + 1 + 1 = F + 2 from by omega, n2 j u v]
          rfl
        have unI : untN (rat D2 (F + 1)) a (rat D2 1) (D2 F 5) (a + 1) b ↔ untN T a T kd (a + 1) b := by
          unfold untN
          rw [s5]
          constructor
          · rintro ⟨w1, w2, w3, w4, w5, w6⟩
            refine ⟨w1, w2, w3, w4, by rw [← rN _ (by omega) (by omega)]; exact w5, fun j u v => ?_⟩
            have := w6 j u v
            rw [rN _ (by omega) (by omega), r1, hT8 _ (by omega) (by omega)] at this
            exact this
          · rintro ⟨w1, w2, w3, w4, w5, w6⟩
            refine ⟨w1, w2, w3, w4, by rw [rN _ (by omega) (by omega)]; exact w5, fun j u v => ?_⟩
            rw [rN _ (by omega) (by omega), r1, hT8 _ (by omega) (by omega)]
            exact w6 j u v
        refine c_tunit (z := a) ⟨n1, by omega, by omega⟩ hlz hlu ⟨by rw [lo _ _ (by omega), l2]; omega, by rw [lo _ _ (by omega)]; omega⟩ (by omega) (by rw [lo _ _ (by omega)]; omega) (fun w D3 hb3 => ?_) (fun w => ?_)
        · rw [if_neg (by omega)]
          obtain ⟨q1, q2, q3, q4, q5⟩ := hb3
          rw [show F + 3 + 1 = F + 4 from by omega, show (1 : Int) + 1 = 2 from rfl] at q4
          refine hT a b D3 (base (Or.inr (unI.mp w))) ⟨⟨?_, ?_, ?_, ?_, ?_⟩, ⟨?_, fun j u v => ?_⟩, ⟨?_, fun j u v => ?_⟩, ?_, fun j u v => ?_⟩ (fun x j u => ?_)
          · rw [q5 _ _ (by omega) (by omega)]; exact s5
          · rw [q5 _ _ (by omega) (by omega), sj _ (by omega)]; exact g6
          · rw [q5 _ _ (by omega) (by omega), sj _ (by omega)]; exact g7
          · rw [q5 _ _ (by omega) (by omega), sj _ (by omega)]; exact g8
          · rw [q5 _ _ (by omega) (by omega), sj _ (by omega)]; exact g9
          · rw [q5 _ _ (by omega) (by omega)]; exact n1
          · rw [q5 _ _ (by omega) (by omega)]; exact n2 j u v
          · omega
          · rw [q4 j u (by omega), lo _ _ (by omega)]
          · rw [q5 _ _ (by omega) (by omega)]; exact p1
          · rw [q5 _ _ (by omega) (by omega)]; exact p2 j u v
          · rw [q5 _ _ (by omega) (by omega)]; exact lo x j u
        · rw [if_pos rfl]
          refine no (fun q => w (unI.mpr ?_)) D2 lo
          rcases q.2.2.2.2.2.2.2 with q | q
          · exact absurd q e
          · exact q
    · rw [if_pos rfl]
      exact no (fun q => htx (txI.mpr q.2.2.2.2.2.2.1)) D (fun _ _ _ => rfl)
  · rw [if_pos rfl]
    exact no (fun q => hnm (nmI.mpr q.2.2.2.2.2.1)) D (fun _ _ _ => rfl)
end FTK
