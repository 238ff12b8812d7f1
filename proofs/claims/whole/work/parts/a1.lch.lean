/-! the law's loop: child -/
section LCH
variable {sc : Nat × (Nat → Int32)} {D D' : tD} {K : tD → Int → Prop} {E : tD → Nat → Prop} {c i : Int}
theorem kd_nam_n : ((List.range 18).all fun f => Nat.beq (tkd (9 + 975 * (f / 9) + 17 * (f % 9))) 2) = true := by decide +kernel
theorem kd_nam {s f : Int} (hs : s = 0 ∨ s = 1) (hf : 0 ≤ f ∧ f < 9) : tkd (aF s f + 2).toNat = 2 := by
  have h := List.all_eq_true.mp kd_nam_n (9 * s.toNat + f.toNat) (List.mem_range.mpr (by omega))
  have h2 := Nat.eq_of_beq_eq_true h
  rw [show (aF s f + 2).toNat = 9 + 975 * ((9 * s.toNat + f.toNat) / 9) + 17 * ((9 * s.toNat + f.toNat) % 9) from by unfold aF; omega]
  exact h2
theorem kd_lab_n : ((List.range 48).all fun k => Nat.beq (tkd (164 + 975 * (k / 24) + 34 * (k % 24))) 2) = true := by decide +kernel
theorem kd_lab {s k : Int} (hs : s = 0 ∨ s = 1) (hk : 0 ≤ k ∧ k < 24) : tkd (aC s k + 3).toNat = 2 := by
  have h := List.all_eq_true.mp kd_lab_n (24 * s.toNat + k.toNat) (List.mem_range.mpr (by omega))
  have h2 := Nat.eq_of_beq_eq_true h
  rw [show (aC s k + 3).toNat = 164 + 975 * ((24 * s.toNat + k.toNat) / 24) + 34 * ((24 * s.toNat + k.toNat) % 24) from by unfold aC; omega]
  exact h2
/-- a row of the class and the other side's bytes, as one list -/
theorem rowm_lst {r cap arr off n : Int} (h : rowm D r cap arr off n) (hb : ∀ j, 0 ≤ j → j < n → 0 ≤ D (r + 1) j ∧ D (r + 1) j ≤ 127) : ∃ l : List Int, (l.length : Int) = n ∧ D r 1 = (l.length : Int) ∧ atL D (r + 1) 0 l ∧ atL D arr off l ∧ ∀ b ∈ l, ∃ j, 0 ≤ j ∧ j < n ∧ b = D (r + 1) j := by
  obtain ⟨h1, h2, h3, h4⟩ := h
  have hl : ((spn (D (r + 1)) 0 n.toNat).length : Int) = n := by rw [spn_len]; omega
  refine ⟨spn (D (r + 1)) 0 n.toNat, hl, by rw [hl]; exact h1, spn_at (fun j u v => rfl), spn_at (fun j u v => ?_), fun b hb => ?_⟩
  · have e := h4 j u (by omega)
    have := hb j u (by omega)
    rw [show (0 : Int) + j = j from by omega]
    omega
  · obtain ⟨j, j1, j2, j3⟩ := spn_mem hb
    exact ⟨j, j1, by omega, j3⟩
theorem nm_of (hok : okD D) {s f : Int} (hs : s = 0 ∨ s = 1) (hf : 0 ≤ f ∧ f < 8) (h : faR D s f) : ∃ nF : List Int, nmC D (aF s f) nF ∧ nmM D (8 * s + f) nF ∧ 1 ≤ nF.length ∧ ∀ b ∈ nF, 48 ≤ b ∧ b ≤ 122 := by
  obtain ⟨_, ⟨g1, g2⟩, _⟩ := h
  have l24 := ln_nam (f := f) hs (by omega)
  have eF : aF s f = 7 + 975 * s + 17 * f := rfl
  have hb : ∀ j, 0 ≤ j → j < D 1982 (8 * s + f) → 48 ≤ D (aF s f + 1 + 1) j ∧ D (aF s f + 1 + 1) j ≤ 122 := fun j u v => by
    rw [show aF s f + 1 + 1 = aF s f + 2 from by omega]
    have q := okD_byte hok (a := aF s f + 2) (j := j) (by omega) (kd_nam hs (by omega)) ⟨u, by rw [l24]; have := g1.2.2.1; omega⟩
    have q2 := g2.2.2.2.1 j u (by rw [g1.1]; exact v)
    rw [if_pos rfl] at q2
    have q3 : rat D (aF s f + 1) j = D (aF s f + 1 + 1) j % 256 := if_pos ⟨u, by rw [g1.1]; exact v⟩
    rw [q3, srt_iff, show aF s f + 1 + 1 = aF s f + 2 from by omega] at q2
    omega
  obtain ⟨l, l1, l2, l3, l4, l5⟩ := rowm_lst g1 (fun j u v => by have := hb j u v; omega)
  have hr : ∀ b ∈ l, 48 ≤ b ∧ b ≤ 122 := fun b hbm => by
    obtain ⟨j, j1, j2, j3⟩ := l5 b hbm
    rw [j3]; exact hb j j1 j2
  have n1 := g2.1
  have m1 := g1.2.2.1
  rw [show aF s f + 1 + 1 = aF s f + 2 from by omega] at l3
  exact ⟨l, ⟨l2, l3, by omega, l24, fun b hbm => by have := hr b hbm; omega⟩, Or.inr ⟨by omega, by omega, l1.symm, by omega, l4, fun b hbm => by have := hr b hbm; omega⟩, by rw [g1.1] at n1; omega, hr⟩
/-- the common label as a list -/
theorem co_of (hok : okD D) (h : coR D) : ∃ C : List (List Int), lsIs D 1971 C ∧ srtL C ∧ C.length ≤ 1 ∧ (D 1977 35 = (C.flatten.length : Int) ∧ atL D 2008 0 C.flatten ∧ C.length ≤ 1 ∧ ∀ x ∈ C, lbl x) := by
  obtain ⟨g1, g2, g3⟩ := h
  have l22 : ln 1973 = 22 := rfl
  obtain ⟨C, c1, c2⟩ := lsW_lsIs (a := 1971) (fun j u v => okD_byte hok (a := 1973) (by omega) (by decide +kernel) ⟨u, by rw [l22]; rw [show (1971 : Int) + 1 = 1972 from rfl, g1.1] at v; have := g1.2.2.1; omega⟩) rfl g2
  have c0 := c1
  obtain ⟨p1, p2, p3, p4⟩ := c1
  have hl : C.length ≤ 1 := by rw [p1] at g3; omega
  have e1 : D 1977 35 = (C.flatten.length : Int) := by rw [← g1.1]; exact p2
  refine ⟨C, c0, c2, hl, e1, ?_, hl, p4⟩
  refine atL_mov (D := D) (a := 1973) (o := 0) (fun j u v => ?_) p3
  have q := g1.2.2.2 j u (by rw [e1]; exact v)
  have m := lbs_rng p4 _ (atL_mem p3 j u v)
  rw [show (1972 : Int) + 1 = 1973 from rfl] at q
  rw [show (1971 : Int) + 2 = 1973 from rfl] at m
  rw [show (0 : Int) + j = j from by omega] at q m ⊢
  omega
theorem fc_iff (hok : okD D) (h0 : shR c D 0) {f k : Int} {S : List (List Int)} (hk : 0 ≤ k ∧ k < 24) (hS : ∀ x ∈ S, lbl x) : fcM D 0 f S.flatten k ↔ fcS D f S.flatten k := by
  obtain ⟨b1, b2, b3⟩ := h0.2.2.1 k hk.1 hk.2
  have eC : aC 0 k = 161 + 34 * k := by unfold aC; omega
  unfold fcM fcS isS
  rw [show 24 * (0 : Int) + k = k from by omega] at *
  rw [← b1]
  constructor
  · rintro ⟨a, b, d, e⟩
    obtain ⟨p1, ⟨p2, _⟩, _⟩ := b3 a
    rw [show 24 * (0 : Int) + k = k from by omega] at p1 p2
    refine ⟨a, by omega, by rw [p2.1]; exact d, atL_mov (D := D) (a := 1997) (o := 66 * k) (fun j u v => ?_) e⟩
    have q := p2.2.2.2 j u (by rw [d]; exact v)
    have m := lbs_rng hS _ (atL_mem e j u v)
    have r := okD_byte hok (a := aC 0 k + 3) (j := j) (by omega) (kd_lab (Or.inl rfl) hk) ⟨u, by rw [ln_lab (Or.inl rfl) hk]; have := p2.2.2.1; omega⟩
    rw [show aC 0 k + 2 + 1 = aC 0 k + 3 from by omega] at q
    rw [show (0 : Int) + j = j from by omega]
    omega
  · rintro ⟨a, b, d, e⟩
    obtain ⟨p1, ⟨p2, _⟩, _⟩ := b3 a
    rw [show 24 * (0 : Int) + k = k from by omega] at p1 p2
    refine ⟨a, by omega, by rw [← p2.1]; exact d, atL_mov (D := D) (a := aC 0 k + 3) (o := 0) (fun j u v => ?_) e⟩
    have q := p2.2.2.2 j u (by rw [← p2.1, d]; exact v)
    have m := lbs_rng hS _ (atL_mem e j u v)
    rw [show aC 0 k + 2 + 1 = aC 0 k + 3 from by omega] at q
    rw [show (0 : Int) + j = j from by omega] at m ⊢
    omega
theorem cof_eq (h0 : shR c D 0) (h1 : shR c D 1) {f : Int} (hf : 0 ≤ f ∧ f < 8) : sm (cofM D f) 48 = sm (cofC D 0 f) 24 := by
  rw [show (48 : Nat) = 24 + 24 from rfl, sm_add, sm_z (g := fun k => cofM D f ((24 : Nat) + k)) (fun k u v => ?_), sm_ext (g := cofM D f) (h := cofC D 0 f) (fun k u v => ?_)]
  · omega
  · unfold cofM cofC
    obtain ⟨b1, b2, b3⟩ := h0.2.2.1 k u (by omega)
    rw [show 24 * (0 : Int) + k = k from by omega] at b1
    rw [← b1]
    by_cases e : D (aC 0 k) 3 = 1
    · have p1 := (b3 e).1
      rw [show 24 * (0 : Int) + k = k from by omega] at p1
      rw [show D 1995 k = D (aC 0 k) 4 from by omega]
    · rw [if_neg (fun q => e q.1), if_neg (fun q => e q.1)]
  · unfold cofM
    refine if_neg (fun q => ?_)
    obtain ⟨b1, b2, b3⟩ := h1.2.2.1 k u (by omega)
    rw [show ((24 : Nat) : Int) + k = 24 * 1 + k from by omega] at q
    have p1 := (b3 (by rw [b1]; exact q.1)).1
    omega
theorem th_eq (h0 : shR c D 0) : sm (thM D 0) 24 = D 5 5 := by
  have o1 := h0.2.2.2.1
  rw [show (5 : Int) + 975 * 0 = 5 from rfl] at o1
  rw [← o1.2.2]
  refine sm_ext (fun k u v => ?_)
  obtain ⟨b1, b2, b3⟩ := h0.2.2.1 k u (by omega)
  unfold thM
  rw [← b1]
  rcases b2 with e | e
  · rw [e]; rfl
  · rw [e]; rfl
theorem RL_new {k f n : Int} {S' : List (List Int)} {D1 D2 D3 D4 : tD} (hR : RL RSc D c) (hc : c < 600) (hk : 0 ≤ k ∧ k < 24) (hk3 : D (aC 0 k) 3 = 0) (hf : 0 ≤ f ∧ f < D 5 4) (hS : srtL S') (hl : S'.flatten.length ≤ 66) (hn : n = D 5 5 ∧ n < 24) (h1 : CX 1 D D1) (h2 : begP (wr D1 (aF 0 f) 9 1) D2 0 k f (if D (aF 0 f) 5 = 0 ∨ D (aF 0 f) 5 = 2 then D 0 8 else -1) S') (h3 : MX 1 (wr (newC D2 0 k n) 2017 0 k) D3) (h4 : mkP D3 D4 k f (D 0 8) S'.flatten) : RL RSc D4 (c + 1) := by
  have r3 := hR.2.2.1
  have r7 := hR.2.2.2.2.2.2.1
  have r8 := hR.2.2.2.2.2.2.2
  have h8 := r8.1.1
  rw [show (5 : Int) + 975 * 0 = 5 from rfl] at h8
  have eC : aC 0 k = 161 + 34 * k := by unfold aC; omega
  have eF : aF 0 f = 7 + 17 * f := by unfold aF; omega
  obtain ⟨b1, b2, b3, b4⟩ := h2
  obtain ⟨⟨m1, m2, m3, m4, m5⟩, ⟨m6, m7⟩, ⟨m8, m9, m10⟩, m11, m12, m13, m14, m15, m16, m17⟩ := h4
  /- the places below the other side -/
  have v0 : ∀ a j, a < 1977 → a ≠ 977 → a ≠ 5 → D4 a j = D2 a j := fun a j u w1 w2 => by
    rw [m17 a j (by omega) (by omega) (by omega), h3.2.2 a j (by omega) (by omega), wr_ne (by omega)]
    unfold newC
    rw [wr_ne (by omega), wr_ne (by omega)]
  have v5 : ∀ a j, a < 1977 → D4 a j = newC D2 0 k n a j := fun a j u => by rw [m17 a j (by omega) (by omega) (by omega), h3.2.2 a j (by omega) (by omega), wr_ne (by omega)]
  have d2 : ∀ a j, a < aC 0 k ∨ aC 0 k + 33 < a → ¬ (a = aF 0 f ∧ j = 9) → D2 a j = D1 a j := fun a j u w => by
    rw [b4 a j u]
    by_cases e : a = aF 0 f
    · rw [e, wr_ni (fun q => w ⟨e, q⟩)]
    · rw [wr_ne e]
  have lo : ∀ a j, a < 1974 → a ≠ 1 → (a < aC 0 k ∨ aC 0 k + 33 < a) → ¬ (a = aF 0 f ∧ j = 9) → ¬ (a = 977 ∧ j = n) → ¬ (a = 5 ∧ j = 5) → D4 a j = D a j := fun a j u1 u2 u3 u4 u5 u6 => by
    rw [v5 a j (by omega)]
    have : newC D2 0 k n a j = D2 a j := by
      unfold newC
      rw [show (977 : Int) + 975 * 0 = 977 from rfl, show (5 : Int) + 975 * 0 = 5 from rfl]
      by_cases e5 : a = 5
      · rw [e5, wr_ni (fun q => u6 ⟨e5, q⟩), wr_ne (by omega)]
      · rw [wr_ne e5]
        by_cases e9 : a = 977
        · rw [e9, wr_ni (fun q => u5 ⟨e9, q⟩)]
        · rw [wr_ne e9]
    rw [this, d2 a j u3 u4, h1.2.2 a j u2 (by omega)]
  have d3 : ∀ a j, 1977 ≤ a → a < 2009 ∨ (2012 < a ∧ a ≠ 2017) → (a = 1977 → j ≠ 37 ∧ j ≠ 2 ∧ j ≠ 0) → D3 a j = D a j := fun a j u1 u2 u3 => by
    rw [h3.2.2 a j (by omega) u3, wr_ne (by omega)]
    unfold newC
    rw [wr_ne (by omega), wr_ne (by omega), d2 a j (by omega) (by omega), h1.2.2 a j (by omega) (by omega)]
  have e22 : D3 1977 22 = D 1977 22 := d3 _ _ (by omega) (by omega) (by omega)
  have e80 : D3 1980 f = D (aF 0 f) 5 := by
    rw [d3 _ _ (by omega) (by omega) (by omega)]
    have := (r8.1.2.1 f hf.1 (by rw [show (5 : Int) + 975 * 0 = 5 from rfl]; exact hf.2)).1.1
    rw [show 8 * (0 : Int) + f = f from by omega] at this
    exact this.symm
  have hN : nwR D4 0 k f (if D (aF 0 f) 5 = 0 ∨ D (aF 0 f) 5 = 2 then D 0 8 else -1) S' := by
    refine ⟨⟨?_, ?_, ?_, ?_, ?_⟩, ?_, fun b u v => ?_, ⟨?_, ?_⟩, ⟨?_, ?_⟩, ⟨?_, ?_, ?_⟩, fun b u v => ?_⟩
    · rw [v0 _ _ (by omega) (by omega) (by omega)]; exact b1.1
    · rw [v0 _ _ (by omega) (by omega) (by omega)]; exact b1.2.1
    · rw [v0 _ _ (by omega) (by omega) (by omega)]; exact b1.2.2.1
    · rw [v0 _ _ (by omega) (by omega) (by omega)]; exact b1.2.2.2.1
    · rw [v0 _ _ (by omega) (by omega) (by omega)]; exact b1.2.2.2.2
    · obtain ⟨q1, q2, q3, q4⟩ := b2
      exact ⟨by rw [v0 _ _ (by omega) (by omega) (by omega)]; exact q1, by rw [v0 _ _ (by omega) (by omega) (by omega)]; exact q2, atL_fr (fun j u v => v0 _ _ (by omega) (by omega) (by omega)) q3, q4⟩
    · have eX : aX 0 k b = 167 + 34 * k + 4 * b := by unfold aX; omega
      obtain ⟨q1, q2, q3, q4, q5⟩ := b3 b u v
      exact ⟨by rw [v0 _ _ (by omega) (by omega) (by omega)]; exact q1, by rw [v0 _ _ (by omega) (by omega) (by omega)]; exact q2, by rw [v0 _ _ (by omega) (by omega) (by omega)]; exact q3, by rw [v0 _ _ (by omega) (by omega) (by omega)]; exact q4, by rw [v0 _ _ (by omega) (by omega) (by omega)]; exact q5⟩
    · rw [show 24 * (0 : Int) + k = k from by omega]; exact m1
    · rw [show 24 * (0 : Int) + k = k from by omega, m2]; omega
    · rw [show 24 * (0 : Int) + k = k from by omega]; exact m6
    · rw [show 24 * (0 : Int) + k = k from by omega]; exact m7
    · rw [show 24 * (0 : Int) + k = k from by omega]; exact m8
    · rw [show 24 * (0 : Int) + k = k from by omega]; exact m9
    · rw [show 24 * (0 : Int) + k = k from by omega, m10, e80]
    · rw [show 24 * (0 : Int) + k = k from by omega]; exact m11 b u v
  have hi : ∀ a j, 1978 ≤ a → a ≤ 2008 → ¬ (a = 1992 ∧ j = f) → ¬ ((a = 1994 ∨ a = 1996) ∧ j = k) → ¬ cdep 0 k a j → D4 a j = D a j := fun a j u1 u2 u3 u4 u5 => by
    have e3 := d3 a j (by omega) (by omega) (by omega)
    rw [← e3]
    have nj : (a = 1995 ∨ a = 1998 ∨ a = 1999 ∨ a = 2000 ∨ a = 2001) → j ≠ k := fun z w => u5 (Or.inr (Or.inl ⟨z, by omega⟩))
    by_cases z1 : a = 1992
    · rw [z1]; exact m13 j (fun w => u3 ⟨z1, w⟩)
    · by_cases z2 : a = 1997
      · rw [z2]; exact m15 j (fun w => u5 (Or.inr (Or.inr (Or.inl ⟨z2, by omega, by omega⟩))))
      · by_cases z3 : a = 2002 ∨ a = 2003
        · exact m16 a j z3 (fun w => u5 (Or.inr (Or.inr (Or.inr (Or.inl ⟨by omega, by omega, by omega⟩)))))
        · by_cases z4 : 1994 ≤ a ∧ a ≤ 2001
          · refine m12 a j (by omega) (fun w => ?_)
            by_cases z5 : a = 1994 ∨ a = 1996
            · exact u4 ⟨z5, w⟩
            · exact nj (by omega) w
          · exact m17 a j (by omega) z1 (by omega)
  have s77 : ∀ j, j ≠ 22 → j ≠ 37 → j ≠ 2 → j ≠ 0 → D4 1977 j = D 1977 j := fun j u1 u2 u3 u4 => by rw [m14 j u1, d3 _ _ (by omega) (by omega) (by omega)]
  have n22 := r8.2.2.2
  have sh0 : shR (c + 1) D4 0 := by
    refine shR_new (c := c) (k := k) (f := f) (n := n) (Or.inl rfl) hk hk3 (by omega) (by omega) (by rw [show (5 : Int) + 975 * 0 = 5 from rfl]; exact hf) hS hl ?_ (by rw [show (5 : Int) + 975 * 0 = 5 from rfl]; exact hn.1.symm) hN ?_ ?_ ?_ ?_ n22.1 (fun _ => ⟨?_, m3⟩) (fun a j u1 u2 u3 u4 u5 u6 u7 u8 => ?_) r8.1
    · split <;> omega
    · rw [show (5 : Int) + 975 * 0 = 5 from rfl, v5 _ _ (by omega)]
      unfold newC
      rw [show (5 : Int) + 975 * 0 = 5 from rfl, wr_self]
    · rw [show (977 : Int) + 975 * 0 = 977 from rfl, v5 _ _ (by omega)]
      unfold newC
      rw [show (977 : Int) + 975 * 0 = 977 from rfl, show (5 : Int) + 975 * 0 = 5 from rfl, wr_ne (by omega), wr_self]
    · rw [show 24 * (0 : Int) + k = k from by omega, m4, e22]
    · rw [m5, e22]
    · rw [v0 _ _ (by omega) (by omega) (by omega), b4 _ _ (by omega), wr_self]
    · have key : (5 ≤ a ∧ a ≤ 979) ∨ (1979 ≤ a ∧ a ≤ 2007) := by
        rcases u1 with w | w | w | w | w | w | w <;> omega
      rcases key with w | w
      · exact lo a j (by omega) (by omega) (by
          by_cases z : a < aC 0 k
          · exact Or.inl z
          · by_cases z2 : aC 0 k + 33 < a
            · exact Or.inr z2
            · exact absurd (Or.inl ⟨by omega, by omega⟩) u2) u5 (by omega) (by omega)
      · exact hi a j (by omega) (by omega) u6 (by omega) u2
  have c01 : ∀ a j, 24 ≤ j → ∀ g, 0 ≤ g → g < 24 → cdep 1 g a j → ¬ a < 1980 → ¬ cdep 0 k a j := fun a j _ g g1 g2 w hl w2 => by
    rcases w with w | w | w | w | w
    · unfold aC at w; omega
    all_goals
      rcases w2 with w2 | w2 | w2 | w2 | w2
      · omega
      all_goals omega
  have sh1 : shR (c + 1) D4 1 := by
    refine shR_up (c := c) (Or.inr rfl) (by omega) (by rw [m5, e22]; omega) (fun a j u v => ?_) r8.2.1
    rcases u with u | u | u | u | u | u | u
    · exact lo a j (by omega) (by omega) (by omega) (by omega) (by omega) (by omega)
    · exact hi a j (by omega) (by omega) (by omega) (by omega) (fun w => by have := cdep_lo w (by omega); omega)
    · exact hi a j (by omega) (by omega) (by omega) (by omega) (fun w => by have := cdep_hi (Or.inl rfl) hk w (by omega); omega)
    · omega
    · exact hi a j (by omega) (by omega) (by omega) (by omega) (fun w => by have := cdep_hi (Or.inl rfl) hk w (by omega); omega)
    · obtain ⟨u1, g, g1, g2, g3⟩ := u
      have nk : ¬ cdep 0 k a j := fun w2 => by
        rcases g3 with w | w | w | w | w
        · unfold aC at w; omega
        all_goals
          rcases w2 with w2 | w2 | w2 | w2 | w2
          · omega
          all_goals omega
      have n96 : a ≠ 1996 := (cdep_hi (Or.inr rfl) ⟨g1, g2⟩ g3 (by omega)).2.2
      exact hi a j (by omega) (by omega) (by omega) (by omega) nk
    · exact absurd u.1 v
  have co : coR D4 := by
    obtain ⟨g1, g2, g3⟩ := r8.2.2.1
    have l : ∀ a j, 1971 ≤ a → a ≤ 1973 → D4 a j = D a j := fun a j u v => lo a j (by omega) (by omega) (by omega) (by omega) (by omega) (by omega)
    exact ⟨rowm_fr (fun j => l _ _ (by omega) (by omega)) (fun j => l _ _ (by omega) (by omega)) (fun j => hi _ _ (by omega) (by omega) (by omega) (by omega) (fun w => by have := cdep_hi (Or.inl rfl) hk w (by omega); omega)) (s77 _ (by omega) (by omega) (by omega) (by omega)) g1, lsW_fr (l _ _ (by omega) (by omega)) (rat_fr (l _ _ (by omega) (by omega)) (fun j => l _ _ (by omega) (by omega))) (l _ _ (by omega) (by omega)) g2, by rw [l _ _ (by omega) (by omega)]; exact g3⟩
  refine RL_clr hR hc (Or.inl (lo _ _ (by omega) (by omega) (by omega) (by omega) (by omega) (by omega))) ⟨?_, ?_⟩ (fun a j u => ?_) ⟨sh0, sh1, co, ?_⟩
  · rw [v0 _ _ (by omega) (by omega) (by omega), d2 _ _ (by omega) (by omega)]
    exact h1.2.1 (by omega)
  · rw [m14 _ (by omega)]
    exact h3.2.1 (by omega)
  · by_cases e : a = 1977
    · rw [e]; exact s77 _ (by omega) (by omega) (by omega) (by omega)
    · by_cases e2 : a = 2013
      · rw [m17 a j (by omega) (by omega) (by omega)]; exact d3 a j (by omega) (by omega) (by omega)
      · exact lo a j (by omega) (by omega) (by omega) (by omega) (by omega) (by omega)
  · rw [m5, e22]
    exact ⟨by omega, by omega, unq_fr (fun a j u => hi a j (by omega) (by omega) (by omega) (by omega) (fun w => by
      by_cases hl : a < 1980
      · have := cdep_lo w hl; omega
      · have := cdep_hi (Or.inl rfl) hk w hl; omega)) n22.2.2⟩
theorem RL_ch1 {x : Int} {D1 D2 : tD} (hR : RL RSc D c) (hc : c < 600) (h1 : CX 1 D D1) (h2 : MX 1 (wr D1 2017 0 x) D2) : RL RSc D2 (c + 1) := by
  have fr : ∀ a j, a ≠ 1 → a < 1974 ∨ (1976 < a ∧ a < 2009) ∨ (2012 < a ∧ a ≠ 2017) → (a = 1977 → j ≠ 37 ∧ j ≠ 2 ∧ j ≠ 0) → D2 a j = D a j := fun a j u v w => by rw [h2.2.2 a j (by omega) w, wr_ne (by omega), h1.2.2 a j u (by omega)]
  refine RL_fr3 hR hc (Or.inl (fr _ _ (by omega) (by omega) (by omega))) (Or.inr ⟨?_, h2.2.1 (by omega)⟩) (fun a j u => fr a j (by omega) (by omega) (by omega))
  rw [h2.2.2 _ _ (by omega) (by omega), wr_ne (by omega)]
  exact h1.2.1 (by omega)
theorem l_child (hR : RL RSc D c) (hc : c < 600) (hi : 0 ≤ i ∧ i + 5 ≤ (sc.1 : Int) ∧ (sc.1 : Int) ≤ 2560) (hgo : ∀ D', RL RSc D' (c + 1) → WP sc 317 1610 D' (LV i) [] K E) : WP sc 317 611 D (LV i) [] K E := by
  refine wp_ok (fun hok => ?_)
  have r3 := hR.2.2.1
  have r7 := hR.2.2.2.2.2.2.1
  have r8 := hR.2.2.2.2.2.2.2
  have h0 := r8.1
  have h8 := h0.1
  have n22 := r8.2.2.2
  rw [show (5 : Int) + 975 * 0 = 5 from rfl] at h8
  obtain ⟨⟨t1, t2, t3⟩, tb⟩ := tape_b hok hR
  obtain ⟨C, c1, c2, c3, c4⟩ := co_of hok r8.2.2.1
  refine v317_611 ?_
  rw [w32_id (x := i + 1) (by omega) (by omega)]
  refine ⟨by omega, fun hx => ?_⟩
  generalize tsv sc (i + 1) = f at hx ⊢
  have hnF : ∃ nF : List Int, (0 ≤ f ∧ f < D 5 4 → nmC D (aF 0 f) nF ∧ nmM D f nF) := by
    by_cases g : 0 ≤ f ∧ f < D 5 4
    · obtain ⟨nF, q1, q2, _⟩ := nm_of hok (Or.inl rfl) (by omega) (h0.2.1 f g.1 (by rw [show (5 : Int) + 975 * 0 = 5 from rfl]; exact g.2))
      rw [show 8 * (0 : Int) + f = f from by omega] at q2
      exact ⟨nF, fun _ => ⟨q1, q2⟩⟩
    · exact ⟨[], fun q => absurd q g⟩
  obtain ⟨nF, hnF⟩ := hnF
  have kd : 0 ≤ f ∧ f < D 5 4 → D 1980 f = D (aF 0 f) 5 ∧ D 1991 f = D (aF 0 f) 7 ∧ D 1993 f = D (aF 0 f) 8 := fun g => by
    have q := h0.2.1 f g.1 (by rw [show (5 : Int) + 975 * 0 = 5 from rfl]; exact g.2)
    have q1 := q.1.1
    have q2 := q.2.2.2.2.2.1.1
    have q3 := (q.2.2.2.2.2.2 rfl).1
    rw [show 8 * (0 : Int) + f = f from by omega] at q1 q2
    exact ⟨q1.symm, q2.symm, q3.symm⟩
  have lbS : ∀ S', chG D f nF C S' → (∀ x ∈ S', lbl x) ∧ S'.flatten.length ≤ 66 := fun S' h => by
    obtain ⟨_, S, q1, _, q3, q4⟩ := h
    have := shP_lbl q3 c4.2.2.2 (tkP_lbl q1)
    have l := fl_le S' this
    exact ⟨this, by omega⟩
  have uni : ∀ S1 S2, chG D f nF C S1 → chG D f nF C S2 → S1 = S2 := fun S1 S2 h1 h2 => by
    obtain ⟨_, S, q1, _, q3, _⟩ := h1
    obtain ⟨_, S', q1', _, q3', _⟩ := h2
    rw [tkP_uni q1' q1] at q3'
    exact shP_uni q3 q3'
  /- the other side, over any memory that has its part -/
  have mside : ∀ {K2 : tD → Int → Prop} {E2 : tD → Nat → Prop} (W : tD), msm D W →
      (∀ D2, MX 1 W D2 → D2 1977 0 = 1 → (¬ ∃ S', chG D f nF C S') → K2 D2 0) →
      (∀ D2 S', MX 1 W D2 → D2 1977 0 = 2 → chG D f nF C S' → (D (aF 0 f) 5 = 4 ∧ D (aF 0 f) 7 = 0) → K2 D2 0) →
      (∀ D2 S' r, MX 1 W D2 → D2 1977 0 = 0 → chG D f nF C S' → ¬ (D (aF 0 f) 5 = 4 ∧ D (aF 0 f) 7 = 0) → fstP (fcS D f S'.flatten) 24 r → 0 ≤ r → K2 D2 r) →
      (∀ D2 S', MX 1 W D2 → D2 1977 0 = 3 → chG D f nF C S' → ¬ (D (aF 0 f) 5 = 4 ∧ D (aF 0 f) 7 = 0) → fstP (fcS D f S'.flatten) 24 (-1) → ¬ (sm (cofC D 0 f) 24 < D (aF 0 f) 8 ∧ D 5 5 < 24) → K2 D2 0) →
      (∀ D2 S' k D3, MX 1 W D2 → D2 1977 0 = 0 → chG D f nF C S' → ¬ (D (aF 0 f) 5 = 4 ∧ D (aF 0 f) 7 = 0) → fstP (fcS D f S'.flatten) 24 (-1) → (sm (cofC D 0 f) 24 < D (aF 0 f) 8 ∧ D 5 5 < 24) → 0 ≤ k → k < 24 → D (aC 0 k) 3 = 0 → (∀ j, 0 ≤ j → j < k → D (aC 0 j) 3 ≠ 0) → mkP D2 D3 k f (D 0 8) S'.flatten → K2 D3 k) →
      WP sc 218 0 W [(0, (1211, 1977)), (1, (0, f))] [] K2 E2 := by
    intro K2 E2 W hW gB gU gO gM gN
    have w : ∀ a j, 1977 ≤ a → a ≤ 2016 → W a j = D a j := fun a j u v => hW a j u v
    have e78 : W 1978 = D 1978 := funext (fun j => w _ _ (by omega) (by omega))
    have mcg : ∀ S', mcG W f nF C S' ↔ chG D f nF C S' := fun S' => by
      unfold mcG chG
      rw [e78, w 1977 2 (by omega) (by omega), w 1979 0 (by omega) (by omega), ← h8.1, w 1980 f (by omega) (by omega)]
      constructor
      · rintro ⟨q1, q2⟩
        rw [(kd q1).1] at q2
        exact ⟨q1, q2⟩
      · rintro ⟨q1, q2⟩
        rw [← (kd q1).1] at q2
        exact ⟨q1, q2⟩
    have st : ∀ S', chG D f nF C S' → ((W 1980 f = 4 ∧ W 1991 f = 0) ↔ (D (aF 0 f) 5 = 4 ∧ D (aF 0 f) 7 = 0)) := fun S' h => by
      rw [w 1980 f (by omega) (by omega), w 1991 f (by omega) (by omega), (kd h.1).1, (kd h.1).2.1]
    have ffw : ∀ l k, fcM W 0 f l k ↔ fcM D 0 f l k := fun l k => by
      unfold fcM isS
      rw [w 1994 _ (by omega) (by omega), w 1995 _ (by omega) (by omega), w 1998 _ (by omega) (by omega)]
      constructor
      · rintro ⟨a, b, d, e⟩
        exact ⟨a, b, d, atL_fr (fun j _ _ => (w _ _ (by omega) (by omega)).symm) e⟩
      · rintro ⟨a, b, d, e⟩
        exact ⟨a, b, d, atL_fr (fun j _ _ => w _ _ (by omega) (by omega)) e⟩
    have fst : ∀ S' r, chG D f nF C S' → fstP (fcM W 0 f S'.flatten) 24 r → fstP (fcS D f S'.flatten) 24 r := fun S' r h q => by
      have iff : ∀ k, 0 ≤ k → k < 24 → (fcM W 0 f S'.flatten k ↔ fcS D f S'.flatten k) := fun k u v => (ffw _ k).trans (fc_iff hok h0 ⟨u, v⟩ (lbS S' h).1)
      rcases q with ⟨q1, q2⟩ | ⟨q1, q2, q3, q4⟩
      · exact Or.inl ⟨q1, fun k u v => fun z => q2 k u v ((iff k u v).mpr z)⟩
      · exact Or.inr ⟨q1, q2, (iff r q1 q2).mp q3, fun k u v z => q4 k u v ((iff k u (by omega)).mpr z)⟩
    have room : ∀ S', chG D f nF C S' → ((sm (cofM W f) 48 < W 1993 f ∧ sm (thM W 0) 24 ≠ 24) ↔ (sm (cofC D 0 f) 24 < D (aF 0 f) 8 ∧ D 5 5 < 24)) := fun S' h => by
      have e1 : sm (cofM W f) 48 = sm (cofM D f) 48 := sm_ext (fun k u v => by unfold cofM; rw [w 1994 _ (by omega) (by omega), w 1995 _ (by omega) (by omega)])
      have e2 : sm (thM W 0) 24 = sm (thM D 0) 24 := sm_ext (fun k u v => by unfold thM; rw [w 1994 _ (by omega) (by omega)])
      have f8 := h.1
      rw [e1, e2, cof_eq h0 r8.2.1 (by omega), th_eq h0, w 1993 f (by omega) (by omega), (kd h.1).2.2]
      have o1 := h0.2.2.2.1
      rw [show (5 : Int) + 975 * 0 = 5 from rfl] at o1
      omega
    have b94 : ∀ k, 0 ≤ k → k < 24 → W 1994 k = D (aC 0 k) 3 ∧ (D (aC 0 k) 3 = 0 ∨ D (aC 0 k) 3 = 1) := fun k u v => by
      obtain ⟨b1, b2, _⟩ := h0.2.2.1 k u v
      rw [show 24 * (0 : Int) + k = k from by omega] at b1
      rw [w 1994 _ (by omega) (by omega), ← b1]
      exact ⟨rfl, b2⟩
    refine m_child (by rw [w 1977 2 (by omega) (by omega), e78]; exact fun j u v => (tb j u v).2.2) (by rw [w 1977 2 (by omega) (by omega)]; exact ⟨t1, t2⟩) (by rw [w 1979 0 (by omega) (by omega)]; omega) (nF := nF) (C := C) (fun g => ?_) ⟨by rw [w _ _ (by omega) (by omega)]; exact c4.1, atL_fr (fun j _ _ => w _ _ (by omega) (by omega)) c4.2.1, c4.2.2⟩ (fun k u v z => ?_) (by rw [w _ _ (by omega) (by omega)]; omega) (fun k u v => by rw [(b94 k u v).1]; exact (b94 k u v).2) (fun D2 q1 q2 q3 => gB D2 q1 q2 (fun ⟨S', z⟩ => q3 ⟨S', (mcg S').mpr z⟩)) (fun D2 S' q1 q2 q3 q4 => ?_) (fun D2 S' r q1 q2 q3 q4 q5 q6 => ?_) (fun D2 S' q1 q2 q3 q4 q5 q6 => ?_) (fun D2 S' k D3 q1 q2 q3 q4 q5 q6 q7 q8 q9 q10 q11 => ?_)
    · rw [w 1979 0 (by omega) (by omega), ← h8.1] at g
      rcases (hnF g).2 with q | ⟨q1, q2, q3, q4, q5, q6⟩
      · exact Or.inl q
      · exact Or.inr ⟨q1, q2, by rw [w _ _ (by omega) (by omega)]; exact q3, q4, atL_fr (fun j u v => w _ _ (by omega) (by omega)) q5, q6⟩
    · rw [(b94 k u v).1] at z
      have := ((h0.2.2.1 k u v).2.2 z).2.1.1
      rw [show 24 * (0 : Int) + k = k from by omega] at this
      rw [w _ _ (by omega) (by omega)]
      exact this.2.2.1
    · have g := (mcg S').mp q3
      exact gU D2 S' q1 q2 g ((st S' g).mp q4)
    · have g := (mcg S').mp q3
      exact gO D2 S' r q1 q2 g (fun z => q4 ((st S' g).mpr z)) (fst S' r g q5) q6
    · have g := (mcg S').mp q3
      exact gM D2 S' q1 q2 g (fun z => q4 ((st S' g).mpr z)) (fst S' _ g q5) (fun z => q6 ((room S' g).mpr z))
    · have g := (mcg S').mp q3
      rw [(b94 k q7 q8).1] at q9
      rw [w 1977 3 (by omega) (by omega), ← r3.1] at q11
      exact gN D2 S' k D3 q1 q2 g (fun z => q4 ((st S' g).mpr z)) (fst S' _ g q5) ((room S' g).mp q6) q7 q8 q9 (fun j u v => by rw [← (b94 j u (by omega)).1]; exact q10 j u v) q11
  have msb : ∀ D1, CX 1 D D1 → msm D (bump D1) := fun D1 h a j u w => by rw [bump_ne (by omega), h.2.2 _ _ (by omega) (by omega)]
  have fneg : ∀ (S' : List (List Int)) r, fstP (fcS D f S'.flatten) 24 r → 0 ≤ r → fstP (fcS D f S'.flatten) 24 (-1) → False := fun S' r q1 q2 q3 => by
    have := fstP_uni (fun _ _ _ => Iff.rfl) q1 q3
    omega
  refine v304_0 (c_child hok hR (nF := nF) (C := C) (fun g => (hnF g).1) c1 c3 (fun D1 g1 g2 => ?_) (fun D1 S1 g1 g2 g3 => ?_) (fun D1 S1 r g1 g2 g3 g4 g5 => ?_) (fun D1 S1 g1 g2 g3 g4 g5 => ?_) (fun D1 S1 k D2 g1 g2 g3 g4 g5 g6 g7 g8 g9 g10 g11 => ?_))
  · rw [if_pos rfl]
    refine ⟨by omega, fun _ => mside _ (msb D1 g1) (fun D2 q1 q2 q3 => tail_r q2 (by omega) (hgo _ (RL_cm hR hc g1 q1))) (fun D2 S' q1 q2 q3 => absurd ⟨S', q3⟩ g2) (fun D2 S' r q1 q2 q3 => absurd ⟨S', q3⟩ g2) (fun D2 S' q1 q2 q3 => absurd ⟨S', q3⟩ g2) (fun D2 S' k D3 q1 q2 q3 => absurd ⟨S', q3⟩ g2)⟩
  · rw [if_neg (by omega), if_pos rfl]
    refine ⟨by omega, fun _ => mside _ (msb D1 g1) (fun D2 q1 q2 q3 => absurd ⟨S1, g2⟩ q3) (fun D2 S' q1 q2 q3 q4 => tail_r q2 (by omega) (hgo _ (RL_cm hR hc g1 q1))) (fun D2 S' r q1 q2 q3 q4 => absurd g3 q4) (fun D2 S' q1 q2 q3 q4 => absurd g3 q4) (fun D2 S' k D3 q1 q2 q3 q4 => absurd g3 q4)⟩
  · refine ⟨⟨by omega, by decide +kernel⟩, by omega, fun _ => mside _ (fun a j u v => by rw [wr_ne (by omega), g1.2.2 _ _ (by omega) (by omega)]) (fun D2 q1 q2 q3 => absurd ⟨S1, g2⟩ q3) (fun D2 S' q1 q2 q3 q4 => absurd q4 g3) (fun D2 S' r' q1 q2 q3 q4 q5 q6 => ?_) (fun D2 S' q1 q2 q3 q4 q5 q6 => ?_) (fun D2 S' k D3 q1 q2 q3 q4 q5 => ?_)⟩
    · have eS := uni _ _ g2 q3
      subst eS
      have er := fstP_uni (fun _ _ _ => Iff.rfl) g4 q5
      subst er
      refine tail_r q2 (fun _ => ?_) (hgo _ (RL_ch1 hR hc g1 q1))
      rw [q1.2.2 _ _ (by omega) (by omega), wr_self]
    · have eS := uni _ _ g2 q3
      subst eS
      exact (fneg _ _ g4 g5 q5).elim
    · have eS := uni _ _ g2 q3
      subst eS
      exact (fneg _ _ g4 g5 q5).elim
  · rw [if_neg (by omega), if_neg (by omega), if_pos rfl]
    refine ⟨by omega, fun _ => mside _ (msb D1 g1) (fun D2 q1 q2 q3 => absurd ⟨S1, g2⟩ q3) (fun D2 S' q1 q2 q3 q4 => absurd q4 g3) (fun D2 S' r' q1 q2 q3 q4 q5 q6 => ?_) (fun D2 S' q1 q2 q3 q4 q5 q6 => tail_r q2 (by omega) (hgo _ (RL_cm hR hc g1 q1))) (fun D2 S' k D3 q1 q2 q3 q4 q5 q6 => absurd q6 g5)⟩
    have eS := uni _ _ g2 q3
    subst eS
    exact (fneg _ _ q5 q6 g4).elim
  · have f8 := g2.1
    have eC : aC 0 k = 161 + 34 * k := by unfold aC; omega
    have eF : aF 0 f = 7 + 17 * f := by unfold aF; omega
    refine ⟨⟨by omega, by decide +kernel⟩, by omega, fun _ => mside _ (fun a j u v => ?_) (fun D2 q1 q2 q3 => absurd ⟨S1, g2⟩ q3) (fun D2 S' q1 q2 q3 q4 => absurd q4 g3) (fun D3 S' r' q1 q2 q3 q4 q5 q6 => ?_) (fun D3 S' q1 q2 q3 q4 q5 q6 => absurd g5 q6) (fun D3 S' k' D4 q1 q2 q3 q4 q5 q6 q7 q8 q9 q10 q11 => ?_)⟩
    · rw [wr_ne (by omega)]
      unfold newC
      rw [wr_ne (by omega), wr_ne (by omega), g11.2.2.2 _ _ (by omega), wr_ne (by omega), g1.2.2 _ _ (by omega) (by omega)]
    · have eS := uni _ _ g2 q3
      subst eS
      exact (fneg _ _ q5 q6 g4).elim
    · have eS := uni _ _ g2 q3
      subst eS
      have ek : k = k' := by
        by_cases z : k < k'
        · exact absurd g8 (q10 k g6 z)
        · by_cases z2 : k' < k
          · exact absurd q9 (g9 k' q7 z2)
          · omega
      subst ek
      refine tail_r ?_ (fun _ => ?_) (hgo _ (RL_new hR hc ⟨g6, g7⟩ g8 g2.1 g10 (lbS _ g2).2 ⟨rfl, g5.2⟩ g1 g11 q1 q11))
      · obtain ⟨_, _, _, _, _, _, m14, _⟩ := q11
        rw [m14 _ (by omega)]; exact q2
      · obtain ⟨_, _, _, _, _, _, _, _, _, m17⟩ := q11
        rw [m17 _ _ (by omega) (by omega) (by omega), q1.2.2 _ _ (by omega) (by omega), wr_self]
end LCH
