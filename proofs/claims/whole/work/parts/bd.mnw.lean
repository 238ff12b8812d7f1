/-! reading a sample: a new child in the middle of its line -/
section MNW
variable {sc : Nat × (Nat → Int32)} {D D1 D' A A1 A' A0 : tD} {K : tD → Int → Prop} {E : tD → Nat → Prop} {T : Int → Int} {n c : Int}
/-- the class's memory with a new child, the other side's -/
def nwD (D1 : tD) (k x : Int) : tD := wr (wr (wr (wr (newC D1 1 k k) 1956 13 x) 1956 6 (aC 1 k)) 1956 15 0) 1956 16 0
def nwA (A1 : tD) : tD := wr (wr (wr A1 1977 53 0) 1977 55 0) 1977 54 0
theorem MS_new {B f k x w : Int} {S : List (List Int)} (hQ : RQ c B D A) (hf : D 980 4 = f + 1 ∧ 0 ≤ f ∧ f < 8) (hk : k = D 980 5 ∧ 0 ≤ k ∧ k < 24) (hS : srtL S) (hl : S.flatten.length ≤ 66) (hb : begP D D1 1 k f (-1) S) (hm : mkP (wr A 1977 50 (24 + k)) A1 (24 + k) (8 + f) (-1) S.flatten) (hx : x = if D 1956 6 = -1 then 1 else 0) (h9 : D 1956 9 = w) (h51 : A 1977 51 = 0) (hw : w = wnt (D (aF 1 f) 5) 0) (hkd : 0 ≤ D (aF 1 f) 5 ∧ D (aF 1 f) 5 ≤ 4) : (MS c B f k (nwD D1 k x) (nwA A1) ∧ MN w 0 (nwD D1 k x) (nwA A1)) ∧ KD f k w (nwD D1 k x) (nwA A1) ∧ nwD D1 k x (aF 1 f) 5 = D (aF 1 f) 5 ∧ (∀ a j, a < 980 ∨ (1954 < a ∧ a ≠ 1956) ∨ (a = 1956 ∧ j ≠ 13 ∧ j ≠ 6 ∧ j ≠ 15 ∧ j ≠ 16) → nwD D1 k x a j = D a j) ∧ frV A (nwA A1) ∧ (∀ j, j ≠ 22 → j ≠ 50 → j ≠ 53 → j ≠ 54 → j ≠ 55 → nwA A1 1977 j = A 1977 j) ∧ ∀ a j, a = 1978 ∨ 2008 < a → nwA A1 a j = A a j := by
  obtain ⟨⟨hsh, hc0⟩, hwh, h22, hct, hfm⟩ := hQ
  obtain ⟨f0, f1, f2⟩ := hf
  obtain ⟨k0, k1, k2⟩ := hk
  have aCb := aC1 k
  have aFb := aF1 f
  obtain ⟨b1, b2, b3, b4⟩ := hb
  obtain ⟨⟨m1, m2, m3, m4, m5⟩, ⟨m6, m7⟩, ⟨m8, m9, m10⟩, m11, m12, m13, m14, m15, m16, m17⟩ := hm
  rcases hfm with g | ⟨g1, g2, g3, g4, g5⟩
  · omega
  rw [f0, show f + 1 - 1 = f from by omega] at g2 g3 g4 g5
  have e22 : (wr A 1977 50 (24 + k)) 1977 22 = A 1977 22 := wr_ni (by omega)
  rw [e22] at m4 m5
  /- the class's memory -/
  have L : ∀ a j, aC 1 k ≤ a → a ≤ aC 1 k + 33 → nwD D1 k x a j = D1 a j := fun a j u v => by
    unfold nwD newC
    rw [wr_ne (by omega), wr_ne (by omega), wr_ne (by omega), wr_ne (by omega), wr_ne (by omega), wr_ne (by omega)]
  have O : ∀ a j, (a < aC 1 k ∨ aC 1 k + 33 < a) → ¬ (a = 1952 ∧ j = k) → ¬ (a = 980 ∧ j = 5) → a ≠ 1956 → nwD D1 k x a j = D a j := fun a j u v y z => by
    unfold nwD newC
    rw [wr_ne z, wr_ne z, wr_ne z, wr_ne z]
    have q : (wr (wr D1 (977 + 975 * 1) k k) (5 + 975 * 1) 5 (k + 1)) a j = D1 a j := by
      by_cases z1 : a = 980
      · subst z1
        rw [show (5 : Int) + 975 * 1 = 980 from rfl, wr_ni (by omega), wr_ne (by omega)]
      · rw [wr_ne (by omega)]
        by_cases z2 : a = 1952
        · subst z2
          rw [show (977 : Int) + 975 * 1 = 1952 from rfl, wr_ni (by omega)]
        · rw [wr_ne (by omega)]
    rw [q, b4 a j u]
  have R : ∀ j, j ≠ 13 → j ≠ 6 → j ≠ 15 → j ≠ 16 → nwD D1 k x 1956 j = D 1956 j := fun j u v y z => by
    unfold nwD newC
    rw [wr_ni z, wr_ni y, wr_ni v, wr_ni u, wr_ne (by omega), wr_ne (by omega), b4 _ _ (by omega)]
  have r13 : nwD D1 k x 1956 13 = x := by
    unfold nwD
    rw [wr_ni (by omega), wr_ni (by omega), wr_ni (by omega), wr_self]
  have r6 : nwD D1 k x 1956 6 = aC 1 k := by
    unfold nwD
    rw [wr_ni (by omega), wr_ni (by omega), wr_self]
  have r15 : nwD D1 k x 1956 15 = 0 := by
    unfold nwD
    rw [wr_ni (by omega), wr_self]
  have r16 : nwD D1 k x 1956 16 = 0 := by
    unfold nwD
    rw [wr_self]
  have d5 : nwD D1 k x 980 5 = k + 1 := by
    unfold nwD newC
    rw [wr_ne (by omega), wr_ne (by omega), wr_ne (by omega), wr_ne (by omega), show (5 : Int) + 975 * 1 = 980 from rfl, wr_self]
  have dI : nwD D1 k x 1952 k = k := by
    unfold nwD newC
    rw [wr_ne (by omega), wr_ne (by omega), wr_ne (by omega), wr_ne (by omega), show (5 : Int) + 975 * 1 = 980 from rfl, wr_ne (by omega), show (977 : Int) + 975 * 1 = 1952 from rfl, wr_self]
  /- the other side's -/
  have P : ∀ a j, a ≠ 1977 → nwA A1 a j = A1 a j := fun a j u => by
    unfold nwA
    rw [wr_ne u, wr_ne u, wr_ne u]
  have p7 : ∀ j, j ≠ 53 → j ≠ 54 → j ≠ 55 → nwA A1 1977 j = A1 1977 j := fun j u v y => by
    unfold nwA
    rw [wr_ni v, wr_ni y, wr_ni u]
  have q7 : ∀ j, j ≠ 22 → j ≠ 50 → j ≠ 53 → j ≠ 54 → j ≠ 55 → nwA A1 1977 j = A 1977 j := fun j u v y z z2 => by rw [p7 j y z z2, m14 j u, wr_ni v]
  have p22 : nwA A1 1977 22 = A 1977 22 + 1 := by rw [p7 _ (by omega) (by omega) (by omega), m5]
  have p50 : nwA A1 1977 50 = 24 + k := by rw [p7 _ (by omega) (by omega) (by omega), m14 _ (by omega), wr_self]
  have hi : ∀ a j, 1978 ≤ a → ¬ (a = 1992 ∧ j = 8 + f) → ¬ ((a = 1994 ∨ a = 1996) ∧ j = 24 + k) → ¬ cdep 1 k a j → nwA A1 a j = A a j := fun a j u1 u3 u4 u5 => by
    rw [P a j (by omega)]
    have w0 : (wr A 1977 50 (24 + k)) a j = A a j := wr_ne (by omega)
    rw [← w0]
    have nj : (a = 1995 ∨ a = 1998 ∨ a = 1999 ∨ a = 2000 ∨ a = 2001) → j ≠ 24 + k := fun z w => u5 (Or.inr (Or.inl ⟨z, by omega⟩))
    by_cases z1 : a = 1992
    · rw [z1]; exact m13 j (fun w => u3 ⟨z1, w⟩)
    · by_cases z2 : a = 1997
      · rw [z2]; exact m15 j (fun w => u5 (Or.inr (Or.inr (Or.inl ⟨z2, by omega, by omega⟩))))
      · by_cases z3 : a = 2002 ∨ a = 2003
        · exact m16 a j z3 (fun w => u5 (Or.inr (Or.inr (Or.inr (Or.inl ⟨by omega, by omega, by omega⟩)))))
        · by_cases z4 : 1994 ≤ a ∧ a ≤ 2001
          · refine m12 a j (by omega) (fun w => ?_)
            by_cases z5 : a = 1994 ∨ a = 1996
            · exact u4 ⟨z5, w⟩
            · exact nj (by omega) w
          · exact m17 a j (by omega) z1 (by omega)
  have fV : frV A (nwA A1) := fun a j u => by
    by_cases z7 : a = 1977
    · subst z7
      exact q7 j (by omega) (by omega) (by omega) (by omega) (by omega)
    by_cases z8 : a < 1978
    · rw [P a j z7, m17 a j (by omega) (by omega) z7, wr_ne z7]
    refine hi a j (by omega) (fun y => ?_) (fun y => ?_) (fun y => ?_)
    · have e : cap0 1992 = 8 := rfl
      rw [y.1] at u
      omega
    · have e : cap0 a = 24 := by rcases y.1 with y | y <;> rw [y] <;> rfl
      omega
    · rcases y with y | y | y | y | y
      · omega
      · have e : cap0 a = 24 := by rcases y.1 with y | y | y | y | y <;> rw [y] <;> rfl
        omega
      · have e : cap0 1997 = 1584 := rfl
        rw [y.1] at u
        omega
      · have e : cap0 a = 168 := by rcases y.1 with y | y | y | y | y <;> rw [y] <;> rfl
        omega
      · have e : cap0 2006 = 7392 := rfl
        rw [y.1] at u
        omega
  have nD : ∀ a j, a < 980 ∨ (1954 < a ∧ a ≠ 1956) ∨ (a = 1956 ∧ j ≠ 13 ∧ j ≠ 6 ∧ j ≠ 15 ∧ j ≠ 16) → nwD D1 k x a j = D a j := fun a j u => by
    by_cases z : a = 1956
    · subst z; exact R j (by omega) (by omega) (by omega) (by omega)
    · exact O a j (by omega) (by omega) (by omega) z
  have e24 : (24 : Int) * 1 + k = 24 + k := by omega
  have e5 : (5 : Int) + 975 * 1 = 980 := rfl
  have e77 : (977 : Int) + 975 * 1 = 1952 := rfl
  have hN : nwR (mx (nwD D1 k x) (nwA A1)) 1 k f (-1) S := by
    refine ⟨⟨?_, ?_, ?_, ?_, ?_⟩, ?_, fun b u v => ?_, ⟨?_, ?_⟩, ⟨?_, ?_⟩, ⟨?_, ?_, ?_⟩, fun b u v => ?_⟩
    · rw [mx_lo (by omega), L _ _ (by omega) (by omega)]; exact b1.1
    · rw [mx_lo (by omega), L _ _ (by omega) (by omega)]; exact b1.2.1
    · rw [mx_lo (by omega), L _ _ (by omega) (by omega)]; exact b1.2.2.1
    · rw [mx_lo (by omega), L _ _ (by omega) (by omega)]; exact b1.2.2.2.1
    · rw [mx_lo (by omega), L _ _ (by omega) (by omega)]; exact b1.2.2.2.2
    · obtain ⟨q1, q2, q3, q4⟩ := b2
      exact ⟨by rw [mx_lo (by omega), L _ _ (by omega) (by omega)]; exact q1, by rw [mx_lo (by omega), L _ _ (by omega) (by omega)]; exact q2, atL_fr (fun j u v => by rw [mx_lo (by omega), L _ _ (by omega) (by omega)]) q3, q4⟩
    · have eX : aX 1 k b = aC 1 k + 6 + 4 * b := by unfold aX aC; omega
      obtain ⟨q1, q2, q3, q4, q5⟩ := b3 b u v
      exact ⟨by rw [mx_lo (by omega), L _ _ (by omega) (by omega)]; exact q1, by rw [mx_lo (by omega), L _ _ (by omega) (by omega)]; exact q2, by rw [mx_lo (by omega), L _ _ (by omega) (by omega)]; exact q3, by rw [mx_lo (by omega), L _ _ (by omega) (by omega)]; exact q4, by rw [mx_lo (by omega), L _ _ (by omega) (by omega)]; exact q5⟩
    · rw [mx_hi (by omega), e24, P _ _ (by omega)]; exact m1
    · rw [mx_hi (by omega), e24, P _ _ (by omega), m2]; omega
    · rw [mx_hi (by omega), e24, P _ _ (by omega)]; exact m6
    · rw [e24]; exact atL_fr (fun j u v => by rw [mx_hi (by omega), P _ _ (by omega)]) m7
    · rw [mx_hi (by omega), e24, P _ _ (by omega)]; exact m8
    · rw [mx_hi (by omega), e24, P _ _ (by omega)]; exact m9
    · rw [mx_hi (by omega), e24, P _ _ (by omega), m10]; split <;> rfl
    · rw [mx_hi (by omega), mx_hi (by omega), e24, P _ _ (by omega), P _ _ (by omega)]; exact m11 b u v
  have hk3 : D (aC 1 k) 3 = 0 := by
    have q := (hsh.2.2.1 k k1 k2).2.1
    rw [mx_lo (by omega)] at q
    have q2 := (hct k k1 k2)
    omega
  have sh : shR c (mx (nwD D1 k x) (nwA A1)) 1 := by
    refine shR_new (D := mx D A) (c := c) (k := k) (f := f) (n := k) (t := -1) (Or.inr rfl) ⟨k1, k2⟩ (by rw [mx_lo (by omega)]; exact hk3) (by omega) hc0 (by rw [e5, mx_lo (by omega)]; omega) hS hl (by omega) (by rw [e5, mx_lo (by omega)]; exact k0.symm) hN ?_ ?_ ?_ ?_ ?_ (fun y => by omega) (fun a j u1 u2 u3 u4 u5 u6 u7 u8 => ?_) hsh
    · rw [e5, mx_lo (by omega)]; exact d5
    · rw [e77, mx_lo (by omega)]; exact dI
    · rw [e24, mx_hi (by omega), mx_hi (by omega), P _ _ (by omega)]; exact m4
    · rw [mx_hi (by omega), mx_hi (by omega)]; exact p22
    · rw [mx_hi (by omega)]; have := h22.1; omega
    · rw [e77] at u3
      rw [e5] at u4
      rw [e24] at u7
      have key : (980 ≤ a ∧ a ≤ 1954) ∨ (1979 ≤ a ∧ a ≤ 2007 ∧ a ≠ 1992) := by
        rcases u1 with w | w | w | w | w | w | w
        · exact Or.inl (by omega)
        · exact Or.inr (by omega)
        · exact Or.inr (by omega)
        · omega
        · exact Or.inr (by omega)
        · exact Or.inr (by omega)
        · omega
      rcases key with w | w
      · rw [mx_lo (by omega), mx_lo (by omega)]
        refine O a j ?_ u3 u4 (by omega)
        by_cases z : a < aC 1 k
        · exact Or.inl z
        · by_cases z2 : aC 1 k + 33 < a
          · exact Or.inr z2
          · exact absurd (Or.inl ⟨by omega, by omega⟩) u2
      · rw [mx_hi (by omega), mx_hi (by omega)]
        exact hi a j (by omega) (by omega) u7 u2
  have oth : ∀ i, 0 ≤ i → i < 24 → i ≠ k → ∀ j, nwD D1 k x (aC 1 i) j = D (aC 1 i) j := fun i u v y j => by
    have := aC1 i
    exact O _ _ (by omega) (by omega) (by omega) (by omega)
  have dF : ∀ d j, 0 ≤ d → d ≤ 16 → nwD D1 k x (aF 1 f + d) j = D (aF 1 f + d) j := fun d j u v => O _ _ (by omega) (by omega) (by omega) (by omega)
  have dF0 : ∀ j, nwD D1 k x (aF 1 f) j = D (aF 1 f) j := fun j => O _ _ (by omega) (by omega) (by omega) (by omega)
  have k3' : nwD D1 k x (aC 1 k) 3 = 1 := by rw [L _ _ (by omega) (by omega)]; exact b1.1
  refine ⟨⟨⟨⟨⟨sh, hc0⟩, ⟨by rw [p22]; omega, by rw [p22, d5]; omega⟩, fun i u v => ?_⟩, ⟨⟨f1, f2, by rw [O _ _ (by omega) (by omega) (by omega) (by omega)]; exact f0⟩, by rw [R _ (by omega) (by omega) (by omega) (by omega)]; exact g2, by rw [R _ (by omega) (by omega) (by omega) (by omega)]; exact g3, by rw [q7 _ (by omega) (by omega) (by omega) (by omega) (by omega)]; exact g4⟩, ⟨⟨k1, k2, by rw [d5]⟩, r6, p50, k3', by rw [L _ _ (by omega) (by omega)]; exact b1.2.1⟩, ?_⟩, ⟨?_, by rw [r15]; omega, by rw [r15]; omega⟩, ⟨?_, by rw [r16]; omega, by rw [r16]; omega⟩, by rw [R _ (by omega) (by omega) (by omega) (by omega)]; exact h9⟩, ?_, dF0 5, nD, fV, q7, fun a j u => ?_⟩
  · rw [d5]
    by_cases y : i = k
    · rw [y, k3']; omega
    · rw [oth i u v y, hct i u v]; omega
  · rw [r13]
    rcases g5 with g | ⟨q, g⟩
    · refine Or.inl ⟨hx.trans (if_pos g.1.1), fun i u v => ?_⟩
      rw [oth i u (by omega) (by omega)]
      exact g.2.2.2.2.1 i u (by omega) ((hct i u (by omega)).mpr (by omega))
    · have q6 := g.2.1.1
      have aCq := aC1 q
      have gq := g.1
      refine Or.inr ⟨hx.trans (if_neg (by omega)), q, gq.1, by omega, ?_⟩
      rw [oth q gq.1 gq.2.1 (by omega)]
      exact g.2.1.2.2.2
  · rw [r15]
    unfold nwA
    rw [wr_ni (by omega), wr_ni (by omega), wr_self]
    omega
  · rw [r16]
    unfold nwA
    rw [wr_ni (by omega), wr_self]
    omega
  · have e51 : nwA A1 1977 51 = 0 := by rw [q7 _ (by omega) (by omega) (by omega) (by omega) (by omega)]; exact h51
    have x1 : x = 1 → D (aF 1 f) 6 = 0 ∧ D (aF 1 f) 7 = 0 := fun y => by
      rcases g5 with g | ⟨q, g⟩
      · exact g.2.2.2.2.2
      · have q6 := g.2.1.1
        have aCq := aC1 q
        have gq := g.1
        rw [if_neg (by omega)] at hx
        omega
    unfold KD
    rw [dF0, dF0, dF0, r13, r15, e51]
    unfold wnt at hw
    by_cases y0 : D (aF 1 f) 5 = 0
    · rw [if_pos y0] at hw
      exact Or.inl ⟨Or.inl ⟨y0, Or.inl hw⟩, rfl⟩
    rw [if_neg y0] at hw
    by_cases y2 : D (aF 1 f) 5 = 2
    · rw [if_pos y2, if_pos (Or.inl rfl)] at hw
      refine Or.inr (Or.inl ⟨y2, fun b u v => ?_, Or.inr (Or.inr (Or.inr ⟨hw, Or.inl ⟨rfl, fun y => (x1 y).1⟩⟩))⟩)
      rw [L _ _ (by omega) (by omega)]
      exact (b3 b u v).1
    rw [if_neg y2] at hw
    by_cases y3 : D (aF 1 f) 5 = 3
    · rw [if_pos y3] at hw
      exact Or.inl ⟨Or.inr (Or.inr ⟨y3, hw⟩), rfl⟩
    rw [if_neg y3] at hw
    by_cases y1 : D (aF 1 f) 5 = 1
    · exact Or.inl ⟨Or.inr (Or.inl ⟨y1, hw⟩), rfl⟩
    have s7 : 0 ≤ D (aF 1 f) 7 := by
      have fa := (hsh.2.1 f f1 (by rw [mx_lo (by omega)]; show f < D 980 4; omega)).2.2.2.2.2.1.2.1
      rw [mx_lo (by omega)] at fa
      exact fa
    refine Or.inr (Or.inr ⟨by omega, hw, fun b u v q e => ?_, s7, fun y => (x1 y).2.symm, fun y => ?_⟩)
    rotate_left
    · rcases g5 with g | ⟨q, g⟩
      · rw [if_pos g.1.1] at hx; omega
      · rcases g.2.2.2.2.2.2.2.2 with w | w | w
        · omega
        · have := w.2.1; omega
        · omega
    rw [L _ _ (by omega) (by omega), b1.2.2.2.2]
    exact Nat.zero_testBit q
  · by_cases z : a = 1978
    · subst z; exact hi _ _ (by omega) (by omega) (by omega) (fun y => by rcases y with y | y | y | y | y <;> omega)
    · exact hi _ _ (by omega) (by omega) (by omega) (fun y => by rcases y with y | y | y | y | y <;> omega)
end MNW
