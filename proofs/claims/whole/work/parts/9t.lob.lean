/-! the law's loop: observe -/
section LOB
variable {sc : Nat × (Nat → Int32)} {D D' : tD} {K : tD → Int → Prop} {E : tD → Nat → Prop} {c i : Int}
theorem ob2_ne {D1 : tD} {x n b q a j : Int} (h : a ≠ aC 0 x) (h' : a ≠ aC 0 x + 4) : (ob2 D1 x n b q) a j = D1 a j := by unfold ob2; rw [wr_ne h', wr_ne h]
theorem mo2_ne {D1 : tD} {x n b q a j : Int} (h : a ≠ 1999) (h' : a ≠ 2002) : (mo2 D1 x n b q) a j = D1 a j := by unfold mo2; rw [wr_ne h', wr_ne h]
theorem ob2_5 {D1 : tD} {x n b q : Int} : (ob2 D1 x n b q) (aC 0 x) 5 = n := by unfold ob2; rw [wr_ne (by omega), wr_self]
theorem ob2_j {D1 : tD} {x n b q j : Int} (h : j ≠ 5) : (ob2 D1 x n b q) (aC 0 x) j = D1 (aC 0 x) j := by unfold ob2; rw [wr_ne (by omega), wr_ni h]
theorem ob2_b {D1 : tD} {x n b q : Int} : (ob2 D1 x n b q) (aC 0 x + 4) b = q := by unfold ob2; rw [wr_self]
theorem ob2_bj {D1 : tD} {x n b q j : Int} (h : j ≠ b) : (ob2 D1 x n b q) (aC 0 x + 4) j = D1 (aC 0 x + 4) j := by unfold ob2; rw [wr_ni h, wr_ne (by omega)]
theorem mo2_n {D1 : tD} {x n b q : Int} : (mo2 D1 x n b q) 1999 x = n := by unfold mo2; rw [wr_ne (by omega), wr_self]
theorem mo2_nj {D1 : tD} {x n b q j : Int} (h : j ≠ x) : (mo2 D1 x n b q) 1999 j = D1 1999 j := by unfold mo2; rw [wr_ne (by omega), wr_ni h]
theorem mo2_b {D1 : tD} {x n b q : Int} : (mo2 D1 x n b q) 2002 (7 * x + b) = q := by unfold mo2; rw [wr_self]
theorem mo2_bj {D1 : tD} {x n b q j : Int} (h : j ≠ 7 * x + b) : (mo2 D1 x n b q) 2002 j = D1 2002 j := by unfold mo2; rw [wr_ni h, wr_ne (by omega)]
/-- both sides have observed: W4 is what stands, but for the exemplar -/
theorem RL_ob {x n b q x4 : Int} {D1 W D2 D3 D4 : tD} (hR : RL RSc D c) (hc : c < 600) (hx : 0 ≤ x ∧ x < 24) (h3 : D (aC 0 x) 3 = 1) (hkd : D (aF 0 (D (aC 0 x) 4)) 5 = 2) (hb : 0 ≤ b ∧ b < 7) (hb6 : b ≤ D (aF 0 (D (aC 0 x) 4)) 6) (hq : q = D (aC 0 x + 4) b + 1) (hn : numP n) (h1 : CX x4 D D1)
    (hW : ∀ a j, a < aX 0 x b ∨ aX 0 x b + 3 < a → W a j = (ob2 D1 x n b q) a j) (h2 : MX x4 W D2)
    (m6 : ∀ a j, a = 2003 ∨ a = 2004 ∨ a = 2005 ∨ a = 2007 → j ≠ 7 * x + b → D4 a j = D2 a j) (m7 : ∀ j, ¬ (44 * (7 * x + b) ≤ j ∧ j < 44 * (7 * x + b) + 44) → D4 2006 j = D2 2006 j) (m8 : ∀ a j, a < 2003 ∨ 2007 < a → D4 a j = (mo2 D2 x n b q) a j)
    (hX : exR D4 (aX 0 x b) (7 * x + b)) : RL RSc D4 (c + 1) := by
  have eC : aC 0 x = 161 + 34 * x := by unfold aC; omega
  have eX : aX 0 x b = 167 + 34 * x + 4 * b := by unfold aX; omega
  have r7 := hR.2.2.2.2.2.2.1
  have r8 := hR.2.2.2.2.2.2.2
  have hch := (r8.1.2.2.1 x hx.1 hx.2).2.2 h3
  have hp := hch.1
  have hn0 := r8.1.1
  have q1 : ∀ a j, a < 1977 → D4 a j = W a j := fun a j u => by rw [m8 _ _ (by omega), mo2_ne (by omega) (by omega), h2.2.2 _ _ (by omega) (by omega)]
  have lo2 : ∀ a j, a < 1974 → a ≠ 1 → a ≠ aC 0 x → a ≠ aC 0 x + 4 → a < aX 0 x b ∨ aX 0 x b + 3 < a → D4 a j = D a j := fun a j u v w y z => by rw [q1 a j (by omega), hW a j z, ob2_ne w y, h1.2.2 _ _ v (by omega)]
  have c5 : D4 (aC 0 x) 5 = n := by rw [q1 _ _ (by omega), hW _ _ (by omega), ob2_5]
  have cj : ∀ j, j ≠ 5 → D4 (aC 0 x) j = D (aC 0 x) j := fun j u => by rw [q1 _ _ (by omega), hW _ _ (by omega), ob2_j u, h1.2.2 _ _ (by omega) (by omega)]
  have kb : D4 (aC 0 x + 4) b = q := by rw [q1 _ _ (by omega), hW _ _ (by omega), ob2_b]
  have kj : ∀ j, j ≠ b → D4 (aC 0 x + 4) j = D (aC 0 x + 4) j := fun j u => by rw [q1 _ _ (by omega), hW _ _ (by omega), ob2_bj u, h1.2.2 _ _ (by omega) (by omega)]
  have q3 : ∀ a j, 1977 ≤ a → a < 2009 ∨ 2012 < a → (a = 1977 → j ≠ 37 ∧ j ≠ 2 ∧ j ≠ 0) → D2 a j = D a j := fun a j u1 u2 u4 => by rw [h2.2.2 _ _ u2 u4, hW _ _ (by omega), ob2_ne (by omega) (by omega), h1.2.2 _ _ (by omega) (by omega)]
  have hi : ∀ a j, 1977 ≤ a → a < 2003 ∨ a = 2008 ∨ 2012 < a → a ≠ 1999 → a ≠ 2002 → (a = 1977 → j ≠ 37 ∧ j ≠ 2 ∧ j ≠ 0) → D4 a j = D a j := fun a j u1 u2 u3 u3' u4 => by rw [m8 _ _ (by omega), mo2_ne u3 u3', q3 _ _ u1 (by omega) u4]
  have h6 : ∀ a j, a = 2003 ∨ a = 2004 ∨ a = 2005 ∨ a = 2007 → j ≠ 7 * x + b → D4 a j = D a j := fun a j u w => by rw [m6 a j u w, q3 _ _ (by omega) (by omega) (by omega)]
  have h7 : ∀ j, ¬ (308 * x + 44 * b ≤ j ∧ j < 308 * x + 44 * b + 44) → D4 2006 j = D 2006 j := fun j u => by rw [m7 j (by omega), q3 _ _ (by omega) (by omega) (by omega)]
  have hk2 : ∀ j, j ≠ 7 * x + b → D4 2002 j = D 2002 j := fun j u => by rw [m8 _ _ (by omega), mo2_bj u, q3 _ _ (by omega) (by omega) (by omega)]
  have hkb : D4 2002 (7 * x + b) = q := by rw [m8 _ _ (by omega), mo2_b]
  refine RL_chx (x := x) hR hc hx h3 (lo2 _ _ (by omega) (by omega) (by omega) (by omega) (by omega)) ?_ ?_ ?_ (fun e u w => ?_) (fun e u w => ?_) (fun j u v => cj j u) (fun j u v w => hi _ _ (by omega) (by omega) (by omega) (by omega) (by omega)) (fun a j u v => ?_) (fun a j u v w z => ?_) (fun j u => h7 j (by omega)) (fun a j u => ?_)
  · by_cases z : x4 = 0
    · refine Or.inl ⟨?_, fun j => ?_⟩
      · rw [m8 _ _ (by omega), mo2_ne (by omega) (by omega), h2.1 z, hW _ _ (by omega), ob2_ne (by omega) (by omega), h1.2.2 _ _ (by omega) (by omega)]
      · rw [q1 _ _ (by omega), hW _ _ (by omega), ob2_ne (by omega) (by omega), h1.1 z]
    · refine Or.inr ⟨?_, ?_⟩
      · rw [q1 _ _ (by omega), hW _ _ (by omega), ob2_ne (by omega) (by omega), h1.2.1 z]
      · rw [m8 _ _ (by omega), mo2_ne (by omega) (by omega), h2.2.1 z]
  · unfold chN
    rw [show 24 * (0 : Int) + x = x from by omega, c5, m8 _ _ (by omega), mo2_n]
    exact ⟨rfl, hn⟩
  · have := hch.2.2.2.2.1
    unfold chS
    rw [show 24 * (0 : Int) + x = x from by omega] at this ⊢
    rw [cj 7 (by omega), hi 2001 _ (by omega) (by omega) (by omega) (by omega) (by omega)]
    exact this
  · have k0 := hch.2.2.2.2.2.1
    rw [show 7 * (24 * (0 : Int) + x) = 7 * x from by omega] at *
    rw [cj 4 (by omega), lo2 (aF 0 (D (aC 0 x) 4)) 5 (by unfold aF; omega) (by unfold aF; omega) (by unfold aF; omega) (by unfold aF; omega) (by unfold aF; omega), lo2 (aF 0 (D (aC 0 x) 4)) 6 (by unfold aF; omega) (by unfold aF; omega) (by unfold aF; omega) (by unfold aF; omega) (by unfold aF; omega)]
    by_cases z : e = b
    · rw [z, kb, hkb]
      have := k0 b hb.1 hb.2
      exact ⟨rfl, by omega, by omega, fun g => by rcases g with g | g; exact absurd hkd g; omega⟩
    · rw [kj e z, hk2 _ (by omega)]
      have := k0 e u w
      exact ⟨this.1, this.2.1, by omega, this.2.2.2⟩
  · by_cases z : e = b
    · subst z
      rw [show 7 * (24 * (0 : Int) + x) + e = 7 * x + e from by omega]
      exact hX
    · have eB : aX 0 x e = 167 + 34 * x + 4 * e := by unfold aX; omega
      refine exR_fr2 (fun a j y => ?_) (hch.2.2.2.2.2.2 e u w)
      rw [show 7 * (24 * (0 : Int) + x) + e = 7 * x + e from by omega] at y
      rcases y with y | y | y
      · exact lo2 _ _ (by omega) (by omega) (by omega) (by omega) (by omega)
      · exact h6 _ _ y.1 (by omega)
      · rw [y.1]; exact h7 _ (by omega)
  · rcases u with u | u
    · subst u
      rw [m8 _ _ (by omega), mo2_nj v, q3 _ _ (by omega) (by omega) (by omega)]
    · exact hi _ _ (by omega) (by omega) (by omega) (by omega) (by omega)
  · by_cases e : a = 2002
    · rw [e]; exact hk2 _ (by omega)
    · exact h6 _ _ (by omega) (by omega)
  · rcases u with u | u
    · exact lo2 _ _ (by omega) (by omega) (by omega) (by omega) (by omega)
    · exact hi _ _ (by omega) (by omega) (by omega) (by omega) (by omega)
theorem m_obsD {D1 : tD} {x v x4 : Int} (hok : okD D) (hR : RL RSc D c) (hM : msm D D1)
    (hN : ∀ D2, MX x4 D1 D2 → D2 1977 0 = 1 → ¬ kcC D x 2 → K D2 0)
    (hV : ∀ D2, MX x4 D1 D2 → D2 1977 0 = 2 → kcC D x 2 → (¬ obV D x v ∨ (x4 ≠ 0 ∧ ¬ ∃ S, exG (D 1978) (D 1977 2) S)) → K D2 0)
    (hS : ∀ D2, MX x4 D1 D2 → D2 1977 0 = 3 → obV D x v → (x4 ≠ 0 → ∃ S, exG (D 1978) (D 1977 2) S) → ¬ numP (D (aC 0 x) 5 + v) → K D2 0)
    (hT0 : ∀ D2 b, MX x4 D1 D2 → D2 1977 0 = 0 → obV D x v → (x4 ≠ 0 → ∃ S, exG (D 1978) (D 1977 2) S) → numP (D (aC 0 x) 5 + v) → obB D x v b → (x4 = 0 ∨ ¬ kxC D (aX 0 x b)) → K (mo2 D2 x (D (aC 0 x) 5 + v) b (D (aC 0 x + 4) b + 1)) 0)
    (hT1 : ∀ D2 b S D3, MX x4 D1 D2 → D2 1977 0 = 0 → obV D x v → x4 ≠ 0 → exG (D 1978) (D 1977 2) S → numP (D (aC 0 x) 5 + v) → obB D x v b → kxC D (aX 0 x b) → D3 2003 (7 * x + b) = 1 → D3 2004 (7 * x + b) = v → D3 2005 (7 * x + b) = D 0 8 → D3 2007 (7 * x + b) = (S.flatten.length : Int) → atL D3 2006 (44 * (7 * x + b)) S.flatten → (∀ a j, a = 2003 ∨ a = 2004 ∨ a = 2005 ∨ a = 2007 → j ≠ 7 * x + b → D3 a j = D2 a j) → (∀ j, ¬ (44 * (7 * x + b) ≤ j ∧ j < 44 * (7 * x + b) + 44) → D3 2006 j = D2 2006 j) → (∀ a j, a < 2003 ∨ 2007 < a → D3 a j = (mo2 D2 x (D (aC 0 x) 5 + v) b (D (aC 0 x + 4) b + 1)) a j) → K D3 0) : WP sc 228 0 D1 [(0, (1211, 1977)), (1, (0, x)), (2, (1, v)), (4, (0, x4))] [] K E := by
  have mN : mostN = 999999999999999 := rfl
  have r3 := hR.2.2.1
  have r7 := hR.2.2.2.2.2.2.1
  have r8 := hR.2.2.2.2.2.2.2
  have h0 := r8.1
  have hn0 := h0.1
  obtain ⟨⟨t1, t2, t3⟩, tb⟩ := tape_b hok hR
  have fm : ∀ a j, (1980 ≤ a ∧ a ≤ 1995) → D1 a j = D a j := fun a j u => hM a j (by omega) (by omega)
  have e78 : D1 1978 = D 1978 := funext (fun j => hM _ _ (by omega) (by omega))
  have e77 : ∀ j, D1 1977 j = D 1977 j := fun j => hM _ _ (by omega) (by omega)
  have mi : mkC D1 x 2 2 ↔ kcC D x 2 := ((mkC_fr fm).trans (mkC_iff h0)).trans (or_self_iff)
  have nm : kcC D x 2 → D1 1999 x = D (aC 0 x) 5 ∧ -mostN ≤ D (aC 0 x) 5 ∧ D (aC 0 x) 5 ≤ mostN := fun h => by
    have := ((h0.2.2.1 x h.1 h.2.1).2.2 h.2.2.1).2.2.1
    rw [show 24 * (0 : Int) + x = x from by omega] at this
    rw [hM 1999 x (by omega) (by omega)]
    omega
  have kx : kcC D x 2 → ∀ b, 0 ≤ b → b < 7 → (kxM D1 (7 * x + b) ↔ kxC D (aX 0 x b)) ∧ (D1 2003 (7 * x + b) = 1 → 0 ≤ D1 2005 (7 * x + b) ∧ D1 2005 (7 * x + b) ≤ 2000000000000000) := fun h b u w => by
    have := kx_iff (b := b) hR ⟨h.1, h.2.1⟩ ⟨u, w⟩ h.2.2.1
    unfold kxM at *
    rw [hM 2003 _ (by omega) (by omega), hM 2005 _ (by omega) (by omega), e77]
    exact this
  have ct : kcC D x 2 → ∀ b, 0 ≤ b → b < 7 → D1 2002 (7 * x + b) = D (aC 0 x + 4) b ∧ 0 ≤ D (aC 0 x + 4) b ∧ D (aC 0 x + 4) b ≤ 1000000000600 := fun h b u w => by
    have := ((h0.2.2.1 x h.1 h.2.1).2.2 h.2.2.1).2.2.2.2.2.1 b u w
    rw [show 7 * (24 * (0 : Int) + x) + b = 7 * x + b from by omega] at this
    rw [hM 2002 _ (by omega) (by omega)]
    omega
  have fa : kcC D x 2 → D1 1995 x = D (aC 0 x) 4 ∧ D1 1988 (D (aC 0 x) 4) = D (aF 0 (D (aC 0 x) 4)) 6 ∧ (0 ≤ D (aF 0 (D (aC 0 x) 4)) 6 ∧ D (aF 0 (D (aC 0 x) 4)) 6 ≤ 6) ∧ (∀ k, 0 ≤ k → k < D (aF 0 (D (aC 0 x) 4)) 6 → D1 1987 (6 * D (aC 0 x) 4 + k) = D (aF 0 (D (aC 0 x) 4) + 7) k) ∧ ∀ k, 0 ≤ k → k + 1 < D (aF 0 (D (aC 0 x) 4)) 6 → D (aF 0 (D (aC 0 x) 4) + 7) k < D (aF 0 (D (aC 0 x) 4) + 7) (k + 1) := fun h => by
    have hp := ((h0.2.2.1 x h.1 h.2.1).2.2 h.2.2.1).1
    have hB : faB D 0 (D (aC 0 x) 4) := (h0.2.1 _ hp.1 hp.2.1).2.2.2.2.1
    unfold faB at hB
    rw [show 24 * (0 : Int) + x = x from by omega] at hp
    rw [show 8 * (0 : Int) + D (aC 0 x) 4 = D (aC 0 x) 4 from by omega] at hB
    refine ⟨by rw [fm _ _ (by omega)]; omega, by rw [fm _ _ (by omega)]; exact hB.1.symm, ⟨hB.2.1, hB.2.2.1⟩, fun k u w => ?_, hB.2.2.2.2.2⟩
    rw [fm _ _ (by omega)]
    exact (hB.2.2.2.2.1 k u w).1.symm
  have mb : kcC D x 2 → ∀ b, moB D1 x v b → obB D x v b := fun h b g => by
    obtain ⟨f1, f2, f3, f4, f5⟩ := fa h
    unfold moB at g
    rw [f1, f2] at g
    obtain ⟨g1, g2, g3, g4⟩ := g
    refine ⟨g1, g2, fun j u w => ?_, fun j u w => ?_⟩
    · have := g3 j u w
      rw [← f4 j u (by omega)]; exact this
    · have := g4 j u w
      rw [← f4 j (by omega) w]; exact this
  have mv : moV D1 x v ↔ obV D x v := by
    unfold moV obV numP
    rw [mi, mN]
    exact ⟨fun h => ⟨h.1, by omega, h.2.1⟩, fun h => ⟨h.1, h.2.2, h.2.1.2⟩⟩
  refine m_observe (mkB_fr fm (mkB_of h0)) (fun h => ?_) (by rw [e77]; omega) (by rw [e77, e78]; exact fun j u w => (tb j u w).2.2) (by rw [e77]; exact ⟨t1, t2⟩) (fun D2 a b d => hN D2 a b (fun w => d (mi.mpr w))) (fun D2 a b d e => hV D2 a b (mi.mp d) ?_) (fun D2 a b d e f => hS D2 a b (mv.mp d) ?_ ?_) (fun D2 b a a0 d e f g h => ?_) (fun D2 b S D3 a a0 d e f g h j p1 p2 p3 p4 p5 p6 p7 p8 => ?_)
  · have hk := mi.mp h
    obtain ⟨f1, f2, f3, f4, f5⟩ := fa hk
    have n0 := nm hk
    refine ⟨by omega, fun b u w => (kx hk b u w).2, fun b u w => ?_, by rw [f1, f2]; exact f3, fun k u w => ?_⟩
    · have := ct hk b u w
      omega
    · rw [f1, f2] at w
      rw [f1, f4 k u (by omega), f4 (k + 1) (by omega) w]
      exact f5 k u w
  · rw [mv, e78, e77] at e; exact e
  · rw [e78, e77] at e; exact e
  · rw [(nm (mi.mp d.1)).1] at f; exact f
  · have dc := mi.mp d.1
    have hb := mb dc b g
    have f3 := (fa dc).2.2.1
    have b7 : 0 ≤ b ∧ b < 7 := ⟨hb.1, by have := hb.2.1; omega⟩
    rw [e78, e77] at e
    rw [(nm dc).1] at f ⊢
    rw [(ct dc b b7.1 b7.2).1]
    refine hT0 D2 b a a0 (mv.mp d) e f hb ?_
    rw [(kx dc b b7.1 b7.2).1] at h
    exact h
  · have dc := mi.mp d.1
    have hb := mb dc b h
    have f3 := (fa dc).2.2.1
    have b7 : 0 ≤ b ∧ b < 7 := ⟨hb.1, by have := hb.2.1; omega⟩
    rw [e78, e77] at f
    rw [(nm dc).1] at g p8
    rw [(ct dc b b7.1 b7.2).1] at p8
    rw [e77, ← r3.1] at p3
    exact hT1 D2 b S D3 a a0 (mv.mp d) e f g hb ((kx dc b b7.1 b7.2).1.mp j) p1 p2 p3 p4 p5 p6 p7 p8
theorem l_observe (hR : RL RSc D c) (hc : c < 600) (hi : 0 ≤ i ∧ i + 5 ≤ (sc.1 : Int) ∧ (sc.1 : Int) ≤ 2560) (hgo : ∀ D', RL RSc D' (c + 1) → WP sc 317 1610 D' (LV i) [] K E) : WP sc 317 891 D (LV i) [] K E := by
  refine wp_ok (fun hok => ?_)
  have h0 := hR.2.2.2.2.2.2.2.1
  have r3 := hR.2.2.1
  have hn0 := h0.1
  have main : ∀ x v x4 : Int, WP sc 308 0 D [(0, (1200, 0)), (1, (0, x)), (2, (1, v)), (4, (0, x4))] [] (fun D1 r2 => WP sc 228 0 D1 [(0, (1211, 1977)), (1, (0, x)), (2, (1, v)), (4, (0, x4))] [] (fun D4 _ => WP sc 166 0 D4 [(0, (1211, 1977))] [] (fun D7 r8 => if r8 = r2 then WP sc 317 1610 D7 (LV i) [] K E else K D7 0) (fun D7 e9 => E D7 e9)) (fun D4 e6 => E D4 e6)) (fun D1 e3 => E D1 e3) := fun x v x4 => by
    have msb : ∀ D1, CX x4 D D1 → msm D (bump D1) := fun D1 h a j u w => by rw [bump_ne (by omega), h.2.2 _ _ (by omega) (by omega)]
    have msw : ∀ D1 n b q, kcC D x 2 → CX x4 D D1 → msm D (ob2 D1 x n b q) := fun D1 n b q hk h a j u w => by
      have h1 := hk.1
      have h2 := hk.2.1
      rw [ob2_ne (by unfold aC; omega) (by unfold aC; omega), h.2.2 _ _ (by omega) (by omega)]
    have b7 : kcC D x 2 → ∀ b, obB D x v b → 0 ≤ b ∧ b < 7 := fun hk b hb => by
      have hp := ((h0.2.2.1 x hk.1 hk.2.1).2.2 hk.2.2.1).1
      have hB : faB D 0 (D (aC 0 x) 4) := (h0.2.1 _ hp.1 hp.2.1).2.2.2.2.1
      have := hB.2.2.1
      exact ⟨hb.1, by have := hb.2.1; omega⟩
    refine v308_0 (c_observe hok hR (fun D1 c1 c2 => ?_) (fun D1 c1 c2 c3 => ?_) (fun D1 c1 c2 c3 c4 => ?_) (fun D1 b c1 c2 c3 c4 c5 c6 => ?_) (fun D1 b S D2 c1 c2 c3 c4 c5 c6 c7 c8 k1 k2 k3 k4 k5 => ?_))
    · rw [if_pos rfl]
      exact m_obsD hok hR (msb D1 c1) (fun D2 g1 g2 g3 => tail_v g2 (hgo _ (RL_cm hR hc c1 g1))) (fun D2 g1 g2 g3 => absurd g3 c2) (fun D2 g1 g2 g3 => absurd g3.1 c2) (fun D2 b g1 g2 g3 => absurd g3.1 c2) (fun D2 b S D3 g1 g2 g3 => absurd g3.1 c2)
    · rw [if_neg (by omega), if_pos rfl]
      have no : obV D x v → (x4 ≠ 0 → ∃ S, exG (D 1978) (D 1977 2) S) → False := fun a b => by
        rcases c3 with w | w
        · exact w a
        · exact w.2 (b w.1)
      exact m_obsD hok hR (msb D1 c1) (fun D2 g1 g2 g3 => absurd c2 g3) (fun D2 g1 g2 g3 g4 => tail_v g2 (hgo _ (RL_cm hR hc c1 g1))) (fun D2 g1 g2 g3 g4 => (no g3 g4).elim) (fun D2 b g1 g2 g3 g4 => (no g3 g4).elim) (fun D2 b S D3 g1 g2 g3 g4 g5 => (no g3 (fun _ => ⟨S, g5⟩)).elim)
    · rw [if_neg (by omega), if_neg (by omega), if_pos rfl]
      exact m_obsD hok hR (msb D1 c1) (fun D2 g1 g2 g3 => absurd c2.1 g3) (fun D2 g1 g2 g3 g4 => by
        rcases g4 with w | w
        · exact absurd c2 w
        · exact absurd (c3 w.1) w.2) (fun D2 g1 g2 g3 g4 g5 => tail_v g2 (hgo _ (RL_cm hR hc c1 g1))) (fun D2 b g1 g2 g3 g4 g5 => absurd g5 c4) (fun D2 b S D3 g1 g2 g3 g4 g5 g6 => absurd g6 c4)
    · have hk := c2.1
      have hb7 := b7 hk b c5
      have hb6 : b ≤ D (aF 0 (D (aC 0 x) 4)) 6 := c5.2.1
      refine m_obsD hok hR (msw D1 _ _ _ hk c1) (fun D2 g1 g2 g3 => absurd hk g3) (fun D2 g1 g2 g3 g4 => by
        rcases g4 with w | w
        · exact absurd c2 w
        · exact absurd (c3 w.1) w.2) (fun D2 g1 g2 g3 g4 g5 => absurd c4 g5) (fun D2 b' g1 g2 g3 g4 g5 g6 g7 => ?_) (fun D2 b' S D3 g1 g2 g3 g4 g5 g6 g7 g8 => ?_)
      · have eb := bkP_uni (fun _ _ _ => rfl) c5 g6
        subst eb
        refine tail_v (by rw [mo2_ne (by omega) (by omega)]; exact g2) (hgo _ (RL_ob (W := ob2 D1 x (D (aC 0 x) 5 + v) b (D (aC 0 x + 4) b + 1)) (D2 := D2) (D3 := D2) hR hc ⟨hk.1, hk.2.1⟩ hk.2.2.1 hk.2.2.2 hb7 hb6 rfl c4 c1 (fun _ _ _ => rfl) g1 (fun a j u w => mo2_ne (by omega) (by omega)) (fun j u => mo2_ne (by omega) (by omega)) (fun _ _ _ => rfl) ?_))
        have hx1 := hk.1
        have hx2 := hk.2.1
        have eC : aC 0 x = 161 + 34 * x := by unfold aC; omega
        have eX : aX 0 x b = 167 + 34 * x + 4 * b := by unfold aX; omega
        have ex := ((h0.2.2.1 x hk.1 hk.2.1).2.2 hk.2.2.1).2.2.2.2.2.2 b hb7.1 hb7.2
        rw [show 7 * (24 * (0 : Int) + x) + b = 7 * x + b from by omega] at ex
        refine exR_fr2 (fun a j y => ?_) ex
        have y' : (1 ≤ a ∧ a ≤ 1973 ∧ a ≠ aC 0 x ∧ a ≠ aC 0 x + 4 ∧ a ≠ 1) ∨ (2003 ≤ a ∧ a ≤ 2007) := by
          rcases y with y | y | y <;> omega
        rw [mo2_ne (by omega) (by omega), g1.2.2 _ _ (by omega) (by omega), ob2_ne (by omega) (by omega), c1.2.2 _ _ (by omega) (by omega)]
      · have eb := bkP_uni (fun _ _ _ => rfl) c5 g7
        subst eb
        rcases c6 with w | w
        · exact absurd w g4
        · exact absurd g8 w
    · have hk := c2.1
      have hb7 := b7 hk b c7
      have hb6 : b ≤ D (aF 0 (D (aC 0 x) 4)) 6 := c7.2.1
      have hx1 := hk.1
      have hx2 := hk.2.1
      have eC : aC 0 x = 161 + 34 * x := by unfold aC; omega
      have eX : aX 0 x b = 167 + 34 * x + 4 * b := by unfold aX; omega
      have ms : msm D D2 := fun a j u w => by rw [k5 a j (by omega)]; exact msw D1 _ _ _ hk c1 a j u w
      refine m_obsD hok hR ms (fun D2 g1 g2 g3 => absurd hk g3) (fun D2 g1 g2 g3 g4 => by
        rcases g4 with w | w
        · exact absurd c2 w
        · exact absurd ⟨S, c4⟩ w.2) (fun D2 g1 g2 g3 g4 g5 => absurd c6 g5) (fun D2 b' g1 g2 g3 g4 g5 g6 g7 => ?_) (fun D3 b' S' D4 g1 g2 g3 g4 g5 g6 g7 g8 m1 m2 m3 m4 m5 m6 m7 m8 => ?_)
      · have eb := bkP_uni (fun _ _ _ => rfl) c7 g6
        subst eb
        rcases g7 with w | w
        · exact absurd w c3
        · exact absurd c8 w
      · have eb := bkP_uni (fun _ _ _ => rfl) c7 g7
        subst eb
        have eS := tkP_uni c4.1 g5.1
        subst eS
        have hl : S.flatten.length ≤ 44 := by
          have l2 := tkP_len c4.1
          have := c4.2
          omega
        have q1 : ∀ a j, a < 1977 → D4 a j = D2 a j := fun a j u => by rw [m8 _ _ (by omega), mo2_ne (by omega) (by omega), g1.2.2 _ _ (by omega) (by omega)]
        refine tail_v ?_ (hgo _ (RL_ob (W := D2) (D2 := D3) (D3 := D3) hR hc ⟨hk.1, hk.2.1⟩ hk.2.2.1 hk.2.2.2 hb7 hb6 rfl c6 c1 k5 g1 m6 m7 m8 ?_))
        · rw [m8 _ _ (by omega), mo2_ne (by omega) (by omega)]
          exact g2
        · refine exR_new (v := v) (t := D 0 8) (S := S) ?_ ?_ ?_ ?_ c5 hl m1 m2 m3 m4 m5 c2.2.1 (by have := hR.2.2.2.2.2.2.1; omega)
          · rw [q1 _ _ (by omega)]; exact k1
          · rw [q1 _ _ (by omega)]; exact k2
          · rw [q1 _ _ (by omega)]; exact k3
          · obtain ⟨g1, g2, g3, g4⟩ := k4
            exact ⟨by rw [q1 _ _ (by omega)]; exact g1, by rw [q1 _ _ (by omega)]; exact g2, atL_fr (fun j _ _ => q1 _ _ (by omega)) g3, g4⟩
  refine v317_891 ?_
  rw [w32_id (x := i + 1) (by omega) (by omega), w32_id (x := i + 2) (by omega) (by omega), w32_id (x := i + 3) (by omega) (by omega), w32_id (x := i + 4) (by omega) (by omega)]
  refine ⟨by omega, fun hx => ⟨by omega, fun hy => ⟨by omega, fun hz => ⟨by omega, fun hw => ?_⟩⟩⟩⟩
  by_cases z : tsv sc (i + 4) = 0
  · rw [if_pos z]
    refine WP_mono (fun D' r h => ?_) (fun D' e h => h) (main _ _ 0)
    refine ⟨by omega, fun _ => ⟨by omega, fun _ => ⟨by omega, fun _ => ⟨by omega, fun _ => ?_⟩⟩⟩⟩
    rw [if_pos z]
    exact h
  · rw [if_neg z]
    refine WP_mono (fun D' r h => ?_) (fun D' e h => h) (main _ _ 1)
    refine ⟨by omega, fun _ => ⟨by omega, fun _ => ⟨by omega, fun _ => ⟨by omega, fun _ => ?_⟩⟩⟩⟩
    rw [if_neg z]
    exact h
end LOB
