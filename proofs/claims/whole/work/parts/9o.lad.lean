/-! the law's loop: add -/
section LAD
variable {sc : Nat × (Nat → Int32)} {D D' : tD} {K : tD → Int → Prop} {E : tD → Nat → Prop} {c i : Int}
/-- the other side stands as it stood -/
def msm (D D1 : tD) : Prop := ∀ a j, 1977 ≤ a → a ≤ 2016 → D1 a j = D a j
theorem kd_eq {x : Int} (h0 : shR c D 0) (hx : 0 ≤ x ∧ x < 24) (h3 : D (aC 0 x) 3 = 1) : D 1980 (D 1995 x) = D (aF 0 (D (aC 0 x) 4)) 5 := by
  have hp := ((h0.2.2.1 x hx.1 hx.2).2.2 h3).1
  have hfa := (h0.2.1 _ hp.1 hp.2.1).1.1
  rw [show 24 * (0 : Int) + x = x from by omega] at hp
  rw [show 8 * (0 : Int) + D (aC 0 x) 4 = D (aC 0 x) 4 from by omega] at hfa
  rw [hp.2.2, show D (aC 0 x) 4 + 8 * 0 = D (aC 0 x) 4 from by omega, hfa]
theorem kx_iff {x b : Int} (hR : RL RSc D c) (hx : 0 ≤ x ∧ x < 24) (hb : 0 ≤ b ∧ b < 7) (h3 : D (aC 0 x) 3 = 1) : (kxM D (7 * x + b) ↔ kxC D (aX 0 x b)) ∧ (D 2003 (7 * x + b) = 1 → 0 ≤ D 2005 (7 * x + b) ∧ D 2005 (7 * x + b) ≤ 2000000000000000) := by
  have r3 := hR.2.2.1
  have r8 := hR.2.2.2.2.2.2.2
  have ex := ((r8.1.2.2.1 x hx.1 hx.2).2.2 h3).2.2.2.2.2.2 b hb.1 hb.2
  rw [show 7 * (24 * (0 : Int) + x) + b = 7 * x + b from by omega] at ex
  obtain ⟨e1, e2, e3⟩ := ex
  unfold kxM kxC
  rw [← e1, r3.1]
  by_cases z1 : D (aX 0 x b) 1 = 1
  · obtain ⟨g1, g2, g3, g4⟩ := e2 z1
    rw [g2.1]
    exact ⟨Iff.rfl, fun _ => by omega⟩
  · exact ⟨⟨fun h => by rcases h with h | h; exact Or.inl h; exact absurd h.1 z1, fun h => by rcases h with h | h; exact Or.inl h; exact absurd h.1 z1⟩, fun h => absurd h z1⟩
theorem m_addD {D1 : tD} {x v x4 : Int} (hok : okD D) (hR : RL RSc D c) (hM : msm D D1)
    (hN : ∀ D2, MX x4 D1 D2 → D2 1977 0 = 1 → ¬ adC D x → K D2 0)
    (hV : ∀ D2, MX x4 D1 D2 → D2 1977 0 = 2 → adC D x → (¬ adV D x v ∨ (x4 ≠ 0 ∧ ¬ ∃ S, exG (D 1978) (D 1977 2) S)) → K D2 0)
    (hS : ∀ D2, MX x4 D1 D2 → D2 1977 0 = 3 → adV D x v → (x4 ≠ 0 → ∃ S, exG (D 1978) (D 1977 2) S) → ¬ numP (D (aC 0 x) 5 + v) → K D2 0)
    (hT0 : ∀ D2, MX x4 D1 D2 → D2 1977 0 = 0 → adV D x v → (x4 ≠ 0 → ∃ S, exG (D 1978) (D 1977 2) S) → numP (D (aC 0 x) 5 + v) → (x4 = 0 ∨ ¬ kcC D x 0 ∨ ¬ kxC D (aX 0 x 0)) → K (wr D2 1999 x (D (aC 0 x) 5 + v)) 0)
    (hT1 : ∀ D2 S D3, MX x4 D1 D2 → D2 1977 0 = 0 → adV D x v → x4 ≠ 0 → exG (D 1978) (D 1977 2) S → numP (D (aC 0 x) 5 + v) → kcC D x 0 → kxC D (aX 0 x 0) → D3 2003 (7 * x) = 1 → D3 2004 (7 * x) = v → D3 2005 (7 * x) = D 0 8 → D3 2007 (7 * x) = (S.flatten.length : Int) → atL D3 2006 (44 * (7 * x)) S.flatten → (∀ a j, a = 2003 ∨ a = 2004 ∨ a = 2005 ∨ a = 2007 → j ≠ 7 * x → D3 a j = D2 a j) → (∀ j, ¬ (44 * (7 * x) ≤ j ∧ j < 44 * (7 * x) + 44) → D3 2006 j = D2 2006 j) → (∀ a j, a < 2003 ∨ 2007 < a → D3 a j = (wr D2 1999 x (D (aC 0 x) 5 + v)) a j) → K D3 0) : WP sc 225 0 D1 [(0, (1211, 1977)), (1, (0, x)), (2, (1, v)), (4, (0, x4))] [] K E := by
  have r3 := hR.2.2.1
  have r7 := hR.2.2.2.2.2.2.1
  have r8 := hR.2.2.2.2.2.2.2
  have h0 := r8.1
  obtain ⟨⟨t1, t2, t3⟩, tb⟩ := tape_b hok hR
  have fm : ∀ a j, (1980 ≤ a ∧ a ≤ 1995) → D1 a j = D a j := fun a j u => hM a j (by omega) (by omega)
  have e78 : D1 1978 = D 1978 := funext (fun j => hM _ _ (by omega) (by omega))
  have e77 : ∀ j, D1 1977 j = D 1977 j := fun j => hM _ _ (by omega) (by omega)
  have mi : mkC D1 x 0 1 ↔ adC D x := (mkC_fr fm).trans (mkC_iff h0)
  have hc3 : adC D x → (0 ≤ x ∧ x < 24) ∧ D (aC 0 x) 3 = 1 := fun h => by rcases h with h | h <;> exact ⟨⟨h.1, h.2.1⟩, h.2.2.1⟩
  have hkd : adC D x → D1 1980 (D1 1995 x) = D (aF 0 (D (aC 0 x) 4)) 5 := fun h => by rw [fm 1995 _ (by omega), fm 1980 _ (by omega)]; exact kd_eq h0 (hc3 h).1 (hc3 h).2
  have k0 : adC D x → (D1 1980 (D1 1995 x) = 0 ↔ kcC D x 0) := fun h => by
    rw [hkd h]
    exact ⟨fun w => ⟨(hc3 h).1.1, (hc3 h).1.2, (hc3 h).2, w⟩, fun w => w.2.2.2⟩
  have nm : adC D x → D1 1999 x = D (aC 0 x) 5 ∧ -mostN ≤ D (aC 0 x) 5 ∧ D (aC 0 x) 5 ≤ mostN := fun h => by
    have := ((h0.2.2.1 x (hc3 h).1.1 (hc3 h).1.2).2.2 (hc3 h).2).2.2.1
    rw [show 24 * (0 : Int) + x = x from by omega] at this
    rw [hM 1999 x (by omega) (by omega)]
    omega
  have kx : adC D x → (kxM D1 (7 * x) ↔ kxC D (aX 0 x 0)) ∧ (D1 2003 (7 * x) = 1 → 0 ≤ D1 2005 (7 * x) ∧ D1 2005 (7 * x) ≤ 2000000000000000) := fun h => by
    have := kx_iff (b := 0) hR (hc3 h).1 (by omega) (hc3 h).2
    rw [show 7 * x + 0 = 7 * x from by omega] at this
    unfold kxM at *
    rw [hM 2003 _ (by omega) (by omega), hM 2005 _ (by omega) (by omega), e77]
    exact this
  have mv : mdV D1 x v ↔ adV D x v := by
    unfold mdV adV
    constructor
    · rintro ⟨a, b, d⟩
      rcases mi.mp a with w | w
      · exact Or.inl ⟨w, b, d ((k0 (Or.inl w)).mpr w)⟩
      · exact Or.inr ⟨w, b⟩
    · rintro (⟨a, b, d⟩ | ⟨a, b⟩)
      · exact ⟨mi.mpr (Or.inl a), b, fun _ => d⟩
      · refine ⟨mi.mpr (Or.inr a), b, fun w => ?_⟩
        have w0 := (k0 (Or.inr a)).mp w
        have := w0.2.2.2
        have := a.2.2.2
        omega
  have vc : adV D x v → adC D x := fun h => by rcases h with h | h; exact Or.inl h.1; exact Or.inr h.1
  refine m_add (mkB_fr fm (mkB_of h0)) (fun h => by have := nm (mi.mp h); omega) (fun h => (kx (mi.mp h)).2) (by rw [e77]; omega) (by rw [e77, e78]; exact fun j u w => (tb j u w).2.2) (by rw [e77]; exact ⟨t1, t2⟩) (fun D2 a b d => hN D2 a b (fun w => d (mi.mpr w))) (fun D2 a b d e => hV D2 a b (mi.mp d) ?_) (fun D2 a b d e f => hS D2 a b (mv.mp d) ?_ ?_) (fun D2 a b d e f g => ?_) (fun D2 S D3 a b d e f g h j p1 p2 p3 p4 p5 p6 p7 p8 => ?_)
  · rw [mv, e78, e77] at e; exact e
  · rw [e78, e77] at e; exact e
  · rw [(nm (mi.mp d.1)).1] at f; exact f
  · have dc := mi.mp d.1
    rw [e78, e77] at e
    rw [(nm dc).1] at f ⊢
    refine hT0 D2 a b (mv.mp d) e f ?_
    rw [ne_eq, k0 dc, (kx dc).1] at g
    exact g
  · have dc := mi.mp d.1
    rw [e78, e77] at f
    rw [(nm dc).1] at g p8
    rw [e77, ← r3.1] at p3
    exact hT1 D2 S D3 a b (mv.mp d) e f g ((k0 dc).mp h) ((kx dc).1.mp j) p1 p2 p3 p4 p5 p6 p7 p8
/-- an exemplar that both have just kept -/
theorem exR_new {D4 : tD} {e q v t : Int} {S : List (List Int)} (h1 : D4 e 1 = 1) (h2 : D4 e 2 = v) (h3 : D4 e 3 = t) (hS : lsIs D4 (e + 1) S) (hs : srtL S) (hl : S.flatten.length ≤ 44) (m1 : D4 2003 q = 1) (m2 : D4 2004 q = v) (m3 : D4 2005 q = t) (m4 : D4 2007 q = (S.flatten.length : Int)) (m5 : atL D4 2006 (44 * q) S.flatten) (hv : numP v) (ht : 0 ≤ t ∧ t ≤ 2000000000000000) : exR D4 e q := by
  obtain ⟨s1, s2, s3, s4⟩ := hS
  rw [show e + 1 + 1 = e + 2 from by omega] at s2
  rw [show e + 1 + 2 = e + 3 from by omega] at s3
  refine ⟨by rw [h1, m1], fun _ => ⟨⟨by rw [h2, m2], by rw [h2]; exact hv.1, by rw [h2]; exact hv.2⟩, ⟨by rw [h3, m3], by rw [h3]; exact ht.1, by rw [h3]; exact ht.2⟩, ⟨by rw [s2, m4], by rw [m4]; omega, by rw [m4]; omega, fun j u w => ?_⟩, ?_⟩, fun w => by omega⟩
  · rw [m4] at w
    rw [show e + 2 + 1 = e + 3 from by omega, ← atL_eq s3 m5 j u w]
    have rng : ∀ b ∈ S.flatten, 1 ≤ b ∧ b ≤ 126 := fun b hb => by
      obtain ⟨y, y1, y2⟩ := List.mem_flatten.mp hb
      exact lbl_rng (s4 y y1) b y2
    have := rng _ (atL_mem s3 j u w)
    rw [show (0 : Int) + j = j from by omega] at this ⊢
    omega
  · have := lsIs_lsW (a := e + 1) ⟨s1, by rw [show e + 1 + 1 = e + 2 from by omega]; exact s2, by rw [show e + 1 + 2 = e + 3 from by omega]; exact s3, s4⟩ hs
    rw [show e + 1 + 1 = e + 2 from by omega] at this
    exact this
end LAD
