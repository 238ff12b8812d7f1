/-! a child begun: both sides -/
section MKC
variable {sc : Nat × (Nat → Int32)} {D D' : tD} {K : tD → Int → Prop} {E : tD → Nat → Prop} {c s : Int}
/-- what a child that has just begun is -/
def begP (D D' : tD) (s k f t : Int) (S : List (List Int)) : Prop := (D' (aC s k) 3 = 1 ∧ D' (aC s k) 4 = f ∧ D' (aC s k) 5 = 0 ∧ D' (aC s k) 6 = t ∧ D' (aC s k) 7 = 0) ∧ lsIs D' (aC s k + 1) S ∧ (∀ b, 0 ≤ b → b < 7 → D' (aC s k + 4) b = 0 ∧ D' (aX s k b) 1 = 0 ∧ D' (aX s k b) 2 = 0 ∧ D' (aX s k b) 3 = 0 ∧ D' (aX s k b + 2) 1 = 0) ∧ ∀ a j, a < aC s k ∨ aC s k + 33 < a → D' a j = D a j
theorem c_beg1 {k : Int} (hs : s = 0 ∨ s = 1) (hk : 0 ≤ k ∧ k < 24) {D0 : tD} (hK : ∀ D', (∀ b, 0 ≤ b → b < 7 → D' (aC s k + 4) b = 0 ∧ D' (aX s k b) 1 = 0 ∧ D' (aX s k b) 2 = 0 ∧ D' (aX s k b) 3 = 0 ∧ D' (aX s k b + 2) 1 = 0) → (∀ a j, a < aC s k + 4 ∨ aC s k + 33 < a → D' a j = D0 a j) → K D' 0) : ∀ (m : Nat) (b : Int) (D : tD), 7 - b = (m : Int) → 0 ≤ b → (∀ q, 0 ≤ q → q < b → D (aC s k + 4) q = 0 ∧ D (aX s k q) 1 = 0 ∧ D (aX s k q) 2 = 0 ∧ D (aX s k q) 3 = 0 ∧ D (aX s k q + 2) 1 = 0) → (∀ a j, a < aC s k + 4 ∨ aC s k + 33 < a → D a j = D0 a j) → WP sc 32 36 D [(0, (1201, aC s k)), (5, (0, b))] [] K E := by
  have eC : aC s k = 161 + 975 * s + 34 * k := rfl
  intro m
  induction m with
  | zero =>
    intro b D hm hb h1 h2
    refine v32_36 ?_
    rw [if_pos (by omega)]
    exact hK D (fun q u v => h1 q u (by omega)) h2
  | succ m ih =>
    intro b D hm hb h1 h2
    have eX : aC s k + 5 + 1 + 4 * b = aX s k b := by unfold aX aC; omega
    have eXv : aX s k b = 167 + 975 * s + 34 * k + 4 * b := rfl
    refine v32_36 ?_
    rw [if_neg (by omega), ln_cnt hs hk, ln_exs hs hk, eX, w32_id (x := b + 1) (by omega) (by omega)]
    refine ⟨by omega, by omega, v52_0 (v76_0 ?_)⟩
    refine ih (b + 1) _ (by omega) (by omega) (fun q u v => ?_) (fun a j u => ?_)
    · have eQ : aX s k q = 167 + 975 * s + 34 * k + 4 * q := rfl
      by_cases e : q = b
      · subst e
        refine ⟨?_, ?_, ?_, ?_, ?_⟩
        · rw [wr_ne (by omega), wr_ne (by omega), wr_ne (by omega), wr_ne (by omega), wr_ne (by omega), wr_self]
        · rw [wr_ni (by omega), wr_ni (by omega), wr_ne (by omega), wr_ne (by omega), wr_self]
        · rw [wr_ni (by omega), wr_self]
        · rw [wr_self]
        · rw [wr_ne (by omega), wr_ne (by omega), wr_ne (by omega), show aX s k q + 1 + 1 = aX s k q + 2 from by omega, wr_self]
      · obtain ⟨g1, g2, g3, g4, g5⟩ := h1 q u (by omega)
        refine ⟨?_, ?_, ?_, ?_, ?_⟩
        · rw [wr_ne (by omega), wr_ne (by omega), wr_ne (by omega), wr_ne (by omega), wr_ne (by omega), wr_ni e]; exact g1
        · rw [wr_ne (by omega), wr_ne (by omega), wr_ne (by omega), wr_ne (by omega), wr_ne (by omega), wr_ne (by omega)]; exact g2
        · rw [wr_ne (by omega), wr_ne (by omega), wr_ne (by omega), wr_ne (by omega), wr_ne (by omega), wr_ne (by omega)]; exact g3
        · rw [wr_ne (by omega), wr_ne (by omega), wr_ne (by omega), wr_ne (by omega), wr_ne (by omega), wr_ne (by omega)]; exact g4
        · rw [wr_ne (by omega), wr_ne (by omega), wr_ne (by omega), wr_ne (by omega), wr_ne (by omega), wr_ne (by omega)]; exact g5
    · rw [wr_ne (by omega), wr_ne (by omega), wr_ne (by omega), wr_ne (by omega), wr_ne (by omega), wr_ne (by omega)]
      exact h2 a j u
theorem c_begin {k f t a2 : Int} {S : List (List Int)} (hs : s = 0 ∨ s = 1) (hk : 0 ≤ k ∧ k < 24) (ha2 : a2 = 1974 ∨ a2 = 1959) (hS : lsIs D a2 S) (hl : (S.flatten.length : Int) ≤ 66) (hl2 : (S.flatten.length : Int) ≤ ln (a2 + 2)) (hK : ∀ D', begP D D' s k f t S → K D' 0) : WP sc 32 0 D [(0, (1201, aC s k)), (1, (0, f)), (2, (1205, a2)), (3, (1, t))] [] K E := by
  have eC : aC s k = 161 + 975 * s + 34 * k := rfl
  have hS' : lsIs (wr (wr D (aC s k) 3 1) (aC s k) 4 f) a2 S := by
    obtain ⟨p1, p2, p3, p4⟩ := hS
    exact ⟨by rw [wr_ne (by omega), wr_ne (by omega)]; exact p1, by rw [wr_ne (by omega), wr_ne (by omega)]; exact p2, atL_fr (fun j u w => by rw [wr_ne (by omega), wr_ne (by omega)]) p3, p4⟩
  refine v32_0 (c_lsbec hS' (by rw [show aC s k + 1 + 2 = aC s k + 3 from by omega, ln_lab hs hk]; omega) (by omega) (fun D1 g1 g2 g3 => ?_))
  refine c_beg1 hs hk (fun D2 q1 q2 => hK D2 ⟨⟨?_, ?_, ?_, ?_, ?_⟩, ?_, q1, fun a j u => ?_⟩) 7 0 _ (by omega) (by omega) (fun q u v => by omega) (fun _ _ _ => rfl)
  · rw [q2 _ _ (by omega), wr_ni (by omega), wr_ni (by omega), wr_ni (by omega), g2 _ _ (by omega), wr_ni (by omega), wr_self]
  · rw [q2 _ _ (by omega), wr_ni (by omega), wr_ni (by omega), wr_ni (by omega), g2 _ _ (by omega), wr_self]
  · rw [q2 _ _ (by omega), wr_ni (by omega), wr_self]
  · rw [q2 _ _ (by omega), wr_ni (by omega), wr_ni (by omega), wr_self]
  · rw [q2 _ _ (by omega), wr_self]
  · obtain ⟨p1, p2, p3, p4⟩ := g1
    exact ⟨by rw [q2 _ _ (by omega), wr_ne (by omega), wr_ne (by omega), wr_ne (by omega)]; exact p1, by rw [q2 _ _ (by omega), wr_ne (by omega), wr_ne (by omega), wr_ne (by omega)]; exact p2, atL_fr (fun j u w => by rw [q2 _ _ (by omega), wr_ne (by omega), wr_ne (by omega), wr_ne (by omega)]) p3, p4⟩
  · rw [q2 _ _ (by omega), wr_ne (by omega), wr_ne (by omega), wr_ne (by omega), g2 _ _ (by omega), wr_ne (by omega), wr_ne (by omega)]
def newC (D1 : tD) (s k n : Int) : tD := wr (wr D1 (977 + 975 * s) n k) (5 + 975 * s) 5 (n + 1)
theorem c_beginCh1 {f t a2 n : Int} {S : List (List Int)} (hs : s = 0 ∨ s = 1) (hn : D (5 + 975 * s) 5 = n ∧ 0 ≤ n ∧ n < 24) (ha2 : a2 = 1974 ∨ a2 = 1959) (hS : lsIs D a2 S) (hl : (S.flatten.length : Int) ≤ 66) (hl2 : (S.flatten.length : Int) ≤ ln (a2 + 2)) (hK : ∀ k D1, 0 ≤ k → k < 24 → D (aC s k) 3 = 0 → (∀ j, 0 ≤ j → j < k → D (aC s j) 3 ≠ 0) → begP D D1 s k f t S → K (newC D1 s k n) k) (hno : (∀ j, 0 ≤ j → j < 24 → D (aC s j) 3 ≠ 0) → K D (-1)) : ∀ (m : Nat) (k : Int), 24 - k = (m : Int) → 0 ≤ k → (∀ j, 0 ≤ j → j < k → D (aC s j) 3 ≠ 0) → WP sc 115 3 D [(0, (1208, 5 + 975 * s)), (1, (0, f)), (2, (1205, a2)), (3, (1, t)), (5, (0, k))] [] K E := by
  intro m
  induction m with
  | zero =>
    intro k hm hk h
    refine v115_3 ?_
    rw [if_neg (by omega)]
    exact hno (fun j u v => h j u (by omega))
  | succ m ih =>
    intro k hm hk h
    have eC : 5 + 975 * s + 155 + 1 + 34 * k = aC s k := by unfold aC; omega
    have eCv : aC s k = 161 + 975 * s + 34 * k := rfl
    refine v115_3 ?_
    rw [if_pos (by omega), ln_chs hs, eC, hn.1, w32_id (x := k + 1) (by omega) (by omega)]
    refine ⟨by omega, fun h01 => ?_⟩
    by_cases e3 : D (aC s k) 3 = 0
    · rw [if_pos e3, if_pos (by omega)]
      refine ⟨by omega, c_begin hs ⟨hk, by omega⟩ ha2 hS hl hl2 (fun D1 hb => ?_)⟩
      have e5 : D1 (5 + 975 * s) 5 = n := by rw [hb.2.2.2 _ _ (by omega)]; exact hn.1
      rw [e5, show 5 + 975 * s + 972 = 977 + 975 * s from by omega, ln_ord hs, wr_ne (show (5 + 975 * s : Int) ≠ 977 + 975 * s by omega), e5, w32_id (x := n + 1) (by omega) (by omega)]
      exact ⟨by omega, hK k D1 hk (by omega) e3 h hb⟩
    · rw [if_neg e3]
      refine ih _ (by omega) (by omega) (fun j u v => ?_)
      by_cases e : j = k
      · rw [e]; exact e3
      · exact h j u (by omega)
theorem c_beginCh {f t a2 n : Int} {S : List (List Int)} (hs : s = 0 ∨ s = 1) (hn : D (5 + 975 * s) 5 = n ∧ 0 ≤ n ∧ n < 24) (ha2 : a2 = 1974 ∨ a2 = 1959) (hS : lsIs D a2 S) (hl : (S.flatten.length : Int) ≤ 66) (hl2 : (S.flatten.length : Int) ≤ ln (a2 + 2)) (hK : ∀ k D1, 0 ≤ k → k < 24 → D (aC s k) 3 = 0 → (∀ j, 0 ≤ j → j < k → D (aC s j) 3 ≠ 0) → begP D D1 s k f t S → K (newC D1 s k n) k) (hno : (∀ j, 0 ≤ j → j < 24 → D (aC s j) 3 ≠ 0) → K D (-1)) : WP sc 115 0 D [(0, (1208, 5 + 975 * s)), (1, (0, f)), (2, (1205, a2)), (3, (1, t))] [] K E :=
  v115_0 (c_beginCh1 hs hn ha2 hS hl hl2 hK hno 24 0 (by omega) (by omega) (fun j u v => by omega))
/-! the other side -/
def mkP (D D' : tD) (q f t : Int) (l : List Int) : Prop := (D' 1994 q = 1 ∧ D' 1995 q = f ∧ D' 1992 f = 1 ∧ D' 1996 q = D 1977 22 ∧ D' 1977 22 = D 1977 22 + 1) ∧ (D' 1998 q = (l.length : Int) ∧ atL D' 1997 (66 * q) l) ∧ (D' 1999 q = 0 ∧ D' 2001 q = 0 ∧ D' 2000 q = if D 1980 f = 0 ∨ D 1980 f = 2 then t else -1) ∧ (∀ b, 0 ≤ b → b < 7 → D' 2002 (7 * q + b) = 0 ∧ D' 2003 (7 * q + b) = 0) ∧ (∀ a j, a = 1994 ∨ a = 1995 ∨ a = 1996 ∨ a = 1998 ∨ a = 1999 ∨ a = 2000 ∨ a = 2001 → j ≠ q → D' a j = D a j) ∧ (∀ j, j ≠ f → D' 1992 j = D 1992 j) ∧ (∀ j, j ≠ 22 → D' 1977 j = D 1977 j) ∧ (∀ j, ¬ (66 * q ≤ j ∧ j < 66 * q + 66) → D' 1997 j = D 1997 j) ∧ (∀ a j, a = 2002 ∨ a = 2003 → ¬ (7 * q ≤ j ∧ j < 7 * q + 7) → D' a j = D a j) ∧ ∀ a j, a < 1994 ∨ 2003 < a → a ≠ 1992 → a ≠ 1977 → D' a j = D a j
theorem m_mks3 {q : Int} (hq : 0 ≤ q ∧ q < 48) {D0 : tD} (hK : ∀ D', (∀ b, 0 ≤ b → b < 7 → D' 2002 (7 * q + b) = 0 ∧ D' 2003 (7 * q + b) = 0) → (∀ a j, a = 2002 ∨ a = 2003 → ¬ (7 * q ≤ j ∧ j < 7 * q + 7) → D' a j = D0 a j) → (∀ a j, a ≠ 2002 → a ≠ 2003 → D' a j = D0 a j) → K D' 0) : ∀ (m : Nat) (b : Int) (D : tD), 7 - b = (m : Int) → 0 ≤ b → (∀ e, 0 ≤ e → e < b → D 2002 (7 * q + e) = 0 ∧ D 2003 (7 * q + e) = 0) → (∀ a j, a = 2002 ∨ a = 2003 → ¬ (7 * q ≤ j ∧ j < 7 * q + 7) → D a j = D0 a j) → (∀ a j, a ≠ 2002 → a ≠ 2003 → D a j = D0 a j) → WP sc 219 140 D [(0, (1211, 1977)), (1, (0, q)), (5, (0, 7 * q + b))] [] K E := by
  intro m
  induction m with
  | zero =>
    intro b D hm hb h1 h2 h3
    refine v219_140 ?_
    rw [w32_id (x := 7 * q) (by omega) (by omega), w32_id (x := 7 * q + 7) (by omega) (by omega), if_neg (by omega)]
    exact hK D (fun e u v => h1 e u (by omega)) h2 h3
  | succ m ih =>
    intro b D hm hb h1 h2 h3
    refine v219_140 ?_
    rw [w32_id (x := 7 * q) (by omega) (by omega), w32_id (x := 7 * q + 7) (by omega) (by omega), if_pos (by omega), w32_id (x := 7 * q + b + 1) (by omega) (by omega), show 7 * q + b + 1 = 7 * q + (b + 1) from by omega]
    refine ⟨by omega, by omega, ih (b + 1) _ (by omega) (by omega) (fun e u v => ?_) (fun a j u v => ?_) (fun a j u v => by rw [wr_ne v, wr_ne u, h3 a j u v])⟩
    · by_cases g : e = b
      · rw [g, wr_ne (by omega), wr_self, wr_self]; exact ⟨rfl, rfl⟩
      · rw [wr_ne (by omega), wr_ni (by omega), wr_ni (by omega), wr_ne (by omega)]
        exact h1 e u (by omega)
    · rcases u with u | u
      · rw [u, wr_ne (by omega), wr_ni (by omega)]; exact h2 _ _ (Or.inl rfl) v
      · rw [u, wr_ni (by omega), wr_ne (by omega)]; exact h2 _ _ (Or.inr rfl) v
theorem m_makes {q f t : Int} {l : List Int} (hq : 0 ≤ q ∧ q < 48) (hf : 0 ≤ f ∧ f < 16) (hS : setIs D l) (hl : l.length ≤ 66) (ho : 0 ≤ D 1977 22 ∧ D 1977 22 ≤ 1000000) (hK : ∀ D', mkP D D' q f t l → K D' 0) : WP sc 219 0 D [(0, (1211, 1977)), (1, (0, q)), (2, (0, f)), (3, (1, t))] [] K E := by
  refine v219_0 ⟨hq, hq, hf, hq, hq, ?_⟩
  rw [wr_ne (show (1977 : Int) ≠ 1992 by omega), wr_ne (show (1977 : Int) ≠ 1995 by omega), wr_ne (show (1977 : Int) ≠ 1994 by omega), wr_ne (show (1977 : Int) ≠ 1996 by omega), wr_ne (show (1977 : Int) ≠ 1992 by omega), wr_ne (show (1977 : Int) ≠ 1995 by omega), wr_ne (show (1977 : Int) ≠ 1994 by omega), w64_id (x := D 1977 22 + 1) (by omega) (by omega), wr_ni (show (37 : Int) ≠ 22 by omega), wr_ne (show (1977 : Int) ≠ 1996 by omega), wr_ne (show (1977 : Int) ≠ 1992 by omega), wr_ne (show (1977 : Int) ≠ 1995 by omega), wr_ne (show (1977 : Int) ≠ 1994 by omega), hS.1]
  generalize hW : wr (wr (wr (wr (wr (wr D 1994 q 1) 1995 q f) 1992 f 1) 1996 q (D 1977 22)) 1977 22 (D 1977 22 + 1)) 1998 q (l.length : Int) = W
  have W94 : W 1994 q = 1 := by rw [← hW, wr_ne (by omega), wr_ne (by omega), wr_ne (by omega), wr_ne (by omega), wr_ne (by omega), wr_self]
  have W95 : W 1995 q = f := by rw [← hW, wr_ne (by omega), wr_ne (by omega), wr_ne (by omega), wr_ne (by omega), wr_self]
  have W92 : W 1992 f = 1 := by rw [← hW, wr_ne (by omega), wr_ne (by omega), wr_ne (by omega), wr_self]
  have W96 : W 1996 q = D 1977 22 := by rw [← hW, wr_ne (by omega), wr_ne (by omega), wr_self]
  have W22 : W 1977 22 = D 1977 22 + 1 := by rw [← hW, wr_ne (by omega), wr_self]
  have W98 : W 1998 q = (l.length : Int) := by rw [← hW, wr_self]
  have Wq : ∀ a j, j ≠ q → a ≠ 1992 → a ≠ 1977 → W a j = D a j := fun a j u v w => by
    rw [← hW]
    simp only [wr]
    rw [if_neg (fun e => u e.2), if_neg (fun e => w e.1), if_neg (fun e => u e.2), if_neg (fun e => v e.1), if_neg (fun e => u e.2), if_neg (fun e => u e.2)]
  have Wf : ∀ j, j ≠ f → W 1992 j = D 1992 j := fun j u => by rw [← hW, wr_ne (by omega), wr_ne (by omega), wr_ne (by omega), wr_ni u, wr_ne (by omega), wr_ne (by omega)]
  have W77 : ∀ j, j ≠ 22 → W 1977 j = D 1977 j := fun j u => by rw [← hW, wr_ne (by omega), wr_ni u, wr_ne (by omega), wr_ne (by omega), wr_ne (by omega), wr_ne (by omega)]
  have Wo : ∀ a j, a ≠ 1994 → a ≠ 1995 → a ≠ 1992 → a ≠ 1996 → a ≠ 1977 → a ≠ 1998 → W a j = D a j := fun a j u1 u2 u3 u4 u5 u6 => by rw [← hW, wr_ne u6, wr_ne u5, wr_ne u4, wr_ne u3, wr_ne u2, wr_ne u1]
  /- the labels -/
  have loop : ∀ (tl p : List Int) (V : tD), l = p ++ tl → (∀ a j, a ≠ 1997 → V a j = W a j) → (∀ j, ¬ (66 * q ≤ j ∧ j < 66 * q + 66) → V 1997 j = W 1997 j) → atL V 1997 (66 * q) p → WP sc 219 54 V [(0, (1211, 1977)), (1, (0, q)), (2, (0, f)), (3, (1, t)), (5, (0, (p.length : Int)))] [] K E := by
    intro tl
    induction tl with
    | nil =>
      intro p V h v1 v2 v3
      rw [List.append_nil] at h
      subst h
      have V37 : V 1977 37 = (l.length : Int) := by rw [v1 _ _ (by omega), W77 _ (by omega)]; exact hS.1
      have e80 : (wr (wr V 1999 q 0) 2001 q 0) 1980 f = D 1980 f := by rw [wr_ne (by omega), wr_ne (by omega), v1 _ _ (by omega), Wo _ _ (by omega) (by omega) (by omega) (by omega) (by omega) (by omega)]
      have fin : ∀ w, (w = if D 1980 f = 0 ∨ D 1980 f = 2 then t else -1) → WP sc 219 140 (wr (wr (wr V 1999 q 0) 2001 q 0) 2000 q w) [(0, (1211, 1977)), (1, (0, q)), (5, (0, w32 (7 * q)))] [] K E := fun w hw => by
        have := m_mks3 (sc := sc) (E := E) (K := K) hq (D0 := wr (wr (wr V 1999 q 0) 2001 q 0) 2000 q w) (fun D' g1 g2 g3 => hK D' ⟨⟨?_, ?_, ?_, ?_, ?_⟩, ⟨?_, ?_⟩, ⟨?_, ?_, ?_⟩, g1, fun a j u v => ?_, fun j u => ?_, fun j u => ?_, fun j u => ?_, fun a j u v => ?_, fun a j u v w => ?_⟩) 7 0 _ (by omega) (by omega) (fun e u v => by omega) (fun _ _ _ _ => rfl) (fun _ _ _ _ => rfl)
        · rw [w32_id (by omega) (by omega)]
          rw [show 7 * q + 0 = 7 * q from by omega] at this
          exact this
        · rw [g3 _ _ (by omega) (by omega), wr_ne (by omega), wr_ne (by omega), wr_ne (by omega), v1 _ _ (by omega)]; exact W94
        · rw [g3 _ _ (by omega) (by omega), wr_ne (by omega), wr_ne (by omega), wr_ne (by omega), v1 _ _ (by omega)]; exact W95
        · rw [g3 _ _ (by omega) (by omega), wr_ne (by omega), wr_ne (by omega), wr_ne (by omega), v1 _ _ (by omega)]; exact W92
        · rw [g3 _ _ (by omega) (by omega), wr_ne (by omega), wr_ne (by omega), wr_ne (by omega), v1 _ _ (by omega)]; exact W96
        · rw [g3 _ _ (by omega) (by omega), wr_ne (by omega), wr_ne (by omega), wr_ne (by omega), v1 _ _ (by omega)]; exact W22
        · rw [g3 _ _ (by omega) (by omega), wr_ne (by omega), wr_ne (by omega), wr_ne (by omega), v1 _ _ (by omega)]; exact W98
        · exact atL_fr (fun j u v => by rw [g3 _ _ (by omega) (by omega), wr_ne (by omega), wr_ne (by omega), wr_ne (by omega)]) v3
        · rw [g3 _ _ (by omega) (by omega), wr_ne (by omega), wr_ne (by omega), wr_self]
        · rw [g3 _ _ (by omega) (by omega), wr_ne (by omega), wr_self]
        · rw [g3 _ _ (by omega) (by omega), wr_self]; exact hw
        · rw [g3 _ _ (by omega) (by omega)]
          simp only [wr]
          rw [if_neg (fun e => v e.2), if_neg (fun e => v e.2), if_neg (fun e => v e.2), v1 _ _ (by omega)]
          exact Wq _ _ v (by omega) (by omega)
        · rw [g3 _ _ (by omega) (by omega), wr_ne (by omega), wr_ne (by omega), wr_ne (by omega), v1 _ _ (by omega)]; exact Wf j u
        · rw [g3 _ _ (by omega) (by omega), wr_ne (by omega), wr_ne (by omega), wr_ne (by omega), v1 _ _ (by omega)]; exact W77 j u
        · rw [g3 _ _ (by omega) (by omega), wr_ne (by omega), wr_ne (by omega), wr_ne (by omega), v2 j u, Wo _ _ (by omega) (by omega) (by omega) (by omega) (by omega) (by omega)]
        · rw [g2 _ _ u v, wr_ne (by omega), wr_ne (by omega), wr_ne (by omega), v1 _ _ (by omega), Wo _ _ (by omega) (by omega) (by omega) (by omega) (by omega) (by omega)]
        · rw [g3 _ _ (by omega) (by omega), wr_ne (by omega), wr_ne (by omega), wr_ne (by omega), v1 _ _ (by omega), Wo _ _ (by omega) (by omega) (by omega) (by omega) (by omega) (by omega)]
      refine v219_54 ?_
      rw [V37, if_neg (by omega), e80]
      refine ⟨hq, hq, hf, ?_⟩
      by_cases k0 : D 1980 f = 0
      · rw [if_pos k0]
        exact ⟨hq, fin _ (by rw [if_pos (Or.inl k0)])⟩
      · rw [if_neg k0]
        refine ⟨hf, ?_⟩
        by_cases k2 : D 1980 f = 2
        · rw [if_pos k2]
          exact ⟨hq, fin _ (by rw [if_pos (Or.inr k2)])⟩
        · rw [if_neg k2]
          exact ⟨hq, fin _ (by rw [if_neg (by omega)])⟩
    | cons b tl ih =>
      intro p V h v1 v2 v3
      have ll : l.length = p.length + (tl.length + 1) := by rw [h, List.length_append, List.length_cons]
      have V37 : V 1977 37 = (l.length : Int) := by rw [v1 _ _ (by omega), W77 _ (by omega)]; exact hS.1
      have hb : V 2009 (p.length : Int) = b := by
        have := hS.2
        rw [h, atL_app] at this
        have := this.2.1
        rw [show (0 : Int) + (p.length : Int) = (p.length : Int) from by omega] at this
        rw [v1 _ _ (by omega), Wo _ _ (by omega) (by omega) (by omega) (by omega) (by omega) (by omega)]
        exact this
      refine v219_54 ?_
      rw [V37, if_pos (by omega), w32_id (x := 66 * q) (by omega) (by omega), w32_id (x := 66 * q + (p.length : Int)) (by omega) (by omega), hb, w32_id (x := (p.length : Int) + 1) (by omega) (by omega)]
      refine ⟨by omega, by omega, ?_⟩
      have := ih (p ++ [b]) (wr V 1997 (66 * q + (p.length : Int)) b) (by rw [h]; simp) (fun a j u => by rw [wr_ne u, v1 a j u]) (fun j u => by rw [wr_ni (by omega), v2 j u]) (by rw [atL_app]; exact ⟨atL_fr (fun j u v => wr_ni (by omega)) v3, wr_self, trivial⟩)
      rw [List.length_append, List.length_singleton, show ((p.length + 1 : Nat) : Int) = (p.length : Int) + 1 from by omega] at this
      exact this
  exact loop l [] W (by simp) (fun _ _ _ => rfl) (fun _ _ => rfl) trivial
end MKC
