/-! family: the other side -/
section FMD
variable {sc : Nat × (Nat → Int32)} {D D' : tD} {K : tD → Int → Prop} {E : tD → Nat → Prop} {c s : Int}
theorem m_fname1 {a b : Int} (ha : 0 ≤ a) (hb : b ≤ 4000) (hT : fnamT (D 1978) a b → K D 1) (hF : ¬ fnamT (D 1978) a b → K D 0) : ∀ (m : Nat) (k g : Int), b - k ≤ (m : Int) → a ≤ k → k ≤ 5000 → ((g = 0 ∧ ¬ fnamT (D 1978) a b) ∨ (g = 1 ∧ (a < b ∧ b - a ≤ 24 ∧ ¬ srt 2 (D 1978 a) = true) ∧ ∀ j, a ≤ j → j < k → srt 5 (D 1978 j) = true)) → WP sc 186 36 D [(0, (1211, 1977)), (2, (0, b)), (3, (0, g)), (4, (0, k))] [] K E := by
  intro m
  induction m with
  | zero =>
    intro k g hm hk hk2 hg
    refine v186_36 ?_
    rw [if_neg (by omega)]
    rcases hg with ⟨e, h⟩ | ⟨e, h1, h2⟩
    · rw [e]; exact tbl_of (Or.inl rfl) (hF h)
    · rw [e]; exact tbl_of (Or.inr rfl) (hT ⟨h1.1, h1.2.1, h1.2.2, fun j u v => h2 j u (by omega)⟩)
  | succ m ih =>
    intro k g hm hk hk2 hg
    refine v186_36 ?_
    by_cases e : k < b
    · rw [if_pos e, w32_id (x := k + 1) (by omega) (by omega)]
      rcases hg with ⟨e0, h⟩ | ⟨e1, h1, h2⟩
      · rw [if_pos e0]
        exact ih _ _ (by omega) (by omega) (by omega) (Or.inl ⟨rfl, h⟩)
      · rw [if_neg (by omega)]
        refine ⟨by omega, m_nb (fun hx => ?_) (fun hx => ?_)⟩
        · rw [if_neg (by omega)]
          refine ih _ _ (by omega) (by omega) (by omega) (Or.inr ⟨rfl, h1, fun j u v => ?_⟩)
          by_cases e2 : j = k
          · rw [e2]; exact hx
          · exact h2 j u (by omega)
        · rw [if_pos rfl]
          exact ih _ _ (by omega) (by omega) (by omega) (Or.inl ⟨rfl, fun w => hx (w.2.2.2 k hk e)⟩)
    · rw [if_neg e]
      rcases hg with ⟨e, h⟩ | ⟨e, h1, h2⟩
      · rw [e]; exact tbl_of (Or.inl rfl) (hF h)
      · rw [e]; exact tbl_of (Or.inr rfl) (hT ⟨h1.1, h1.2.1, h1.2.2, fun j u v => h2 j u (by omega)⟩)
theorem m_fname {a b : Int} (ha : 0 ≤ a ∧ a ≤ 4000) (hb : 0 ≤ b ∧ b ≤ 4000) (hT : fnamT (D 1978) a b → K D 1) (hF : ¬ fnamT (D 1978) a b → K D 0) : WP sc 186 0 D [(0, (1211, 1977)), (1, (0, a)), (2, (0, b))] [] K E := by
  refine v186_0 ?_
  rw [w32_id (x := b - a) (by omega) (by omega)]
  have loop := m_fname1 (sc := sc) (E := E) (by omega) hb.2 hT hF 4001 a
  by_cases e1 : b - a < 1
  · rw [if_pos e1]
    exact loop 0 (by omega) (by omega) (by omega) (Or.inl ⟨rfl, fun w => by have := w.1; omega⟩)
  rw [if_neg e1]
  by_cases e2 : 24 < b - a
  · rw [if_pos e2]
    exact loop 0 (by omega) (by omega) (by omega) (Or.inl ⟨rfl, fun w => by have := w.2.1; omega⟩)
  rw [if_neg e2]
  refine ⟨by omega, m_dig (fun hx => ?_) (fun hx => ?_)⟩
  · rw [if_neg (by omega)]
    exact loop 0 (by omega) (by omega) (by omega) (Or.inl ⟨rfl, fun w => w.2.2.1 hx⟩)
  · rw [if_pos rfl]
    exact loop 1 (by omega) (by omega) (by omega) (Or.inr ⟨rfl, ⟨by omega, by omega, hx⟩, fun j u v => by omega⟩)
theorem m_unit1 {s e z of : Int} (hs : 0 ≤ s ∧ s < e ∧ e ≤ 4000) (hz : (e - s) + 1 < z ∧ z ≤ 4000) (h8 : e - s ≤ 8) (hk3 : of ≠ 3 ∧ of ≠ 4) (h95 : D 1978 (z - (e - s) - 1) = 95) (hT : untN (D 1978) z (D 1978) of s e → K D 1) (hF : ¬ untN (D 1978) z (D 1978) of s e → K D 0) : ∀ (m : Nat) (k g : Int), e - s - k = (m : Int) → 0 ≤ k → ((g = 0 ∧ ¬ untN (D 1978) z (D 1978) of s e) ∨ (g = 1 ∧ ∀ j, 0 ≤ j → j < k → srt 3 (D 1978 (s + j)) = true ∧ D 1978 (z - (e - s) + j) = D 1978 (s + j))) → WP sc 187 64 D [(0, (1211, 1977)), (2, (0, s)), (3, (0, e)), (5, (0, z)), (6, (0, g)), (7, (0, k))] [] K E := by
  intro m
  induction m with
  | zero =>
    intro k g hm hk hg
    refine v187_64 ?_
    rw [w32_id (x := e - s) (by omega) (by omega), if_neg (by omega)]
    rcases hg with ⟨q, h⟩ | ⟨q, h⟩
    · rw [q]; exact tbl_of (Or.inl rfl) (hF h)
    · rw [q]; exact tbl_of (Or.inr rfl) (hT ⟨h8, hk3.1, hk3.2, hz.1, h95, fun j u v => h j u (by omega)⟩)
  | succ m ih =>
    intro k g hm hk hg
    refine v187_64 ?_
    rw [w32_id (x := e - s) (by omega) (by omega), if_pos (by omega), w32_id (x := k + 1) (by omega) (by omega), w32_id (x := s + k) (by omega) (by omega), w32_id (x := z - (e - s)) (by omega) (by omega), w32_id (x := z - (e - s) + k) (by omega) (by omega)]
    rcases hg with ⟨q, h⟩ | ⟨q, h⟩
    · rw [if_pos q]
      exact ih _ _ (by omega) (by omega) (Or.inl ⟨rfl, h⟩)
    · rw [if_neg (by omega)]
      refine ⟨by omega, m_ub (fun hx => ?_) (fun hx => ?_)⟩
      · rw [if_neg (by omega)]
        refine ⟨by omega, by omega, ?_⟩
        by_cases y : D 1978 (z - (e - s) + k) = D 1978 (s + k)
        · rw [if_pos y]
          refine ih _ _ (by omega) (by omega) (Or.inr ⟨rfl, fun j u v => ?_⟩)
          by_cases e2 : j = k
          · rw [e2]; exact ⟨hx, y⟩
          · exact h j u (by omega)
        · rw [if_neg y]
          exact ih _ _ (by omega) (by omega) (Or.inl ⟨rfl, fun w => y (w.2.2.2.2.2 k hk (by omega)).2⟩)
      · rw [if_pos rfl]
        exact ih _ _ (by omega) (by omega) (Or.inl ⟨rfl, fun w => hx (w.2.2.2.2.2 k hk (by omega)).1⟩)
theorem m_unit {s e z of : Int} (hs : 0 ≤ s ∧ s ≤ e ∧ e ≤ 4000) (hz : 0 ≤ z ∧ z ≤ 4000) (hT : (s = e ∨ untN (D 1978) z (D 1978) of s e) → K D 1) (hF : ¬ (s = e ∨ untN (D 1978) z (D 1978) of s e) → K D 0) : WP sc 187 0 D [(0, (1211, 1977)), (1, (0, of)), (2, (0, s)), (3, (0, e)), (4, (0, 0)), (5, (0, z))] [] K E := by
  refine v187_0 ?_
  rw [w32_id (x := e - s) (by omega) (by omega), w32_id (x := e - s + 1) (by omega) (by omega), w32_id (x := z - 0) (by omega) (by omega), w32_id (x := z - (e - s)) (by omega) (by omega), w32_id (x := z - (e - s) - 1) (by omega) (by omega)]
  by_cases e0 : s = e
  · rw [if_pos e0]; exact hT (Or.inl e0)
  rw [if_neg e0]
  have no : ¬ untN (D 1978) z (D 1978) of s e → K D 0 := fun h => hF (fun w => by
    rcases w with w | w
    · exact e0 w
    · exact h w)
  by_cases e1 : 8 < e - s
  · rw [if_pos e1]; exact no (fun w => by have := w.1; omega)
  rw [if_neg e1]
  by_cases e2 : of = 3
  · rw [if_pos e2]; exact no (fun w => w.2.1 e2)
  rw [if_neg e2]
  by_cases e3 : of = 4
  · rw [if_pos e3]; exact no (fun w => w.2.2.1 e3)
  rw [if_neg e3]
  by_cases e4 : e - s + 1 < z - 0
  · rw [if_pos e4]
    refine ⟨by omega, ?_⟩
    by_cases e5 : D 1978 (z - (e - s) - 1) = 95
    · rw [if_pos e5]
      exact m_unit1 (by omega) (by omega) (by omega) ⟨e2, e3⟩ e5 (fun h => hT (Or.inr h)) no (e - s).toNat 0 1 (by omega) (by omega) (Or.inr ⟨rfl, fun j u v => by omega⟩)
    · rw [if_neg e5]; exact no (fun w => e5 w.2.2.2.2.1)
  · rw [if_neg e4]; exact no (fun w => by have := w.2.2.2.1; omega)
/-- a family has been begun -/
def kfP (D D' : tD) (f kd s e : Int) : Prop := (D' 1980 f = kd ∧ D' 1982 f = e - s ∧ D' 1984 f = 0 ∧ D' 1986 f = 0 ∧ D' 1988 f = 0 ∧ D' 1991 f = 0 ∧ D' 1992 f = 0) ∧ (∀ j, 0 ≤ j → j < e - s → D' 1981 (24 * f + j) = D 1978 (s + j)) ∧ (∀ j, ¬ (24 * f ≤ j ∧ j < 24 * f + (e - s)) → D' 1981 j = D 1981 j) ∧ (∀ x j, x = 1980 ∨ x = 1982 ∨ x = 1984 ∨ x = 1986 ∨ x = 1988 ∨ x = 1991 ∨ x = 1992 → j ≠ f → D' x j = D x j) ∧ ∀ x j, x ≠ 1980 → x ≠ 1981 → x ≠ 1982 → x ≠ 1984 → x ≠ 1986 → x ≠ 1988 → x ≠ 1991 → x ≠ 1992 → D' x j = D x j
theorem m_kfam1 {f s e : Int} {D0 : tD} (hf : 0 ≤ f ∧ f < 16) (hs : 0 ≤ s ∧ s ≤ e ∧ e ≤ 4000 ∧ e - s ≤ 24) (hK : ∀ D', (D' 1984 f = 0 ∧ D' 1986 f = 0 ∧ D' 1988 f = 0 ∧ D' 1991 f = 0 ∧ D' 1992 f = 0) → (∀ j, 0 ≤ j → j < e - s → D' 1981 (24 * f + j) = D0 1978 (s + j)) → (∀ j, ¬ (24 * f ≤ j ∧ j < 24 * f + (e - s)) → D' 1981 j = D0 1981 j) → (∀ x j, x = 1984 ∨ x = 1986 ∨ x = 1988 ∨ x = 1991 ∨ x = 1992 → j ≠ f → D' x j = D0 x j) → (∀ x j, x ≠ 1981 → x ≠ 1984 → x ≠ 1986 → x ≠ 1988 → x ≠ 1991 → x ≠ 1992 → D' x j = D0 x j) → K D' 0) : ∀ (m : Nat) (k : Int) (D : tD), e - k = (m : Int) → s ≤ k → (∀ j, 0 ≤ j → j < k - s → D 1981 (24 * f + j) = D0 1978 (s + j)) → (∀ j, ¬ (24 * f ≤ j ∧ j < 24 * f + (k - s)) → D 1981 j = D0 1981 j) → (∀ x j, x ≠ 1981 → D x j = D0 x j) → WP sc 208 20 D [(0, (1211, 1977)), (1, (0, f)), (3, (0, s)), (4, (0, e)), (5, (0, k))] [] K E := by
  intro m
  induction m with
  | zero =>
    intro k D hm hk h1 h2 h3
    refine v208_20 ?_
    rw [if_neg (by omega)]
    refine ⟨hf, hf, hf, hf, hf, hK _ ⟨?_, ?_, ?_, ?_, ?_⟩ (fun j u v => ?_) (fun j u => ?_) (fun x j u v => ?_) (fun x j u1 u2 u3 u4 u5 u6 => ?_)⟩
    · rw [wr_ne (by omega), wr_ne (by omega), wr_ne (by omega), wr_ne (by omega), wr_self]
    · rw [wr_ne (by omega), wr_ne (by omega), wr_ne (by omega), wr_self]
    · rw [wr_ne (by omega), wr_ne (by omega), wr_self]
    · rw [wr_ne (by omega), wr_self]
    · rw [wr_self]
    · rw [wr_ne (by omega), wr_ne (by omega), wr_ne (by omega), wr_ne (by omega), wr_ne (by omega)]
      exact h1 j u (by omega)
    · rw [wr_ne (by omega), wr_ne (by omega), wr_ne (by omega), wr_ne (by omega), wr_ne (by omega)]
      exact h2 j (by omega)
    · rw [wr_ni v, wr_ni v, wr_ni v, wr_ni v, wr_ni v]
      exact h3 x j (by omega)
    · rw [wr_ne u6, wr_ne u5, wr_ne u4, wr_ne u3, wr_ne u2]
      exact h3 x j u1
  | succ m ih =>
    intro k D hm hk h1 h2 h3
    refine v208_20 ?_
    rw [if_pos (by omega), w32_id (x := 24 * f) (by omega) (by omega), w32_id (x := 24 * f + k) (by omega) (by omega), w32_id (x := 24 * f + k - s) (by omega) (by omega), w32_id (x := k + 1) (by omega) (by omega)]
    refine ⟨by omega, by omega, ih (k + 1) _ (by omega) (by omega) (fun j u v => ?_) (fun j u => ?_) (fun x j u => ?_)⟩
    · by_cases e2 : j = k - s
      · rw [e2, show 24 * f + (k - s) = 24 * f + k - s from by omega, wr_self, h3 _ _ (by omega), show s + (k - s) = k from by omega]
      · rw [wr_ni (by omega)]; exact h1 j u (by omega)
    · rw [wr_ni (by omega)]; exact h2 j (by omega)
    · rw [wr_ne u]; exact h3 x j u
theorem m_kfam {f kd s e : Int} (hf : 0 ≤ f ∧ f < 16) (hs : 0 ≤ s ∧ s ≤ e ∧ e ≤ 4000 ∧ e - s ≤ 24) (hK : ∀ D', kfP D D' f kd s e → K D' 0) : WP sc 208 0 D [(0, (1211, 1977)), (1, (0, f)), (2, (0, kd)), (3, (0, s)), (4, (0, e))] [] K E := by
  refine v208_0 ⟨hf, hf, ?_⟩
  rw [w32_id (x := e - s) (by omega) (by omega)]
  refine m_kfam1 hf hs (fun D' g1 g2 g3 g4 g5 => hK D' ⟨⟨?_, ?_, g1⟩, fun j u v => ?_, fun j u => ?_, fun x j u v => ?_, fun x j u1 u2 u3 u4 u5 u6 u7 u8 => ?_⟩) (e - s).toNat s _ (by omega) (by omega) (fun j u v => by omega) (fun j u => rfl) (fun x j u => rfl)
  · rw [g5 _ _ (by omega) (by omega) (by omega) (by omega) (by omega) (by omega), wr_ne (by omega), wr_self]
  · rw [g5 _ _ (by omega) (by omega) (by omega) (by omega) (by omega) (by omega), wr_self]
  · rw [g2 j u v, wr_ne (by omega), wr_ne (by omega)]
  · rw [g3 j u, wr_ne (by omega), wr_ne (by omega)]
  · by_cases e1 : x = 1980 ∨ x = 1982
    · rw [g5 _ _ (by omega) (by omega) (by omega) (by omega) (by omega) (by omega), wr_ni v, wr_ni v]
    · rw [g4 x j (by omega) v, wr_ni v, wr_ni v]
  · rw [g5 _ _ u2 u4 u5 u6 u7 u8, wr_ne u3, wr_ne u1]
/-- what a family of the other side is made of -/
def mfd (f x j : Int) : Prop := ((x = 1980 ∨ x = 1982 ∨ x = 1984 ∨ x = 1986 ∨ x = 1988 ∨ x = 1991 ∨ x = 1992 ∨ x = 1993) ∧ j = f) ∨ (x = 1981 ∧ 24 * f ≤ j ∧ j < 24 * f + 24) ∨ (x = 1983 ∧ 8 * f ≤ j ∧ j < 8 * f + 8) ∨ (x = 1985 ∧ 40 * f ≤ j ∧ j < 40 * f + 40)
/-- a family has come to be -/
def mnP (D D' : tD) (f kd a b n : Int) : Prop := (D' 1980 f = kd ∧ D' 1988 f = 0 ∧ D' 1991 f = 0 ∧ D' 1992 f = 0 ∧ D' 1993 f = 24) ∧ (D' 1982 f = a ∧ ∀ j, 0 ≤ j → j < a → D' 1981 (24 * f + j) = D 1978 j) ∧ (D' 1984 f = b - a - 1 ∧ ∀ j, 0 ≤ j → j < b - a - 1 → D' 1983 (8 * f + j) = D 1978 (a + 1 + j)) ∧ (D' 1986 f = n - b - 1 ∧ ∀ j, 0 ≤ j → j < n - b - 1 → D' 1985 (40 * f + j) = D 1978 (b + 1 + j)) ∧ D' 1979 0 = f + 1 ∧ (∀ j, j ≠ 0 → D' 1979 j = D 1979 j) ∧ ∀ x j, x ≠ 1979 → ¬ mfd f x j → D' x j = D x j
theorem m_fadd3 {f kd a b n : Int} {D0 D1 : tD} (hf : 0 ≤ f ∧ f < 8) (ha : 0 ≤ a ∧ a < b ∧ b < n ∧ n ≤ 4000) (hh : n - b - 1 ≤ 40) (h79 : D0 1979 0 = f) (g1 : D1 1980 f = kd ∧ D1 1988 f = 0 ∧ D1 1991 f = 0 ∧ D1 1992 f = 0) (g2 : D1 1982 f = a ∧ ∀ j, 0 ≤ j → j < a → D1 1981 (24 * f + j) = D0 1978 j) (g3 : D1 1984 f = b - a - 1 ∧ ∀ j, 0 ≤ j → j < b - a - 1 → D1 1983 (8 * f + j) = D0 1978 (a + 1 + j)) (g4 : D1 1986 f = n - b - 1) (g5 : ∀ x j, ¬ mfd f x j → D1 x j = D0 x j) (hK : ∀ D', mnP D0 D' f kd a b n → K D' f) : ∀ (m : Nat) (k : Int) (D : tD), n - k = (m : Int) → b + 1 ≤ k → (∀ j, 0 ≤ j → j < k - b - 1 → D 1985 (40 * f + j) = D0 1978 (b + 1 + j)) → (∀ j, ¬ (40 * f ≤ j ∧ j < 40 * f + 40) → D 1985 j = D1 1985 j) → (∀ x j, x ≠ 1985 → D x j = D1 x j) → WP sc 210 209 D [(0, (1211, 1977)), (3, (0, b)), (4, (0, n)), (5, (0, f)), (7, (0, k))] [] K E := by
  intro m
  induction m with
  | zero =>
    intro k D hm hk h1 h2 h3
    refine v210_209 ?_
    have e79 : D 1979 0 = f := by rw [h3 _ _ (by omega), g5 _ _ (by unfold mfd; omega)]; exact h79
    rw [if_neg (by omega)]
    refine ⟨hf, by decide +kernel, by decide +kernel, ?_⟩
    rw [wr_ne (by omega), e79, w32_id (by omega) (by omega)]
    refine hK _ ⟨⟨?_, ?_, ?_, ?_, ?_⟩, ⟨?_, fun j u v => ?_⟩, ⟨?_, fun j u v => ?_⟩, ⟨?_, fun j u v => ?_⟩, wr_self, fun j u => ?_, fun x j u v => ?_⟩
    · rw [wr_ne (by omega), wr_ne (by omega), h3 _ _ (by omega)]; exact g1.1
    · rw [wr_ne (by omega), wr_ne (by omega), h3 _ _ (by omega)]; exact g1.2.1
    · rw [wr_ne (by omega), wr_ne (by omega), h3 _ _ (by omega)]; exact g1.2.2.1
    · rw [wr_ne (by omega), wr_ne (by omega), h3 _ _ (by omega)]; exact g1.2.2.2
    · rw [wr_ne (by omega), wr_self]
    · rw [wr_ne (by omega), wr_ne (by omega), h3 _ _ (by omega)]; exact g2.1
    · rw [wr_ne (by omega), wr_ne (by omega), h3 _ _ (by omega)]; exact g2.2 j u v
    · rw [wr_ne (by omega), wr_ne (by omega), h3 _ _ (by omega)]; exact g3.1
    · rw [wr_ne (by omega), wr_ne (by omega), h3 _ _ (by omega)]; exact g3.2 j u v
    · rw [wr_ne (by omega), wr_ne (by omega), h3 _ _ (by omega)]; exact g4
    · rw [wr_ne (by omega), wr_ne (by omega)]; exact h1 j u (by omega)
    · rw [wr_ni u, wr_ne (by omega), h3 _ _ (by omega), g5 _ _ (by unfold mfd; omega)]
    · rw [wr_ne u]
      have e93 : ¬ (x = 1993 ∧ j = f) := fun w => v (Or.inl ⟨by omega, w.2⟩)
      simp only [wr]
      rw [if_neg e93, ← g5 x j v]
      by_cases e : x = 1985
      · rw [e]; exact h2 j (fun w => v (Or.inr (Or.inr (Or.inr ⟨e, w⟩))))
      · exact h3 x j e
  | succ m ih =>
    intro k D hm hk h1 h2 h3
    refine v210_209 ?_
    rw [if_pos (by omega), w32_id (x := 40 * f) (by omega) (by omega), w32_id (x := 40 * f + k) (by omega) (by omega), w32_id (x := 40 * f + k - b) (by omega) (by omega), w32_id (x := 40 * f + k - b - 1) (by omega) (by omega), w32_id (x := k + 1) (by omega) (by omega)]
    refine ⟨by omega, by omega, ih (k + 1) _ (by omega) (by omega) (fun j u v => ?_) (fun j u => ?_) (fun x j u => ?_)⟩
    · by_cases e2 : j = k - b - 1
      · rw [e2, show 40 * f + (k - b - 1) = 40 * f + k - b - 1 from by omega, wr_self, h3 _ _ (by omega), g5 _ _ (by unfold mfd; omega), show b + 1 + (k - b - 1) = k from by omega]
      · rw [wr_ni (by omega)]; exact h1 j u (by omega)
    · rw [wr_ni (by omega)]; exact h2 j u
    · rw [wr_ne u]; exact h3 x j u
theorem m_fadd2 {f kd a b n : Int} {D0 D1 : tD} (hf : 0 ≤ f ∧ f < 8) (ha : 0 ≤ a ∧ a < b ∧ b < n ∧ n ≤ 4000) (hu : b - a - 1 ≤ 8) (hh : n - b - 1 ≤ 40) (h79 : D0 1979 0 = f) (g1 : D1 1980 f = kd ∧ D1 1988 f = 0 ∧ D1 1991 f = 0 ∧ D1 1992 f = 0) (g2 : D1 1982 f = a ∧ ∀ j, 0 ≤ j → j < a → D1 1981 (24 * f + j) = D0 1978 j) (g3 : D1 1984 f = b - a - 1) (g5 : ∀ x j, ¬ mfd f x j → D1 x j = D0 x j) (hK : ∀ D', mnP D0 D' f kd a b n → K D' f) : ∀ (m : Nat) (k : Int) (D : tD), b - k = (m : Int) → a + 1 ≤ k → (∀ j, 0 ≤ j → j < k - a - 1 → D 1983 (8 * f + j) = D0 1978 (a + 1 + j)) → (∀ j, ¬ (8 * f ≤ j ∧ j < 8 * f + 8) → D 1983 j = D1 1983 j) → (∀ x j, x ≠ 1983 → D x j = D1 x j) → WP sc 210 155 D [(0, (1211, 1977)), (2, (0, a)), (3, (0, b)), (4, (0, n)), (5, (0, f)), (7, (0, k))] [] K E := by
  intro m
  induction m with
  | zero =>
    intro k D hm hk h1 h2 h3
    refine v210_155 ?_
    rw [if_neg (by omega), w32_id (x := n - b) (by omega) (by omega), w32_id (x := n - b - 1) (by omega) (by omega), w32_id (x := b + 1) (by omega) (by omega)]
    refine ⟨by omega, m_fadd3 (D0 := D0) (D1 := wr D 1986 f (n - b - 1)) hf ha hh h79 ⟨?_, ?_, ?_, ?_⟩ ⟨?_, fun j u v => ?_⟩ ⟨?_, fun j u v => ?_⟩ wr_self (fun x j u => ?_) hK (n - b - 1).toNat (b + 1) _ (by omega) (by omega) (fun j u v => by omega) (fun j u => rfl) (fun x j u => rfl)⟩
    · rw [wr_ne (by omega), h3 _ _ (by omega)]; exact g1.1
    · rw [wr_ne (by omega), h3 _ _ (by omega)]; exact g1.2.1
    · rw [wr_ne (by omega), h3 _ _ (by omega)]; exact g1.2.2.1
    · rw [wr_ne (by omega), h3 _ _ (by omega)]; exact g1.2.2.2
    · rw [wr_ne (by omega), h3 _ _ (by omega)]; exact g2.1
    · rw [wr_ne (by omega), h3 _ _ (by omega)]; exact g2.2 j u v
    · rw [wr_ne (by omega), h3 _ _ (by omega)]; exact g3
    · rw [wr_ne (by omega)]; exact h1 j u (by omega)
    · have e86 : ¬ (x = 1986 ∧ j = f) := fun w => u (Or.inl ⟨by omega, w.2⟩)
      simp only [wr]
      rw [if_neg e86, ← g5 x j u]
      by_cases e : x = 1983
      · rw [e]; exact h2 j (fun w => u (Or.inr (Or.inr (Or.inl ⟨e, w⟩))))
      · exact h3 x j e
  | succ m ih =>
    intro k D hm hk h1 h2 h3
    refine v210_155 ?_
    rw [if_pos (by omega), w32_id (x := 8 * f) (by omega) (by omega), w32_id (x := 8 * f + k) (by omega) (by omega), w32_id (x := 8 * f + k - a) (by omega) (by omega), w32_id (x := 8 * f + k - a - 1) (by omega) (by omega), w32_id (x := k + 1) (by omega) (by omega)]
    refine ⟨by omega, by omega, ih (k + 1) _ (by omega) (by omega) (fun j u v => ?_) (fun j u => ?_) (fun x j u => ?_)⟩
    · by_cases e2 : j = k - a - 1
      · rw [e2, show 8 * f + (k - a - 1) = 8 * f + k - a - 1 from by omega, wr_self, h3 _ _ (by omega), g5 _ _ (by unfold mfd; omega), show a + 1 + (k - a - 1) = k from by omega]
      · rw [wr_ni (by omega)]; exact h1 j u (by omega)
    · rw [wr_ni (by omega)]; exact h2 j u
    · rw [wr_ne u]; exact h3 x j u
/-- an 'or' over the first ones -/
theorem b01_or {b k : Int} {P : Int → Prop} (h : b01 b (∃ j, (0 ≤ j ∧ j < k) ∧ P j)) (hk : 0 ≤ k) : (b = 1 → b01 1 (∃ j, (0 ≤ j ∧ j < k + 1) ∧ P j)) ∧ (b = 0 → P k → b01 1 (∃ j, (0 ≤ j ∧ j < k + 1) ∧ P j)) ∧ (b = 0 → ¬ P k → b01 0 (∃ j, (0 ≤ j ∧ j < k + 1) ∧ P j)) := by
  refine ⟨fun e => ?_, fun e p => Or.inl ⟨rfl, k, by omega, p⟩, fun e p => Or.inr ⟨rfl, fun ⟨j, j1, j2⟩ => ?_⟩⟩
  · rcases h with ⟨_, j, j1, j2⟩ | ⟨e0, _⟩
    · exact Or.inl ⟨rfl, j, by omega, j2⟩
    · omega
  · rcases h with ⟨e1, _⟩ | ⟨_, h⟩
    · omega
    · by_cases q : j = k
      · rw [q] at j2; exact p j2
      · exact h ⟨j, by omega, j2⟩
theorem m_faddF {of size f : Int} (hz : 0 ≤ size ∧ size ≤ 24) (hg : ∀ k, 0 ≤ k → k < f → nzP D k) (hU : (∃ k, (0 ≤ k ∧ k < f) ∧ clM D of size k) → K (wr D 1977 0 2) 0) (hS : (¬ ∃ k, (0 ≤ k ∧ k < f) ∧ clM D of size k) → K (wr D 1977 0 3) 0) : ∀ (m : Nat) (k b : Int), f - k = (m : Int) → 0 ≤ k → b01 b (∃ j, (0 ≤ j ∧ j < k) ∧ clM D of size j) → WP sc 210 21 D [(0, (1211, 1977)), (1, (0, of)), (2, (0, size)), (5, (0, f)), (6, (0, b)), (7, (0, k))] [] K E := by
  intro m
  induction m with
  | zero =>
    intro k b hm hk hb
    refine v210_21 ?_
    rw [if_neg (by omega)]
    have e : k = f := by omega
    subst e
    rcases hb with ⟨e, q⟩ | ⟨e, q⟩
    · rw [if_neg (by omega)]; exact c_fails1 (hU q)
    · rw [if_pos e]; exact c_fails1 (hS q)
  | succ m ih =>
    intro k b hm hk hb
    refine v210_21 ?_
    have h16 := (hg k hk (by omega)).1
    rw [if_pos (by omega), w32_id (x := k + 1) (by omega) (by omega)]
    obtain ⟨o1, o2, o3⟩ := b01_or hb hk
    by_cases e : b = 0
    · rw [if_pos e]
      refine m_clashW (hg k hk (by omega)) hz (fun h => ?_) (fun h => ?_)
      · rw [if_neg (by omega)]; exact ih _ _ (by omega) (by omega) (o2 e h)
      · rw [if_pos rfl]; exact ih _ _ (by omega) (by omega) (o3 e h)
    · rw [if_neg e]
      exact ih _ _ (by omega) (by omega) (o1 (by rcases hb with ⟨e1, _⟩ | ⟨e1, _⟩ <;> omega))
theorem m_fadd1 {f a b n : Int} {P : Int → Prop} (hf : 0 ≤ f ∧ f < 8) (hF : nzP D f) (hg : ∀ k, 0 ≤ k → k < f → nzP D k ∧ (clF (nmf D f) (D 1982 f) (D 1980 f) (nmf D k) (D 1982 k) (D 1980 k) ↔ P k)) (hab : 0 ≤ a ∧ a < b ∧ b ≤ 4000) (hU : (∃ k, (0 ≤ k ∧ k < f) ∧ P k) → K (wr D 1977 0 2) 0) (hG : (¬ ∃ k, (0 ≤ k ∧ k < f) ∧ P k) → WP sc 210 155 (wr (wr D 1977 0 0) 1984 f (b - a - 1)) [(0, (1211, 1977)), (2, (0, a)), (3, (0, b)), (4, (0, n)), (5, (0, f)), (7, (0, a + 1))] [] K E) : ∀ (m : Nat) (k g : Int), f - k = (m : Int) → 0 ≤ k → b01 g (∃ j, (0 ≤ j ∧ j < k) ∧ P j) → WP sc 210 90 D [(0, (1211, 1977)), (2, (0, a)), (3, (0, b)), (4, (0, n)), (5, (0, f)), (6, (0, g)), (7, (0, k))] [] K E := by
  intro m
  induction m with
  | zero =>
    intro k g hm hk hb
    refine v210_90 ?_
    rw [if_neg (by omega)]
    have e : k = f := by omega
    subst e
    rcases hb with ⟨e, q⟩ | ⟨e, q⟩
    · rw [e]
      refine c_fails1 ?_
      rw [if_neg (by omega)]; exact hU q
    · rw [e]
      refine c_fails0 ?_
      rw [if_pos rfl, w32_id (x := b - a) (by omega) (by omega), w32_id (x := b - a - 1) (by omega) (by omega), w32_id (x := a + 1) (by omega) (by omega)]
      exact ⟨by omega, hG q⟩
  | succ m ih =>
    intro k g hm hk hb
    refine v210_90 ?_
    obtain ⟨g1, g2⟩ := hg k hk (by omega)
    rw [if_pos (by omega), w32_id (x := k + 1) (by omega) (by omega)]
    obtain ⟨o1, o2, o3⟩ := b01_or hb hk
    by_cases e : g = 0
    · rw [if_pos e]
      refine m_clash hF g1 (fun h => ?_) (fun h => ?_)
      · rw [if_neg (by omega)]; exact ih _ _ (by omega) (by omega) (o2 e (g2.mp h))
      · rw [if_pos rfl]; exact ih _ _ (by omega) (by omega) (o3 e (fun w => h (g2.mpr w)))
    · rw [if_neg e]
      exact ih _ _ (by omega) (by omega) (o1 (by rcases hb with ⟨e1, _⟩ | ⟨e1, _⟩ <;> omega))
end FMD
