/-! reading: tokens, the other side -/
section TOM
variable {sc : Nat × (Nat → Int32)} {D D' : tD} {K : tD → Int → Prop} {E : tD → Nat → Prop} {T : Int → Int} {n : Int}
/-- the other side's place in its tape -/
def mu (D : tD) (T : Int → Int) (n a : Int) : Prop := (D 1977 47 = a ∧ D 1977 2 = n ∧ D 1977 45 = 0) ∧ (0 ≤ a ∧ a ≤ n ∧ n ≤ 4000) ∧ ∀ j, 0 ≤ j → j < n → D 1978 j = T j ∧ 0 ≤ T j ∧ T j ≤ 255
/-- a fault is set down -/
def fl (D : tD) (c p : Int) : tD := wr (wr D 1977 45 c) 1977 46 p
theorem mu_to {a b : Int} (h : mu D T n a) (hb : 0 ≤ b ∧ b ≤ n) (h1 : D' 1977 47 = b) (h2 : D' 1977 2 = D 1977 2) (h3 : D' 1977 45 = D 1977 45) (hr : ∀ j, D' 1978 j = D 1978 j) : mu D' T n b := by
  obtain ⟨c1, c2, c3⟩ := h
  exact ⟨⟨h1, by rw [h2]; exact c1.2.1, by rw [h3]; exact c1.2.2⟩, ⟨hb.1, hb.2, c2.2.2⟩, fun j u v => by rw [hr]; exact c3 j u v⟩
theorem mu_wr {a b : Int} (h : mu D T n a) (hb : 0 ≤ b ∧ b ≤ n) : mu (wr D 1977 47 b) T n b := mu_to h hb wr_self (wr_ni (by omega)) (wr_ni (by omega)) (fun j => wr_ne (by omega))
theorem srt_pb {s a : Int} : srt s (pb T n a) = true ↔ a < n ∧ srt s (T a) = true := by
  unfold pb
  by_cases e : a < n
  · rw [if_pos e]; exact ⟨fun h => ⟨e, h⟩, fun h => h.2⟩
  · rw [if_neg e, srt_iff]
    exact ⟨fun h => by omega, fun h => absurd h.1 e⟩
theorem u_peek {a : Int} (h : mu D T n a) (hK : K D (pb T n a)) : WP sc 252 0 D [(0, (1211, 1977))] [] K E := by
  obtain ⟨c1, c2, c3⟩ := h
  refine v252_0 ?_
  rw [c1.1, c1.2.1]
  unfold pb at hK
  by_cases e : a < n
  · rw [if_pos e] at hK ⊢
    refine ⟨by omega, ?_⟩
    rw [(c3 a c2.1 e).1]; exact hK
  · rw [if_neg e] at hK ⊢; exact hK
theorem u_finds {c p : Int} (h : D 1977 45 = 0) (hK : K (fl D c p) 0) : WP sc 251 0 D [(0, (1211, 1977)), (1, (0, c)), (2, (0, p))] [] K E := by
  refine v251_0 ?_
  rw [if_pos h]
  exact hK
theorem u_fails {c p : Int} (h : D 1977 45 = 0) (hK : K (fl D c p) 0) : WP sc 251 0 D [(0, (1211, 1977)), (1, (0, c)), (2, (0, p))] [] (fun D1 r2 => tbl r2 (K D1 r2)) E := u_finds h (tbl_of (Or.inl rfl) hK)
theorem u_expects {a b : Int} (h : mu D T n a) (hT : pb T n a = b → K (wr D 1977 47 (a + 1)) 1) (hF : pb T n a ≠ b → K (fl D 1 a) 0) : WP sc 253 0 D [(0, (1211, 1977)), (1, (0, b))] [] K E := by
  have c := h.2
  refine v253_0 (u_peek h ?_)
  rw [h.1.1]
  by_cases e : pb T n a = b
  · rw [if_pos e, w32_id (by omega) (by omega)]; exact hT e
  · rw [if_neg e]; exact u_fails h.1.2.2 (hF e)
theorem u_names1 {x : Int} : ∀ (m : Nat) (a : Int) (D : tD), n - a = (m : Int) → mu D T n a → K (wr D 1977 47 (ru 5 T n a)) x → WP sc 254 5 D [(0, (1211, 1977)), (1, (0, x))] [] K E := by
  intro m
  induction m with
  | zero =>
    intro a D hm h hK
    refine v254_5 (u_peek h ?_)
    refine m_nb (fun e => ?_) (fun e => ?_)
    · rw [srt_pb] at e; omega
    · rw [if_pos rfl]
      rw [ru_stop (fun w => by omega), wr_id h.1.1] at hK
      exact hK
  | succ m ih =>
    intro a D hm h hK
    have c := h.2
    refine v254_5 (u_peek h ?_)
    refine m_nb (fun e => ?_) (fun e => ?_)
    · rw [srt_pb] at e
      rw [if_neg (by omega), h.1.1, w32_id (by omega) (by omega)]
      refine ih (a + 1) _ (by omega) (mu_wr h (by omega)) ?_
      rw [wr_wr, ← ru_go e]
      exact hK
    · rw [if_pos rfl]
      rw [srt_pb] at e
      rw [ru_stop e, wr_id h.1.1] at hK
      exact hK
theorem u_names {a : Int} (h : mu D T n a) (hK : K (wr D 1977 47 (ru 5 T n a)) a) : WP sc 254 0 D [(0, (1211, 1977))] [] K E := by
  have c := h.2
  refine v254_0 ?_
  rw [h.1.1]
  exact u_names1 (n - a).toNat a D (by omega) h hK
/-- a word in the tape -/
def wdT (T : Int → Int) (w a b : Int) : Prop := b - a = ltn w ∧ ∀ j, a ≤ j → j < b → T j = ltr w (j - a)
theorem u_word1 {a b w : Int} (hab : 0 ≤ a ∧ a ≤ b ∧ b ≤ n) (h : ∃ p, mu D T n p) (hT : wdT T w a b → K D 1) (hF : ¬ wdT T w a b → K D 0) : ∀ (m : Nat) (k x : Int), b - k = (m : Int) → a ≤ k → ((x = 1 ∧ b - a = ltn w ∧ ∀ j, a ≤ j → j < k → T j = ltr w (j - a)) ∨ (x = 0 ∧ ¬ wdT T w a b)) → WP sc 255 20 D [(0, (1211, 1977)), (1, (0, a)), (2, (0, b)), (3, (0, w)), (4, (0, x)), (5, (0, k))] [] K E := by
  obtain ⟨p, hp⟩ := h
  have c := hp.2
  intro m
  induction m with
  | zero =>
    intro k x hm hk hx
    refine v255_20 ?_
    rw [if_neg (by omega)]
    rcases hx with ⟨e, h1, h2⟩ | ⟨e, h1⟩
    · rw [e]; exact tbl_of (Or.inr rfl) (hT ⟨h1, fun j u v => h2 j u (by omega)⟩)
    · rw [e]; exact tbl_of (Or.inl rfl) (hF h1)
  | succ m ih =>
    intro k x hm hk hx
    refine v255_20 ?_
    rw [if_pos (by omega)]
    rcases hx with ⟨e, h1, h2⟩ | ⟨e, h1⟩
    · rw [e, if_neg (by omega)]
      refine ⟨by omega, ?_⟩
      rw [w32_id (x := k - a) (by omega) (by omega), w32_id (x := k + 1) (by omega) (by omega)]
      refine m_letter ?_
      have tk := c.2 k (by omega) (by omega)
      by_cases z : D 1978 k = ltr w (k - a)
      · rw [if_pos z]
        refine ih (k + 1) 1 (by omega) (by omega) (Or.inl ⟨rfl, h1, fun j u v => ?_⟩)
        by_cases y : j = k
        · rw [y, ← tk.1]; exact z
        · exact h2 j u (by omega)
      · rw [if_neg z]
        refine ih (k + 1) 0 (by omega) (by omega) (Or.inr ⟨rfl, fun y => z ?_⟩)
        rw [tk.1]
        exact y.2 k hk (by omega)
    · rw [e, if_pos rfl]; exact tbl_of (Or.inl rfl) (hF h1)
theorem u_word {a b w : Int} (hw : 0 ≤ w ∧ w < 18) (hab : 0 ≤ a ∧ a ≤ b ∧ b ≤ n) (h : ∃ p, mu D T n p) (hT : wdT T w a b → K D 1) (hF : ¬ wdT T w a b → K D 0) : WP sc 255 0 D [(0, (1211, 1977)), (1, (0, a)), (2, (0, b)), (3, (0, w))] [] K E := by
  obtain ⟨p, hp⟩ := h
  have c := hp.2
  refine v255_0 (m_letters hw ?_)
  rw [w32_id (x := b - a) (by omega) (by omega)]
  by_cases e : b - a = ltn w
  · rw [if_pos e]
    exact u_word1 hab ⟨p, hp⟩ hT hF (b - a).toNat a 1 (by omega) (by omega) (Or.inl ⟨rfl, e, fun j u v => by omega⟩)
  · rw [if_neg e]
    exact u_word1 hab ⟨p, hp⟩ hT hF (b - a).toNat a 0 (by omega) (by omega) (Or.inr ⟨rfl, fun y => e y.1⟩)
/-- the class's words are the other side's -/
def twd (w t : Int) : Prop := ltn w = tsn t ∧ ∀ k, 0 ≤ k → k < ltn w → ltr w k = tsc t k ∧ 0 ≤ tsc t k ∧ tsc t k < 128
theorem t_word {a0 r a b w t : Int} (hr : 0 ≤ r + 1 ∧ r + 1 < 2018 ∧ tkd (r + 1).toNat = 2) (hw : twd w t) (hab : 0 ≤ a ∧ a ≤ b ∧ b ≤ n) (h : ∃ p, cu D a0 r T n p) (hT : wdT T w a b → K D 1) (hF : ¬ wdT T w a b → K D 0) : WP sc 100 0 D [(0, (1207, r)), (1, (0, a)), (2, (0, b)), (3, (4, t))] [] K E := by
  obtain ⟨p, hp⟩ := h
  have c := hp.2
  refine wp_ok (fun hok => ?_)
  have by1 : ∀ j, 0 ≤ j → j < n → D (r + 1) j % 256 = T j := fun j u v => by
    have := (c.2.2.2 j u v).1
    unfold rat at this
    rw [if_pos ⟨u, by rw [c.1.1]; exact v⟩] at this
    exact this
  have key : spis D r a b t ↔ wdT T w a b := by
    unfold spis wdT
    refine ⟨fun ⟨h1, h2, h3, h4⟩ => ⟨by rw [hw.1]; exact h3, fun j u v => ?_⟩, fun ⟨h3, h4⟩ => ⟨hab.1, by rw [c.1.1]; exact hab.2.2, by rw [← hw.1]; exact h3, fun j u v => ?_⟩⟩
    · have q := hw.2 (j - a) (by omega) (by rw [hw.1]; omega)
      have := by1 j (by omega) (by omega)
      rw [h4 j u v] at this
      rw [q.1]
      omega
    · have q := hw.2 (j - a) (by omega) (by omega)
      have q1 := by1 j (by omega) (by omega)
      have q2 := h4 j u v
      have q3 := okD_byte hok (a := r + 1) (j := j) ⟨hr.1, hr.2.1⟩ hr.2.2 ⟨by omega, by have := c.1.2.1; omega⟩
      rw [q2, q.1] at q1
      omega
  exact c_span (by rw [c.1.1]; exact c.1.2.1) (by rw [c.1.1]; omega) (by omega) (fun y => hT (key.mp y)) (fun y => hF (fun z => y (key.mpr z)))
/-- digits before the point: 13 at most are kept -/
def dk (m : Nat) (x : Int) : Nat := if x ≤ (m : Int) then x.toNat else m
theorem u_n39 {x1 x2 s w : Int} {D0 : tD} (hs : 0 ≤ s ∧ s ≤ n) (h : mu D0 T n s) (hw : w = ru 2 T n s) (hK : if w - s = 0 then (WP sc 251 0 (wr D0 1977 47 w) [(0, (1211, 1977)), (1, (0, 1)), (2, (0, (wr D0 1977 47 w) 1977 47))] [] (fun D7 r8 => tbl r8 (K D7 r8)) (fun D7 e9 => E D7 e9)) else (WP sc 252 0 (wr D0 1977 47 w) [(0, (1211, 1977))] [] (fun D10 r11 => if r11 = 46 then (WP sc 257 128 (wr D10 1977 47 (w32 ((D10 1977 47) + 1))) [(0, (1211, 1977)), (1, (0, x1)), (2, (0, x2)), (3, (1, dvl T s (dk 13 (w - s)))), (5, (0, w - s)), (6, (0, 0)), (7, (1, 0))] [] K E) else (if 12 < w - s then (WP sc 251 0 D10 [(0, (1211, 1977)), (1, (0, 11)), (2, (0, x1))] [] (fun D13 r14 => tbl r14 (K D13 r14)) (fun D13 e15 => E D13 e15)) else (WP sc 257 218 D10 [(0, (1211, 1977)), (2, (0, x2)), (3, (1, dvl T s (dk 13 (w - s)))), (7, (1, 0)), (9, (0, 0))] [] K E))) (fun D10 e12 => E D10 e12))) : ∀ (m : Nat) (b : Int), n - b = (m : Int) → s ≤ b → b ≤ w → WP sc 257 39 (wr D0 1977 47 b) [(0, (1211, 1977)), (1, (0, x1)), (2, (0, x2)), (3, (1, dvl T s (dk 13 (b - s)))), (5, (0, b - s))] [] K E := by
  have c := h.2
  obtain ⟨rb, ri, rs⟩ := ru_all (s := 2) (T := T) (n := n) (n - s).toNat s (by omega)
  rw [← hw] at rb ri rs
  have dg : ∀ j, s ≤ j → j < w → 48 ≤ T j ∧ T j ≤ 57 := fun j u v => by
    have := ri j u v
    rw [srt_iff] at this
    omega
  have stop : ∀ b, b = w → WP sc 257 39 (wr D0 1977 47 b) [(0, (1211, 1977)), (1, (0, x1)), (2, (0, x2)), (3, (1, dvl T s (dk 13 (b - s)))), (5, (0, b - s))] [] K E := fun b e => by
    rw [e]
    refine v257_39 (u_peek (mu_wr h (b := w) ⟨by omega, by omega⟩) ?_)
    refine m_dig (fun y => ?_) (fun y => ?_)
    · rw [srt_pb] at y; exact absurd y rs
    · rw [if_pos rfl]; exact hK
  intro m
  induction m with
  | zero => intro b hm hb hb2; exact stop b (by omega)
  | succ m ih =>
    intro b hm hb hb2
    by_cases e : b = w
    · exact stop b e
    have hu := mu_wr h (b := b) ⟨by omega, by omega⟩
    refine v257_39 (u_peek hu ?_)
    have q := dg b hb (by omega)
    refine m_dig (fun y => ?_) (fun y => ?_)
    · rw [if_neg (by omega)]
      have g := ih (b + 1) (by omega) (by omega) (by omega)
      by_cases e2 : b - s < 13
      · rw [if_pos e2]
        refine u_peek hu ?_
        rw [pb_in (by omega), wr_self, wr_wr, w32_id (x := b + 1) (by omega) (by omega), w32_id (x := b - s + 1) (by omega) (by omega)]
        have e3 : dk 13 (b - s) = (b - s).toNat := by unfold dk; rw [if_pos (by omega)]
        have e4 : dk 13 (b + 1 - s) = (b - s).toNat + 1 := by unfold dk; rw [if_pos (by omega)]; omega
        rw [e4] at g
        rw [e3]
        have v1 := dvl_b (T := T) (a := s) (b - s).toNat (fun j u v => dg j u (by omega))
        have v2 := p10_le (m := (b - s).toNat) (n := 13) (by omega)
        rw [show p10 13 = 10000000000000 from by decide] at v2
        rw [w64_id (x := 10 * dvl T s (b - s).toNat) (by omega) (by omega), w64_id (x := 10 * dvl T s (b - s).toNat + T b) (by omega) (by omega), w64_id (x := 10 * dvl T s (b - s).toNat + T b - 48) (by omega) (by omega)]
        have e5 : dvl T s ((b - s).toNat + 1) = 10 * dvl T s (b - s).toNat + T b - 48 := by
          show 10 * dvl T s (b - s).toNat + (T (s + (((b - s).toNat : Nat) : Int)) - 48) = _
          rw [show s + (((b - s).toNat : Nat) : Int) = b from by omega]
          omega
        rw [e5, show b + 1 - s = b - s + 1 from by omega] at g
        exact g
      · rw [if_neg e2, wr_self, wr_wr, w32_id (x := b + 1) (by omega) (by omega), w32_id (x := b - s + 1) (by omega) (by omega)]
        have e3 : dk 13 (b - s) = 13 := by unfold dk; split <;> omega
        have e4 : dk 13 (b + 1 - s) = 13 := by unfold dk; rw [if_neg (by omega)]
        rw [e4, show b + 1 - s = b - s + 1 from by omega] at g
        rw [e3]
        exact g
    · rw [srt_pb, srt_iff] at y
      exact absurd ⟨by omega, by omega⟩ y
theorem u_n128 {x1 x2 x3 x5 s w : Int} {D0 : tD} (hs : 0 ≤ s ∧ s ≤ n) (h : mu D0 T n s) (hw : w = ru 2 T n s) (hK : if w - s = 0 then (WP sc 251 0 (wr D0 1977 47 w) [(0, (1211, 1977)), (1, (0, 1)), (2, (0, (wr D0 1977 47 w) 1977 47))] [] (fun D7 r8 => tbl r8 (K D7 r8)) (fun D7 e9 => E D7 e9)) else (if 12 < x5 then (WP sc 251 0 (wr D0 1977 47 w) [(0, (1211, 1977)), (1, (0, 11)), (2, (0, x1))] [] (fun D10 r11 => tbl r11 (K D10 r11)) (fun D10 e12 => E D10 e12)) else (if 3 < w - s then (WP sc 251 0 (wr D0 1977 47 w) [(0, (1211, 1977)), (1, (0, 11)), (2, (0, x1))] [] (fun D13 r14 => tbl r14 (K D13 r14)) (fun D13 e15 => E D13 e15)) else (WP sc 257 218 (wr D0 1977 47 w) [(0, (1211, 1977)), (2, (0, x2)), (3, (1, x3)), (7, (1, dvl T s (dk 3 (w - s)))), (9, (0, w - s))] [] K E)))) : ∀ (m : Nat) (b : Int), n - b = (m : Int) → s ≤ b → b ≤ w → WP sc 257 128 (wr D0 1977 47 b) [(0, (1211, 1977)), (1, (0, x1)), (2, (0, x2)), (3, (1, x3)), (5, (0, x5)), (6, (0, b - s)), (7, (1, dvl T s (dk 3 (b - s))))] [] K E := by
  have c := h.2
  obtain ⟨rb, ri, rs⟩ := ru_all (s := 2) (T := T) (n := n) (n - s).toNat s (by omega)
  rw [← hw] at rb ri rs
  have dg : ∀ j, s ≤ j → j < w → 48 ≤ T j ∧ T j ≤ 57 := fun j u v => by
    have := ri j u v
    rw [srt_iff] at this
    omega
  have stop : ∀ b, b = w → WP sc 257 128 (wr D0 1977 47 b) [(0, (1211, 1977)), (1, (0, x1)), (2, (0, x2)), (3, (1, x3)), (5, (0, x5)), (6, (0, b - s)), (7, (1, dvl T s (dk 3 (b - s))))] [] K E := fun b e => by
    rw [e]
    refine v257_128 (u_peek (mu_wr h (b := w) ⟨by omega, by omega⟩) ?_)
    refine m_dig (fun y => ?_) (fun y => ?_)
    · rw [srt_pb] at y; exact absurd y rs
    · rw [if_pos rfl]; exact hK
  intro m
  induction m with
  | zero => intro b hm hb hb2; exact stop b (by omega)
  | succ m ih =>
    intro b hm hb hb2
    by_cases e : b = w
    · exact stop b e
    have hu := mu_wr h (b := b) ⟨by omega, by omega⟩
    refine v257_128 (u_peek hu ?_)
    have q := dg b hb (by omega)
    refine m_dig (fun y => ?_) (fun y => ?_)
    · rw [if_neg (by omega)]
      have g := ih (b + 1) (by omega) (by omega) (by omega)
      by_cases e2 : b - s < 3
      · rw [if_pos e2]
        refine u_peek hu ?_
        rw [pb_in (by omega), wr_self, wr_wr, w32_id (x := b + 1) (by omega) (by omega), w32_id (x := b - s + 1) (by omega) (by omega)]
        have e3 : dk 3 (b - s) = (b - s).toNat := by unfold dk; rw [if_pos (by omega)]
        have e4 : dk 3 (b + 1 - s) = (b - s).toNat + 1 := by unfold dk; rw [if_pos (by omega)]; omega
        rw [e4] at g
        rw [e3]
        have v1 := dvl_b (T := T) (a := s) (b - s).toNat (fun j u v => dg j u (by omega))
        have v2 := p10_le (m := (b - s).toNat) (n := 3) (by omega)
        rw [show p10 3 = 1000 from by decide] at v2
        rw [w64_id (x := 10 * dvl T s (b - s).toNat) (by omega) (by omega), w64_id (x := 10 * dvl T s (b - s).toNat + T b) (by omega) (by omega), w64_id (x := 10 * dvl T s (b - s).toNat + T b - 48) (by omega) (by omega)]
        have e5 : dvl T s ((b - s).toNat + 1) = 10 * dvl T s (b - s).toNat + T b - 48 := by
          show 10 * dvl T s (b - s).toNat + (T (s + (((b - s).toNat : Nat) : Int)) - 48) = _
          rw [show s + (((b - s).toNat : Nat) : Int) = b from by omega]
          omega
        rw [e5, show b + 1 - s = b - s + 1 from by omega] at g
        exact g
      · rw [if_neg e2, wr_self, wr_wr, w32_id (x := b + 1) (by omega) (by omega), w32_id (x := b - s + 1) (by omega) (by omega)]
        have e3 : dk 3 (b - s) = 3 := by unfold dk; split <;> omega
        have e4 : dk 3 (b + 1 - s) = 3 := by unfold dk; rw [if_neg (by omega)]
        rw [e4, show b + 1 - s = b - s + 1 from by omega] at g
        rw [e3]
        exact g
    · rw [srt_pb, srt_iff] at y
      exact absurd ⟨by omega, by omega⟩ y
theorem u_n218 {x2 x3 : Int} (h3 : 0 ≤ x3 ∧ x3 ≤ 10000000000000) : ∀ (j : Nat) (x7 : Int), j ≤ 3 → 0 ≤ x7 ∧ x7 * p10 j ≤ 1000000 → K (wr D 1977 58 (if x2 = 0 then 1000 * x3 + x7 * p10 j else -(1000 * x3 + x7 * p10 j))) 1 → WP sc 257 218 D [(0, (1211, 1977)), (2, (0, x2)), (3, (1, x3)), (7, (1, x7)), (9, (0, 3 - (j : Int)))] [] K E := by
  intro j
  induction j with
  | zero =>
    intro x7 hj h7 hK
    rw [show p10 0 = 1 from rfl, Int.mul_one] at hK h7
    refine v257_218 ?_
    rw [if_neg (by omega), wr_self, wr_wr, wr_wr, w64_id (x := 1000 * x3) (by omega) (by omega), w64_id (x := 1000 * x3 + x7) (by omega) (by omega), w64_id (x := -(1000 * x3 + x7)) (by omega) (by omega)]
    by_cases e : x2 = 0
    · rw [if_pos e] at hK ⊢; exact hK
    · rw [if_neg e] at hK ⊢; exact hK
  | succ j ih =>
    intro x7 hj h7 hK
    have p1 := p10_pos j
    have e : x7 * p10 (j + 1) = x7 * 10 * p10 j := by
      show x7 * (10 * p10 j) = _
      rw [Int.mul_assoc]
    rw [e] at hK h7
    have h8 : x7 * 10 ≤ x7 * 10 * p10 j := by
      have := Int.mul_le_mul_of_nonneg_left p1 (show 0 ≤ x7 * 10 from by omega)
      rw [Int.mul_one] at this
      exact this
    refine v257_218 ?_
    rw [if_pos (by omega), w64_id (x := x7 * 10) (by omega) (by omega), w32_id (by omega) (by omega), show 3 - ((j + 1 : Nat) : Int) + 1 = 3 - (j : Int) from by omega]
    exact ih (x7 * 10) (by omega) ⟨by omega, h7.2⟩ hK
theorem dvl_le3 {p e : Int} (hd : ∀ j, p ≤ j → j < e → srt 2 (T j) = true) (h : 0 ≤ e - p ∧ e - p ≤ 3) : 0 ≤ dvl T p (e - p).toNat ∧ dvl T p (e - p).toNat * p10 (3 - (e - p).toNat) ≤ 1000000 := by
  have d1 := dvl_b (T := T) (a := p) (e - p).toNat (fun j u v => by have := hd j u (by omega); rw [srt_iff] at this; omega)
  have pz : ∀ k : Nat, k ≤ 3 → p10 k = 1 ∨ p10 k = 10 ∨ p10 k = 100 ∨ p10 k = 1000 := fun k hk => by
    have : k = 0 ∨ k = 1 ∨ k = 2 ∨ k = 3 := by omega
    rcases this with rfl | rfl | rfl | rfl
    · exact Or.inl rfl
    · exact Or.inr (Or.inl rfl)
    · exact Or.inr (Or.inr (Or.inl rfl))
    · exact Or.inr (Or.inr (Or.inr rfl))
  have q1 := pz (e - p).toNat (by omega)
  have q2 := pz (3 - (e - p).toNat) (by omega)
  refine ⟨d1.1, ?_⟩
  rcases q2 with q2 | q2 | q2 | q2 <;> rw [q2] <;> omega
theorem u_num {a : Int} (h : mu D T n a) (hT : (nmb T n a).1 = 0 → K (wr (wr D 1977 47 (nmb T n a).2.2) 1977 58 (nmb T n a).2.1) 1) (hF : (nmb T n a).1 ≠ 0 → ∀ D', D' 1977 45 = (nmb T n a).1 → D' 1977 46 = (nmb T n a).2.2 → (∀ x j, x ≠ 1977 ∨ (j ≠ 45 ∧ j ≠ 46 ∧ j ≠ 47) → D' x j = D x j) → K D' 0) : WP sc 257 0 D [(0, (1211, 1977))] [] K E := by
  have c := h.2
  have srng : a ≤ nmS T n a ∧ nmS T n a ≤ n := by
    unfold nmS
    by_cases e : pb T n a = 45
    · rw [if_pos e]; have := pb_lt e (by omega); omega
    · rw [if_neg e]; omega
  have wrng := ru_b (s := 2) (T := T) (n := n) (a := nmS T n a) srng.2
  have win := ru_in (s := 2) (T := T) (n := n) (a := nmS T n a) srng.2
  have eS : nmS T n a = if pb T n a = 45 then a + 1 else a := rfl
  have eW : nmW T n a = ru 2 T n (nmS T n a) := rfl
  rw [← eW] at wrng win
  have fail : ∀ (b cd p : Int), (nmb T n a).1 = cd → (nmb T n a).2.2 = p → cd ≠ 0 → WP sc 251 0 (wr D 1977 47 b) [(0, (1211, 1977)), (1, (0, cd)), (2, (0, p))] [] (fun D1 r2 => tbl r2 (K D1 r2)) E := fun b cd p e1 e2 e3 => by
    refine u_fails (by rw [wr_ni (by omega)]; exact h.1.2.2) (hF (by rw [e1]; exact e3) _ ?_ ?_ ?_)
    · unfold fl; rw [wr_ni (by omega), wr_self, e1]
    · unfold fl; rw [wr_self, e2]
    · intro x j u
      unfold fl
      by_cases e : x = 1977
      · subst e; rw [wr_ni (by omega), wr_ni (by omega), wr_ni (by omega)]
      · rw [wr_ne e, wr_ne e, wr_ne e]
  have good : ∀ (x2 : Int) (j : Nat) (R : Int), ((x2 = 0 ∧ pb T n a ≠ 45) ∨ (x2 = 1 ∧ pb T n a = 45)) → j ≤ 3 → 0 ≤ R ∧ R * p10 j ≤ 1000000 → nmW T n a - nmS T n a ≤ 12 → nmb T n a = (0, if pb T n a = 45 then -nmV T n a else nmV T n a, nmR T n a) → nmV T n a = 1000 * dvl T (nmS T n a) (nmW T n a - nmS T n a).toNat + R * p10 j → WP sc 257 218 (wr D 1977 47 (nmR T n a)) [(0, (1211, 1977)), (2, (0, x2)), (3, (1, dvl T (nmS T n a) (dk 13 (nmW T n a - nmS T n a)))), (7, (1, R)), (9, (0, 3 - (j : Int)))] [] K E := fun x2 j R hx hj hR h12 en ev => by
    have vb := dvl_b (T := T) (a := nmS T n a) (nmW T n a - nmS T n a).toNat (fun j u v => by have := win j u (by omega); rw [srt_iff] at this; omega)
    have vp := p10_le (m := (nmW T n a - nmS T n a).toNat) (n := 12) (by omega)
    rw [show p10 12 = 1000000000000 from by decide] at vp
    have ed : dk 13 (nmW T n a - nmS T n a) = (nmW T n a - nmS T n a).toNat := by unfold dk; rw [if_pos (by omega)]
    rw [ed]
    refine u_n218 (by omega) j R hj hR ?_
    rw [← ev]
    rw [en] at hT
    have hT := hT rfl
    rcases hx with ⟨e1, e2⟩ | ⟨e1, e2⟩
    · rw [if_pos e1]
      rw [if_neg e2] at hT
      exact hT
    · rw [if_neg (by omega)]
      rw [if_pos e2] at hT
      exact hT
  have rest : ∀ (x2 : Int) (D1 : tD), D1 = wr D 1977 47 (nmS T n a) → ((x2 = 0 ∧ pb T n a ≠ 45) ∨ (x2 = 1 ∧ pb T n a = 45)) → WP sc 257 39 D1 [(0, (1211, 1977)), (1, (0, a)), (2, (0, x2)), (3, (1, 0)), (5, (0, 0))] [] K E := fun x2 D1 eD hx => by
    have h1 := mu_wr h (b := nmS T n a) ⟨by omega, srng.2⟩
    have g := u_n39 (sc := sc) (K := K) (E := E) (x1 := a) (x2 := x2) (s := nmS T n a) (w := nmW T n a) (D0 := wr D 1977 47 (nmS T n a)) ⟨by omega, srng.2⟩ h1 eW ?_ (n - nmS T n a).toNat (nmS T n a) (by omega) (by omega) (by omega)
    · rw [wr_wr, show nmS T n a - nmS T n a = 0 from by omega] at g
      rw [eD]
      exact g
    rw [wr_wr]
    by_cases z1 : nmW T n a = nmS T n a
    · rw [if_pos (by omega), wr_self]
      have e : nmb T n a = (1, 0, nmS T n a) := by unfold nmb; rw [if_pos z1]
      exact fail _ 1 _ (by rw [e]) (by rw [e, z1]) (by omega)
    rw [if_neg (by omega)]
    have h2 := mu_wr h (b := nmW T n a) ⟨by omega, wrng.2⟩
    refine u_peek h2 ?_
    by_cases e46 : pb T n (nmW T n a) = 46
    · rw [if_pos e46, wr_self, wr_wr]
      have wn := pb_lt e46 (by omega)
      rw [w32_id (x := nmW T n a + 1) (by omega) (by omega)]
      have h3 := mu_wr h (b := nmW T n a + 1) ⟨by omega, by omega⟩
      have eR : nmR T n a = ru 2 T n (nmW T n a + 1) := by unfold nmR; rw [if_pos e46]
      have rb := ru_b (s := 2) (T := T) (n := n) (a := nmW T n a + 1) (by omega)
      have rin := ru_in (s := 2) (T := T) (n := n) (a := nmW T n a + 1) (by omega)
      rw [← eR] at rb rin
      have g := u_n128 (sc := sc) (K := K) (E := E) (x1 := a) (x2 := x2) (x3 := dvl T (nmS T n a) (dk 13 (nmW T n a - nmS T n a))) (x5 := nmW T n a - nmS T n a) (s := nmW T n a + 1) (w := nmR T n a) (D0 := wr D 1977 47 (nmW T n a + 1)) ⟨by omega, by omega⟩ h3 eR ?_ (n - (nmW T n a + 1)).toNat (nmW T n a + 1) (by omega) (by omega) (by omega)
      · rw [wr_wr, show nmW T n a + 1 - (nmW T n a + 1) = 0 from by omega] at g
        exact g
      rw [wr_wr]
      by_cases z2 : nmR T n a = nmW T n a + 1
      · rw [if_pos (by omega), wr_self]
        have e : nmb T n a = (1, 0, nmR T n a) := by unfold nmb; rw [if_neg z1, if_pos ⟨e46, z2⟩]
        exact fail _ 1 _ (by rw [e]) (by rw [e]) (by omega)
      rw [if_neg (by omega)]
      have nb2 : ¬ (pb T n (nmW T n a) = 46 ∧ nmR T n a = nmW T n a + 1) := fun w => z2 w.2
      by_cases y1 : 12 < nmW T n a - nmS T n a
      · rw [if_pos y1]
        have e : nmb T n a = (11, 0, a) := by unfold nmb; rw [if_neg z1, if_neg nb2, if_pos (Or.inl y1)]
        exact fail _ 11 _ (by rw [e]) (by rw [e]) (by omega)
      rw [if_neg y1]
      by_cases y2 : 3 < nmR T n a - (nmW T n a + 1)
      · rw [if_pos y2]
        have e : nmb T n a = (11, 0, a) := by unfold nmb; rw [if_neg z1, if_neg nb2, if_pos (Or.inr ⟨e46, by omega⟩)]
        exact fail _ 11 _ (by rw [e]) (by rw [e]) (by omega)
      rw [if_neg y2]
      have ed : dk 3 (nmR T n a - (nmW T n a + 1)) = (nmR T n a - (nmW T n a + 1)).toNat := by unfold dk; rw [if_pos (by omega)]
      rw [ed]
      have d3 := dvl_le3 (T := T) (p := nmW T n a + 1) (e := nmR T n a) rin ⟨by omega, by omega⟩
      have g2 := good x2 (3 - (nmR T n a - (nmW T n a + 1)).toNat) _ hx (by omega) d3 (by omega) (by unfold nmb; rw [if_neg z1, if_neg nb2, if_neg (fun w => Or.elim w (fun w => y1 w) (fun w => by have := w.2; omega))]) (by unfold nmV; rw [if_pos e46, show nmR T n a - nmW T n a - 1 = nmR T n a - (nmW T n a + 1) from by omega])
      rw [show (3 : Int) - ((3 - (nmR T n a - (nmW T n a + 1)).toNat : Nat) : Int) = nmR T n a - (nmW T n a + 1) from by omega] at g2
      exact g2
    · rw [if_neg e46]
      have eR : nmR T n a = nmW T n a := by unfold nmR; rw [if_neg e46]
      have nb2 : ¬ (pb T n (nmW T n a) = 46 ∧ nmR T n a = nmW T n a + 1) := fun w => e46 w.1
      by_cases y1 : 12 < nmW T n a - nmS T n a
      · rw [if_pos y1]
        have e : nmb T n a = (11, 0, a) := by unfold nmb; rw [if_neg z1, if_neg nb2, if_pos (Or.inl y1)]
        exact fail _ 11 _ (by rw [e]) (by rw [e]) (by omega)
      rw [if_neg y1]
      have g2 := good x2 3 0 hx (by omega) ⟨by omega, by omega⟩ (by omega) (by unfold nmb; rw [if_neg z1, if_neg nb2, if_neg (fun w => Or.elim w (fun w => y1 w) (fun w => e46 w.1))]) (by unfold nmV; rw [if_neg e46, Int.zero_mul])
      rw [eR, show (3 : Int) - ((3 : Nat) : Int) = 0 from by omega] at g2
      exact g2
  refine v257_0 (u_peek h ?_)
  rw [h.1.1]
  by_cases e : pb T n a = 45
  · have := pb_lt e (by omega)
    rw [if_pos e, w32_id (by omega) (by omega)]
    exact rest 1 _ (by rw [eS, if_pos e]) (Or.inr ⟨rfl, e⟩)
  · rw [if_neg e]
    exact rest 0 _ (by rw [eS, if_neg e, wr_id h.1.1]) (Or.inl ⟨rfl, e⟩)
/-- escaped bytes -/
theorem u_esc1 {a1 : Int} {D0 : tD} (hT : (es T n a1).2.2 = true → ∀ D', D' 1977 47 = (es T n a1).1 → D' 1977 60 = ((es T n a1).2.1.length : Int) → atL D' 2015 0 (es T n a1).2.1 → (∀ b j, b ≠ 2015 → (b = 1977 → j ≠ 47 ∧ j ≠ 60) → D' b j = D0 b j) → K D' 1) (hF : (es T n a1).2.2 = false → ∀ D', D' 1977 45 = 1 → D' 1977 46 = (es T n a1).1 → (∀ b j, b ≠ 2015 → (b = 1977 → j ≠ 47 ∧ j ≠ 60 ∧ j ≠ 45 ∧ j ≠ 46) → D' b j = D0 b j) → K D' 0) : ∀ (m : Nat) (a : Int) (P : List Int) (D : tD), n - a ≤ (m : Int) → mu D T n a → (D 1977 60 = (P.length : Int) ∧ atL D 2015 0 P) → (∀ b j, b ≠ 2015 → (b = 1977 → j ≠ 47 ∧ j ≠ 60) → D b j = D0 b j) → ((es T n a).1, P ++ (es T n a).2.1, (es T n a).2.2) = es T n a1 → (P.length : Int) ≤ a → WP sc 256 5 D [(0, (1211, 1977))] [] K E := by
  intro m
  induction m with
  | zero =>
    intro a P D hm h hw hf he hl
    have c := h.2
    refine v256_5 (u_peek h ?_)
    rw [pb_out (by omega), if_pos (by omega)]
    have e : es T n a = (a, [], true) := by rw [es_eq (by omega), pb_out (by omega), if_pos (Or.inl (by omega))]
    rw [e] at he
    refine hT (by rw [← he]) D (by rw [← he]; exact h.1.1) ?_ ?_ hf
    · rw [← he]; show _ = ((P ++ []).length : Int); rw [List.append_nil]; exact hw.1
    · rw [← he]; show atL D 2015 0 (P ++ []); rw [List.append_nil]; exact hw.2
  | succ m ih =>
    intro a P D hm h hw hf he hl
    have c := h.2
    have e0 := es_eq (T := T) (n := n) (a := a) (by omega)
    have fin : es T n a = (a, [], true) → K D 1 := fun e => by
      rw [e] at he
      refine hT (by rw [← he]) D (by rw [← he]; exact h.1.1) ?_ ?_ hf
      · rw [← he]; show _ = ((P ++ []).length : Int); rw [List.append_nil]; exact hw.1
      · rw [← he]; show atL D 2015 0 (P ++ []); rw [List.append_nil]; exact hw.2
    refine v256_5 (u_peek h ?_)
    by_cases q1 : pb T n a < 32
    · rw [if_pos q1]; exact fin (by rw [e0, if_pos (Or.inl q1)])
    rw [if_neg q1]
    refine u_peek h ?_
    by_cases q2 : 126 < pb T n a
    · rw [if_pos q2]; exact fin (by rw [e0, if_pos (Or.inr (Or.inl q2))])
    rw [if_neg q2]
    refine u_peek h ?_
    by_cases q3 : pb T n a = 34
    · rw [if_pos q3]; exact fin (by rw [e0, if_pos (Or.inr (Or.inr q3))])
    rw [if_neg q3]
    rw [if_neg (by omega)] at e0
    have an : a < n := by
      by_cases z : a < n
      · exact z
      · rw [pb_out (by omega)] at q1; omega
    /- a byte more -/
    have more : ∀ (b v : Int) (D1 : tD), D1 = wr D 1977 47 b → a < b → b ≤ n → ((es T n b).1, P ++ [v] ++ (es T n b).2.1, (es T n b).2.2) = es T n a1 → (0 ≤ D1 1977 60 ∧ D1 1977 60 < 4000) ∧ WP sc 256 5 (wr (wr D1 2015 (D1 1977 60) v) 1977 60 (w32 ((wr D1 2015 (D1 1977 60) v) 1977 60 + 1))) [(0, (1211, 1977))] [] K E := fun b v D1 eD hb hb2 he2 => by
      subst eD
      rw [wr_ni (by omega), hw.1, wr_ne (by omega), wr_ni (by omega), hw.1, w32_id (by omega) (by omega)]
      refine ⟨by omega, ih b (P ++ [v]) _ (by omega) ?_ ?_ ?_ he2 ?_⟩
      · exact mu_to h ⟨by omega, hb2⟩ (by rw [wr_ni (by omega), wr_ne (by omega), wr_self]) (by rw [wr_ni (by omega), wr_ne (by omega), wr_ni (by omega)]) (by rw [wr_ni (by omega), wr_ne (by omega), wr_ni (by omega)]) (fun j => by rw [wr_ne (by omega), wr_ne (by omega), wr_ne (by omega)])
      · refine ⟨by rw [wr_self, List.length_append, List.length_singleton]; omega, ?_⟩
        rw [atL_app]
        refine ⟨atL_fr (fun j u v => by rw [wr_ne (by omega), wr_ni (by omega), wr_ne (by omega)]) hw.2, ?_, trivial⟩
        rw [wr_ne (by omega), show (0 : Int) + (P.length : Int) = (P.length : Int) from by omega, wr_self]
      · intro x j u w
        by_cases z : x = 1977
        · subst z
          have := w rfl
          rw [wr_ni (by omega), wr_ne (by omega), wr_ni (by omega)]
          exact hf _ _ u w
        · rw [wr_ne z, wr_ne u, wr_ne z]; exact hf _ _ u w
      · rw [List.length_append, List.length_singleton]; omega
    refine u_peek h ?_
    rw [h.1.1, w32_id (x := a + 1) (by omega) (by omega)]
    by_cases e2 : pb T n a = 92
    · rw [if_pos e2]
      rw [if_pos e2] at e0
      have h1 := mu_wr h (b := a + 1) ⟨by omega, by omega⟩
      refine u_peek h1 ?_
      rw [wr_self]
      have go : ∀ v, un (pb T n (a + 1)) = v → 0 ≤ v → (0 ≤ (wr (wr D 1977 47 (a + 1)) 1977 47 (w32 (a + 1 + 1))) 1977 60 ∧ (wr (wr D 1977 47 (a + 1)) 1977 47 (w32 (a + 1 + 1))) 1977 60 < 4000) ∧ (WP sc 256 5 (wr (wr (wr (wr D 1977 47 (a + 1)) 1977 47 (w32 (a + 1 + 1))) 2015 ((wr (wr D 1977 47 (a + 1)) 1977 47 (w32 (a + 1 + 1))) 1977 60) v) 1977 60 (w32 (((wr (wr (wr D 1977 47 (a + 1)) 1977 47 (w32 (a + 1 + 1))) 2015 ((wr (wr D 1977 47 (a + 1)) 1977 47 (w32 (a + 1 + 1))) 1977 60) v) 1977 60) + 1))) [(0, (1211, 1977))] [] K E) := fun v ev hv => by
        have an2 : a + 1 < n := by
          by_cases z : a + 1 < n
          · exact z
          · rw [pb_out (by omega)] at ev
            exact absurd (show un (-1) < 0 from by decide) (by omega)
        refine more (a + 2) v _ (by rw [wr_wr, w32_id (by omega) (by omega)]; rw [show a + 1 + 1 = a + 2 from by omega]) (by omega) (by omega) ?_
        rw [← he, e0, if_neg (by omega), ev]
        simp
      by_cases r1 : pb T n (a + 1) = 110
      · rw [if_pos r1, if_pos r1]; exact go 10 (by rw [r1]; rfl) (by omega)
      simp only [if_neg r1]
      by_cases r2 : pb T n (a + 1) = 34
      · rw [if_pos r2]; exact go _ (by rw [r2]; rfl) (by omega)
      rw [if_neg r2]
      by_cases r3 : pb T n (a + 1) = 92
      · rw [if_pos r3]; exact go _ (by rw [r3]; rfl) (by omega)
      rw [if_neg r3]
      have eu : un (pb T n (a + 1)) = -1 := by unfold un; rw [if_neg r1, if_neg r2, if_neg r3]
      rw [eu, if_pos (by omega)] at e0
      rw [e0] at he
      refine u_fails h1.1.2.2 (hF (by rw [← he]) _ ?_ ?_ ?_)
      · unfold fl; rw [wr_ni (by omega), wr_self]
      · unfold fl; rw [wr_self, ← he]
      · intro x j u w
        unfold fl
        by_cases z : x = 1977
        · subst z
          have := w rfl
          rw [wr_ni (by omega), wr_ni (by omega), wr_ni (by omega)]
          exact hf _ _ u (fun _ => ⟨this.1, this.2.1⟩)
        · rw [wr_ne z, wr_ne z, wr_ne z]; exact hf _ _ u (fun y => absurd y z)
    · rw [if_neg e2]
      rw [if_neg e2] at e0
      exact more (a + 1) (pb T n a) _ rfl (by omega) (by omega) (by rw [← he, e0]; simp)
theorem u_esc {a : Int} (h : mu D T n a) (hT : (es T n a).2.2 = true → ∀ D', D' 1977 47 = (es T n a).1 → D' 1977 60 = ((es T n a).2.1.length : Int) → atL D' 2015 0 (es T n a).2.1 → (∀ b j, b ≠ 2015 → (b = 1977 → j ≠ 47 ∧ j ≠ 60) → D' b j = D b j) → K D' 1) (hF : (es T n a).2.2 = false → ∀ D', D' 1977 45 = 1 → D' 1977 46 = (es T n a).1 → (∀ b j, b ≠ 2015 → (b = 1977 → j ≠ 47 ∧ j ≠ 60 ∧ j ≠ 45 ∧ j ≠ 46) → D' b j = D b j) → K D' 0) : WP sc 256 0 D [(0, (1211, 1977))] [] K E := by
  have c := h.2
  refine v256_0 ?_
  refine u_esc1 hT hF (n - a).toNat a [] _ (by omega) (mu_to h ⟨c.1.1, c.1.2.1⟩ (by rw [wr_ni (by omega)]; exact h.1.1) (wr_ni (by omega)) (wr_ni (by omega)) (fun j => wr_ne (by omega))) ⟨by rw [wr_self]; rfl, trivial⟩ (fun b j u v => ?_) (by rw [List.nil_append]) (by simp; omega)
  by_cases z : b = 1977
  · subst z; exact wr_ni (by have := v rfl; omega)
  · exact wr_ne z
end TOM
