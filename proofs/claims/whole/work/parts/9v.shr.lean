/-! the common label put in, the other side; labels counted -/
section SHR
variable {sc : Nat × (Nat → Int32)} {D D' : tD} {K : tD → Int → Prop} {E : tD → Nat → Prop} {c : Int}
/-- the set with the common label -/
def shP (kd : Int) (nF : List Int) (C S S' : List (List Int)) : Prop := (C = [] ∧ S' = S) ∨ ∃ y, C = [y] ∧ ((xtP kd nF y ∧ S' = S) ∨ (¬ xtP kd nF y ∧ ((insL y S = none ∧ S' = S) ∨ insL y S = some S')))
theorem shP_uni {kd : Int} {nF : List Int} {C S S1 S2 : List (List Int)} (h1 : shP kd nF C S S1) (h2 : shP kd nF C S S2) : S1 = S2 := by
  rcases h1 with ⟨a, b⟩ | ⟨y, a, b⟩
  · rcases h2 with ⟨a', b'⟩ | ⟨y', a', b'⟩
    · rw [b, b']
    · rw [a] at a'; exact absurd a' (by simp)
  · rcases h2 with ⟨a', b'⟩ | ⟨y', a', b'⟩
    · rw [a] at a'; exact absurd a' (by simp)
    · rw [a] at a'
      injection a' with a' _
      subst a'
      rcases b with ⟨b, e⟩ | ⟨b, e⟩
      · rcases b' with ⟨b', e'⟩ | ⟨b', e'⟩
        · rw [e, e']
        · exact absurd b b'
      · rcases b' with ⟨b', e'⟩ | ⟨b', e'⟩
        · exact absurd b' b
        · rcases e with ⟨e, f⟩ | e
          · rcases e' with ⟨e', f'⟩ | e'
            · rw [f, f']
            · rw [e] at e'; exact absurd e' (by simp)
          · rcases e' with ⟨e', f'⟩ | e'
            · rw [e] at e'; exact absurd e' (by simp)
            · rw [e] at e'; injection e'
/-- where the label goes -/
theorem ins_some {y : List Int} : ∀ {S pre suf : List (List Int)}, S = pre ++ suf → (∀ x ∈ pre, 0 < ncmp y x) → (suf = [] ∨ ∃ x t, suf = x :: t ∧ ncmp y x < 0) → insL y S = some (pre ++ y :: suf) := by
  intro S pre
  induction pre generalizing S with
  | nil =>
    intro suf h _ h2
    rw [List.nil_append] at h
    subst h
    rcases h2 with h2 | ⟨x, t, h2, h3⟩
    · subst h2; rfl
    · subst h2
      rw [insL, if_neg (by omega), if_pos h3]; rfl
  | cons z pre ih =>
    intro suf h h1 h2
    have hz := h1 z List.mem_cons_self
    have := ih (S := pre ++ suf) rfl (fun x hx => h1 x (List.mem_cons_of_mem _ hx)) h2
    rw [h, List.cons_append, insL, if_neg (by omega), if_neg (by omega), this]
    rfl
theorem ins_none {y : List Int} : ∀ {S pre suf : List (List Int)} {x : List Int}, S = pre ++ x :: suf → (∀ x ∈ pre, 0 < ncmp y x) → ncmp y x = 0 → insL y S = none := by
  intro S pre
  induction pre generalizing S with
  | nil =>
    intro suf x h _ h2
    rw [h, List.nil_append, insL, if_pos h2]
  | cons z pre ih =>
    intro suf x h h1 h2
    have hz := h1 z List.mem_cons_self
    have := ih (S := pre ++ x :: suf) rfl (fun x hx => h1 x (List.mem_cons_of_mem _ hx)) h2
    rw [h, List.cons_append, insL, if_neg (by omega), if_neg (by omega), this]
    rfl
/-- two names compared -/
theorem m_shcmp {at' : Int} {x y : List Int} (hrx : ∀ b ∈ x, 1 ≤ b ∧ b ≤ 126) (hry : ∀ b ∈ y, 1 ≤ b ∧ b ≤ 126) (hxa : atL D 2009 at' x) (hya : atL D 2008 0 y) (hx : 0 ≤ at' ∧ at' + (x.length : Int) ≤ 132) (hy : y.length ≤ 22)
    (h0 : ncmp y x = 0 → K D 0) (hlt : ncmp y x < 0 → WP sc 198 119 D [(0, (1211, 1977)), (2, (0, at')), (3, (0, w32 ((D 1977 37) - 1)))] [] K E) (hgt : 0 < ncmp y x → WP sc 193 0 D [(0, (1000, 2009)), (1, (0, at'))] [] (fun D1 r2 => WP sc 198 23 D1 [(0, (1211, 1977)), (2, (0, r2))] [] K E) E) : ∀ (y' x' p : List Int), y = p ++ y' → x = p ++ x' → ncmp y x = ncmp y' x' → 1 ∈ y' → 1 ∈ x' → WP sc 198 36 D [(0, (1211, 1977)), (2, (0, at')), (3, (0, 0)), (4, (0, (p.length : Int)))] [] K E := by
  intro y'
  induction y' with
  | nil => intro x' p _ _ _ h; simp at h
  | cons b y' ih =>
    intro x' p ey ex en h1 h2
    cases x' with
    | nil => simp at h2
    | cons a x' =>
      have ly : y.length = p.length + (y'.length + 1) := by rw [ey, List.length_append, List.length_cons]
      have lx : x.length = p.length + (x'.length + 1) := by rw [ex, List.length_append, List.length_cons]
      have hb : D 2008 (p.length : Int) = b := by
        rw [ey, atL_app] at hya
        have := hya.2.1
        rw [show (0 : Int) + (p.length : Int) = (p.length : Int) from by omega] at this
        exact this
      have ha : D 2009 (at' + (p.length : Int)) = a := by
        rw [ex, atL_app] at hxa
        exact hxa.2.1
      have rb := hry b (by rw [ey]; simp)
      have ra := hrx a (by rw [ex]; simp)
      have step : ¬ (b = 1 ∧ a = 1) → WP sc 198 36 D [(0, (1211, 1977)), (2, (0, at')), (3, (0, w32 (a - b))), (4, (0, (p.length : Int) + 1))] [] K E := fun g => by
        rw [w32_id (by omega) (by omega)]
        by_cases e : a = b
        · subst e
          rw [show a - a = 0 from by omega]
          have := ih x' (p ++ [a]) (by rw [ey]; simp) (by rw [ex]; simp) (by rw [en, ncmp, if_neg (by omega), if_neg (by omega), if_neg (by omega)]) (by
            rcases List.mem_cons.mp h1 with h | h
            · omega
            · exact h) (by
            rcases List.mem_cons.mp h2 with h | h
            · omega
            · exact h)
          rw [List.length_append, List.length_singleton, show ((p.length + 1 : Nat) : Int) = (p.length : Int) + 1 from by omega] at this
          exact this
        · refine v198_36 ?_
          rw [if_neg (by omega), if_neg (by omega)]
          by_cases g2 : 0 < a - b
          · rw [if_pos g2]
            exact hlt (by rw [en, ncmp, if_pos (by omega)]; omega)
          · rw [if_neg g2]
            exact hgt (by rw [en, ncmp, if_neg (by omega), if_pos (by omega)]; omega)
      refine v198_36 ?_
      rw [if_pos rfl, w32_id (x := at' + (p.length : Int)) (by omega) (by omega), hb, ha, w32_id (x := (p.length : Int) + 1) (by omega) (by omega)]
      refine ⟨by omega, ?_⟩
      by_cases e1 : b = 1
      · rw [if_pos e1]
        refine ⟨by omega, ?_⟩
        by_cases e2 : a = 1
        · rw [if_pos e2, if_pos rfl]
          exact h0 (by rw [en, ncmp, if_neg (by omega), if_neg (by omega), if_pos e1])
        · rw [if_neg e2]
          exact ⟨by omega, by omega, step (fun g => e2 g.2)⟩
      · rw [if_neg e1]
        exact ⟨by omega, by omega, step (fun g => e1 g.1)⟩
/-- the bytes behind move on -/
theorem m_shmove {at' n m : Int} {D0 : tD} (hn : 0 ≤ n ∧ n ≤ 22) (hm : 0 ≤ at' ∧ at' ≤ m ∧ m + n ≤ 132) (hK : ∀ D', (∀ a j, a ≠ 2009 → D' a j = D0 a j) → (∀ j, 0 ≤ j → j < at' → D' 2009 j = D0 2009 j) → (∀ j, at' ≤ j → j < m → D' 2009 (j + n) = D0 2009 j) → WP sc 198 149 D' [(0, (1211, 1977)), (2, (0, at')), (3, (0, 0))] [] K E) (h35 : D0 1977 35 = n) : ∀ (q : Nat) (k : Int) (D : tD), k - at' + 1 = (q : Int) → k < m → (∀ a j, a ≠ 2009 → D a j = D0 a j) → (∀ j, j ≤ k → D 2009 j = D0 2009 j) → (∀ j, k < j → j < m → D 2009 (j + n) = D0 2009 j) → WP sc 198 119 D [(0, (1211, 1977)), (2, (0, at')), (3, (0, k))] [] K E := by
  intro q
  induction q with
  | zero =>
    intro k D hk hm2 h1 h2 h3
    refine v198_119 ?_
    rw [if_pos (by omega)]
    exact hK D h1 (fun j u v => h2 j (by omega)) (fun j u v => h3 j (by omega) v)
  | succ q ih =>
    intro k D hk hm2 h1 h2 h3
    refine v198_119 ?_
    rw [if_neg (by omega), h1 1977 35 (by omega), h35, w32_id (x := k + n) (by omega) (by omega), w32_id (x := k + -1) (by omega) (by omega)]
    refine ⟨by omega, by omega, ih _ _ (by omega) (by omega) (fun a j u => by rw [wr_ne u, h1 a j u]) (fun j u => by rw [wr_ni (by omega), h2 j (by omega)]) (fun j u v => ?_)⟩
    by_cases e : j = k
    · rw [e, wr_self, h2 k (by omega)]
    · rw [wr_ni (by omega), h3 j (by omega) v]
theorem m_shcopy {at' n : Int} {D0 : tD} (hn : 0 ≤ n ∧ n ≤ 22) (hm : 0 ≤ at' ∧ at' + n ≤ 132) (hs : 0 ≤ D0 1977 37 ∧ D0 1977 37 ≤ 132) (hK : ∀ D', (∀ a j, a ≠ 2009 → (a = 1977 → j ≠ 37) → D' a j = D0 a j) → D' 1977 37 = D0 1977 37 + n → (∀ j, 0 ≤ j → j < at' → D' 2009 j = D0 2009 j) → (∀ j, 0 ≤ j → j < n → D' 2009 (at' + j) = D0 2008 j) → (∀ j, at' + n ≤ j → D' 2009 j = D0 2009 j) → K D' 0) (h35 : D0 1977 35 = n) : ∀ (q : Nat) (k : Int) (D : tD), n - k = (q : Int) → 0 ≤ k → (∀ a j, a ≠ 2009 → D a j = D0 a j) → (∀ j, 0 ≤ j → j < at' → D 2009 j = D0 2009 j) → (∀ j, 0 ≤ j → j < k → D 2009 (at' + j) = D0 2008 j) → (∀ j, at' + n ≤ j → D 2009 j = D0 2009 j) → WP sc 198 149 D [(0, (1211, 1977)), (2, (0, at')), (3, (0, k))] [] K E := by
  intro q
  induction q with
  | zero =>
    intro k D hk h0 h1 h2 h3 h4
    refine v198_149 ?_
    rw [h1 1977 35 (by omega), h1 1977 37 (by omega), h35, if_neg (by omega), w32_id (by omega) (by omega)]
    refine hK _ (fun a j u v => ?_) wr_self (fun j u v => by rw [wr_ne (by omega), h2 j u v]) (fun j u v => by rw [wr_ne (by omega), h3 j u (by omega)]) (fun j u => by rw [wr_ne (by omega), h4 j u])
    by_cases e : a = 1977
    · rw [e, wr_ni (v e), h1 _ _ (by omega)]
    · rw [wr_ne e, h1 a j u]
  | succ q ih =>
    intro k D hk h0 h1 h2 h3 h4
    refine v198_149 ?_
    rw [h1 1977 35 (by omega), h35, if_pos (by omega), w32_id (x := at' + k) (by omega) (by omega), w32_id (x := k + 1) (by omega) (by omega)]
    refine ⟨by omega, by omega, ih _ _ (by omega) (by omega) (fun a j u => by rw [wr_ne u, h1 a j u]) (fun j u v => by rw [wr_ni (by omega), h2 j u v]) (fun j u v => ?_) (fun j u => by rw [wr_ni (by omega), h4 j u])⟩
    by_cases e : j = k
    · rw [e, wr_self, h1 2008 _ (by omega)]
    · rw [wr_ni (by omega), h3 j u (by omega)]
/-- from a place on: the label is put in there -/
theorem m_shput {y : List Int} {pre suf : List (List Int)} (hS : setIs D (pre ++ suf).flatten) (hl : (pre ++ suf).flatten.length + y.length ≤ 132) (hy : y.length ≤ 22) (h35 : D 1977 35 = (y.length : Int)) (hya : atL D 2008 0 y) (hK : ∀ D', setIs D' (pre ++ y :: suf).flatten → frS D D' → K D' 0) : WP sc 198 119 D [(0, (1211, 1977)), (2, (0, (pre.flatten.length : Int))), (3, (0, w32 ((D 1977 37) - 1)))] [] K E := by
  obtain ⟨s1, s2⟩ := hS
  have fl : (pre ++ suf).flatten.length = pre.flatten.length + suf.flatten.length := by rw [List.flatten_append, List.length_append]
  rw [List.flatten_append, atL_app, show (0 : Int) + (pre.flatten.length : Int) = (pre.flatten.length : Int) from by omega] at s2
  rw [s1, w32_id (by omega) (by omega)]
  refine m_shmove (at' := (pre.flatten.length : Int)) (n := (y.length : Int)) (m := (pre.flatten.length : Int) + (suf.flatten.length : Int)) (by omega) (by omega) (fun D1 f1 f2 f3 => ?_) h35 suf.flatten.length _ D (by omega) (by omega) (fun _ _ _ => rfl) (fun _ _ => rfl) (fun j u v => by omega)
  refine m_shcopy (n := (y.length : Int)) (by omega) (by omega) (by rw [f1 _ _ (by omega), s1]; omega) (fun D2 g1 g2 g3 g4 g5 => ?_) (by rw [f1 _ _ (by omega)]; exact h35) y.length 0 D1 (by omega) (by omega) (fun _ _ _ => rfl) (fun _ _ _ => rfl) (fun j u v => by omega) (fun _ _ => rfl)
  refine hK D2 ⟨?_, ?_⟩ (fun a j u v => by rw [g1 a j u v, f1 a j u])
  · rw [g2, f1 _ _ (by omega), s1, List.flatten_append, List.flatten_append, List.flatten_cons, List.length_append, List.length_append, List.length_append]
    omega
  · rw [List.flatten_append, List.flatten_cons, atL_app, atL_app, show (0 : Int) + (pre.flatten.length : Int) = (pre.flatten.length : Int) from by omega]
    refine ⟨atL_fr (fun j u v => by rw [g3 j u (by omega), f2 j u (by omega)]) s2.1, atL_mov (fun j u v => ?_) hya, atL_mov (fun j u v => ?_) s2.2⟩
    · rw [g4 j u v, f1 2008 _ (by omega), show (0 : Int) + j = j from by omega]
    · rw [show (pre.flatten.length : Int) + (y.length : Int) + j = (pre.flatten.length : Int) + j + (y.length : Int) from by omega, g5 _ (by omega), f3 _ (by omega) (by omega)]
theorem m_shares1 {y : List Int} {S : List (List Int)} (hS : setIs D S.flatten) (hl : ∀ x ∈ S, lbl x) (hl2 : S.flatten.length + y.length ≤ 132) (hy : lbl y) (h35 : D 1977 35 = (y.length : Int)) (hya : atL D 2008 0 y) (hT : ∀ S' D', insL y S = some S' → setIs D' S'.flatten → frS D D' → K D' 0) (hN : insL y S = none → K D 0) : ∀ (suf pre : List (List Int)), S = pre ++ suf → (∀ x ∈ pre, 0 < ncmp y x) → WP sc 198 23 D [(0, (1211, 1977)), (2, (0, (pre.flatten.length : Int)))] [] K E := by
  have ln9 : ln 2009 = 132 := rfl
  have hyl := lbl_len hy
  intro suf
  induction suf with
  | nil =>
    intro pre hp h
    refine v198_23 ?_
    rw [hS.1, show S.flatten.length = pre.flatten.length from by rw [hp, List.append_nil], if_neg (by omega)]
    have := m_shput (sc := sc) (D := D) (K := K) (E := E) (y := y) (pre := pre) (suf := []) (by rw [← hp]; exact hS) (by rw [← hp]; exact hl2) hyl.2 h35 hya (fun D' g1 g2 => hT _ D' (ins_some hp h (Or.inl rfl)) g1 g2)
    rw [hS.1, show S.flatten.length = pre.flatten.length from by rw [hp, List.append_nil]] at this
    exact this
  | cons x suf ih =>
    intro pre hp h
    have fl : S.flatten.length = pre.flatten.length + (x.length + suf.flatten.length) := by rw [hp, List.flatten_append, List.length_append, List.flatten_cons, List.length_append]
    have hx : lbl x := hl x (by rw [hp]; simp)
    have hxl := lbl_len hx
    have hxa : atL D 2009 (pre.flatten.length : Int) x := by
      have l3 := hS.2
      rw [hp, List.flatten_append, List.flatten_cons, atL_app, atL_app] at l3
      rw [show (0 : Int) + (pre.flatten.length : Int) = (pre.flatten.length : Int) from by omega] at l3
      exact l3.2.1
    refine v198_23 ?_
    rw [hS.1, if_pos (by omega)]
    refine m_shcmp (lbl_rng hx) (lbl_rng hy) hxa hya (by omega) hyl.2 (fun g => hN (ins_none hp h g)) (fun g => ?_) (fun g => ?_) y x [] (by simp) (by simp) rfl (lbl_1 hy) (lbl_1 hx)
    · exact m_shput (pre := pre) (suf := x :: suf) (by rw [← hp]; exact hS) (by rw [← hp]; exact hl2) hyl.2 h35 hya (fun D' g1 g2 => hT _ D' (ins_some hp h (Or.inr ⟨x, suf, rfl, g⟩)) g1 g2)
    · refine m_behind hx hxa (by omega) ?_
      have := ih (pre ++ [x]) (by rw [hp]; simp) (fun z hz => by
        rcases List.mem_append.mp hz with hz | hz
        · exact h z hz
        · rw [List.mem_singleton.mp hz]; exact g)
      have e1 : (((pre ++ [x]).flatten.length : Nat) : Int) = (pre.flatten.length : Int) + (x.length : Int) := by rw [List.flatten_append, List.flatten_cons, List.flatten_nil, List.length_append, List.append_nil]; omega
      rw [e1] at this
      exact this
theorem m_shares {f : Int} {nF : List Int} {C S : List (List Int)} (hS : setIs D S.flatten) (hl : ∀ x ∈ S, lbl x) (hl2 : S.flatten.length ≤ 110) (hC : D 1977 35 = (C.flatten.length : Int) ∧ atL D 2008 0 C.flatten ∧ C.length ≤ 1 ∧ ∀ x ∈ C, lbl x) (hf : 0 ≤ f ∧ f < 16) (hF : nmM D f nF) (hK : ∀ S' D', shP (D 1980 f) nF C S S' → setIs D' S'.flatten → frS D D' → K D' 0) : WP sc 198 0 D [(0, (1211, 1977)), (1, (0, f))] [] K E := by
  have ln8 : ln 2008 = 22 := rfl
  obtain ⟨c1, c2, c3, c4⟩ := hC
  refine v198_0 ?_
  match C, c1, c2, c3, c4 with
  | [], c1, c2, c3, c4 =>
    rw [if_pos (by rw [c1]; rfl)]
    exact hK S D (Or.inl ⟨rfl, rfl⟩) hS (fun _ _ _ _ => rfl)
  | [y], c1, c2, c3, c4 =>
    have hy : lbl y := c4 y (by simp)
    have hyl := lbl_len hy
    rw [show [y].flatten = y from by simp] at c1 c2
    rw [if_neg (by omega)]
    refine m_mayHave hy c2 (by omega) hf hF (fun g => ?_) (fun g => ?_)
    · rw [if_neg (by omega)]
      exact m_shares1 hS hl (by omega) hy c1 c2 (fun S' D' i1 i2 i3 => hK S' D' (Or.inr ⟨y, rfl, Or.inr ⟨g, Or.inr i1⟩⟩) i2 i3) (fun i1 => hK S D (Or.inr ⟨y, rfl, Or.inr ⟨g, Or.inl ⟨i1, rfl⟩⟩⟩) hS (fun _ _ _ _ => rfl)) S [] (by simp) (fun x hx => by simp at hx)
    · rw [if_pos rfl]
      exact hK S D (Or.inr ⟨y, rfl, Or.inl ⟨g, rfl⟩⟩) hS (fun _ _ _ _ => rfl)
  | _ :: _ :: _, _, _, c3, _ => simp at c3
/-- labels counted by the ends of their texts -/
theorem m_labelsOf1 {a o : Int} {l : List Int} (ha : atL D a o l) (hl : 0 ≤ o ∧ o + (l.length : Int) ≤ ln a ∧ ln a ≤ 20000) (hK : K D (l.count 2 : Int)) : ∀ (t p : List Int), l = p ++ t → WP sc 194 5 D [(0, (1000, a)), (1, (0, o)), (2, (0, (l.length : Int))), (3, (0, (p.count 2 : Int))), (4, (0, o + (p.length : Int)))] [] K E := by
  intro t
  induction t with
  | nil =>
    intro p h
    rw [List.append_nil] at h
    subst h
    refine v194_5 ?_
    rw [w32_id (x := o + (l.length : Int)) (by omega) (by omega), if_neg (by omega)]
    exact hK
  | cons b t ih =>
    intro p h
    have ll : l.length = p.length + (t.length + 1) := by rw [h, List.length_append, List.length_cons]
    have hb : D a (o + (p.length : Int)) = b := by
      rw [h, atL_app] at ha
      exact ha.2.1
    have cl : p.count 2 ≤ p.length := List.count_le_length
    have go := ih (p ++ [b]) (by rw [h]; simp)
    rw [List.length_append, List.length_singleton, List.count_append, List.count_singleton, show o + ((p.length + 1 : Nat) : Int) = o + (p.length : Int) + 1 from by omega] at go
    refine v194_5 ?_
    rw [w32_id (x := o + (l.length : Int)) (by omega) (by omega), if_pos (by omega), hb, w32_id (x := o + (p.length : Int) + 1) (by omega) (by omega), w32_id (x := (p.count 2 : Int) + 1) (by omega) (by omega), w32_id (x := (p.count 2 : Int) + 0) (by omega) (by omega)]
    refine ⟨by omega, ?_⟩
    by_cases e : b = 2
    · rw [if_pos e]
      rw [if_pos (by simp [e])] at go
      rw [show ((p.count 2 + 1 : Nat) : Int) = (p.count 2 : Int) + 1 from by omega] at go
      exact go
    · rw [if_neg e]
      rw [if_neg (by simpa using e)] at go
      exact go
theorem lbl_c2 {x : List Int} (h : lbl x) : x.count 2 = 1 := by
  obtain ⟨y, rfl, n2⟩ := lbl_2 h
  rw [List.count_append, List.count_eq_zero.mpr (fun g => n2 2 g rfl)]
  rfl
theorem fl_c2 : ∀ (S : List (List Int)), (∀ x ∈ S, lbl x) → S.flatten.count 2 = S.length := by
  intro S
  induction S with
  | nil => intro _; rfl
  | cons x S ih =>
    intro h
    rw [List.flatten_cons, List.count_append, lbl_c2 (h x List.mem_cons_self), ih (fun y hy => h y (List.mem_cons_of_mem _ hy)), List.length_cons]
    omega
theorem m_labelsOf {S : List (List Int)} {a o : Int} (ha : atL D a o S.flatten) (hS : ∀ x ∈ S, lbl x) (hl : 0 ≤ o ∧ o + (S.flatten.length : Int) ≤ ln a ∧ ln a ≤ 20000) (hK : K D (S.length : Int)) : WP sc 194 0 D [(0, (1000, a)), (1, (0, o)), (2, (0, (S.flatten.length : Int)))] [] K E := by
  have := m_labelsOf1 (sc := sc) (K := K) (E := E) ha hl (by rw [fl_c2 S hS]; exact hK) S.flatten [] (by simp)
  rw [show o + (([] : List Int).length : Int) = o from by simp] at this
  exact v194_0 this
end SHR
