/-! the other side: the labels by rising names -/
section SOR
variable {sc : Nat × (Nat → Int32)} {D : tD} {K : tD → Int → Prop} {E : tD → Nat → Prop}
def setIs (D : tD) (l : List Int) : Prop := D 1977 37 = (l.length : Int) ∧ atL D 2009 0 l
def frS (D D' : tD) : Prop := ∀ a j, a ≠ 2009 → (a = 1977 → j ≠ 37) → D' a j = D a j
theorem frS_tr {D D' D'' : tD} (h : frS D D') (h' : frS D' D'') : frS D D'' := fun a j u v => by rw [h' a j u v, h a j u v]
theorem m_lay {b : Int} {l : List Int} (hs : setIs D l) (hl : l.length < 132) (hK : ∀ D', setIs D' (l ++ [b]) → frS D D' → K D' 0) : WP sc 192 0 D [(0, (1211, 1977)), (1, (0, b))] [] K E := by
  obtain ⟨h1, h2⟩ := hs
  refine v192_0 ⟨by omega, ?_⟩
  rw [wr_ne (by omega), h1, w32_id (by omega) (by omega)]
  refine hK _ ⟨?_, ?_⟩ (fun a j u v => ?_)
  · rw [wr_self, List.length_append]; simp
  · rw [atL_app]
    refine ⟨atL_fr (fun j u v => by rw [wr_ne (by omega), wr_ni (by omega)]) h2, ?_, trivial⟩
    rw [wr_ne (by omega), show (0 : Int) + (l.length : Int) = (l.length : Int) from by omega, wr_self]
  · by_cases e : a = 1977
    · rw [wr_ni (v e), wr_ne u]
    · rw [wr_ne e, wr_ne u]
/-- what the arrays hold -/
def srtH (D : tD) (x : Int → List Int) (N n : Int) : Prop := (∀ j, 0 ≤ j → j < N → 0 ≤ D 1978 j ∧ D 1978 j ≤ 255) ∧ N ≤ 4000 ∧ (0 ≤ n ∧ n ≤ 3) ∧ ∀ i, 0 ≤ i → i < n → sgI D N i ∧ xI D i = x i
theorem srtH_fr {D D' : tD} {x : Int → List Int} {N n : Int} (h : frS D D') (hx : srtH D x N n) : srtH D' x N n := by
  have e1 : D' 1978 = D 1978 := funext (fun j => h _ _ (by omega) (by omega))
  have e2 : D' 2010 = D 2010 := funext (fun j => h _ _ (by omega) (by omega))
  have e3 : D' 2011 = D 2011 := funext (fun j => h _ _ (by omega) (by omega))
  have e4 : D' 2012 = D 2012 := funext (fun j => h _ _ (by omega) (by omega))
  unfold srtH sgI xI at *
  rw [e1, e2, e3, e4]
  exact hx
theorem m_laid {x : Int → List Int} {N n r i : Int} {l : List Int} (hi : 0 ≤ i ∧ i < n) {D0 : tD} (hgo : ∀ D', frS D0 D' → setIs D' (l ++ x i) → WP sc 191 14 D' [(0, (1211, 1977)), (1, (0, n)), (2, (0, r)), (3, (0, i + 1))] [] K E) (hl : l.length + (x i).length ≤ 132) : ∀ (c : Nat) (D : tD) (p : Int) (m : List Int), frS D0 D → srtH D x N n → setIs D (l ++ m) → 0 ≤ p → D 2012 i - p = (c : Int) → x i = m ++ spn (D 1978) p (c + 1) → WP sc 191 92 D [(0, (1211, 1977)), (1, (0, n)), (2, (0, r)), (3, (0, i)), (5, (0, p))] [] K E := by
  intro c
  induction c with
  | zero =>
    intro D p m h0 hx hs hp hc he
    have sg := (hx.2.2.2 i hi.1 hi.2).1
    have hN := hx.2.1
    have hn := hx.2.2.1
    have s1 := sg.1
    have ll : (x i).length = m.length + 1 := by rw [he, List.length_append, spn_len]
    refine v191_92 ⟨by omega, ?_⟩
    rw [if_neg (by omega), w32_id (by omega) (by omega)]
    refine m_lay hs (by rw [List.length_append]; omega) (fun D' u v => hgo D' (frS_tr h0 v) ?_)
    rw [he]
    have : spn (D 1978) p 1 = [2] := by
      show [D 1978 p] = [2]
      rw [show p = D 2012 i from by omega]
      exact congrArg (fun z => [z]) sg.2.2.1
    rw [show (0 : Nat) + 1 = 1 from rfl, this, ← List.append_assoc]
    exact u
  | succ c ih =>
    intro D p m h0 hx hs hp hc he
    have sg := (hx.2.2.2 i hi.1 hi.2).1
    have hN := hx.2.1
    have hn := hx.2.2.1
    have s1 := sg.1
    have ll : (x i).length = m.length + (c + 1 + 1) := by rw [he, List.length_append, spn_len]
    refine v191_92 ⟨by omega, ?_⟩
    rw [if_pos (by omega), w32_id (by omega) (by omega)]
    refine ⟨by omega, m_lay hs (by rw [List.length_append]; omega) (fun D' u v => ?_)⟩
    have e1 : D' 1978 = D 1978 := funext (fun j => v _ _ (by omega) (by omega))
    refine ih D' (p + 1) (m ++ [D 1978 p]) (frS_tr h0 v) (srtH_fr v hx) (by rw [← List.append_assoc]; exact u) (by omega) (by rw [v 2012 i (by omega) (by omega)]; omega) ?_
    rw [he, e1, List.append_assoc]
    rfl
def bel (x : Int → List Int) (n : Nat) (i : Int) : Int := sm (fun k => if ncmp (x k) (x i) < 0 then 1 else 0) n
theorem m_below {x : Int → List Int} {N r i : Int} {n : Nat} (hx : srtH D x N (n : Int)) (hi : 0 ≤ i ∧ i < (n : Int)) (hr : 0 ≤ r ∧ r ≤ 3) (hF : (∃ k, 0 ≤ k ∧ k < (n : Int) ∧ k ≠ i ∧ ncmp (x k) (x i) = 0) → K D 0)
    (hgo : (∀ k, 0 ≤ k → k < (n : Int) → k ≠ i → ncmp (x k) (x i) ≠ 0) → (if bel x n i = r then ((0 ≤ i ∧ i < 8) ∧ (WP sc 191 92 D [(0, (1211, 1977)), (1, (0, (n : Int))), (2, (0, r)), (3, (0, i)), (5, (0, D 2010 i))] [] K E)) else (WP sc 191 14 D [(0, (1211, 1977)), (1, (0, (n : Int))), (2, (0, r)), (3, (0, i + 1))] [] K E))) :
    ∀ (c k : Nat), c + k = n → (∀ j, 0 ≤ j → j < (k : Int) → j ≠ i → ncmp (x j) (x i) ≠ 0) → WP sc 191 25 D [(0, (1211, 1977)), (1, (0, (n : Int))), (2, (0, r)), (3, (0, i)), (4, (0, bel x k i)), (5, (0, (k : Int)))] [] K E := by
  have hn := hx.2.2.1
  intro c
  induction c with
  | zero =>
    intro k hk hj
    have : k = n := by omega
    subst this
    refine v191_25 ?_
    rw [if_neg (by omega), w32_id (x := i + 1) (by omega) (by omega)]
    exact hgo hj
  | succ c ih =>
    intro k hk hj
    have hk3 : (k : Int) < (n : Int) := by omega
    have bb : 0 ≤ bel x k i ∧ bel x k i ≤ (k : Int) := by
      have := sm_bound (g := fun k => if ncmp (x k) (x i) < 0 then 1 else 0) (a := 0) (b := 1) (n := k) (fun j u v => by split <;> omega)
      unfold bel
      omega
    have nx : bel x (k + 1) i = bel x k i + (if ncmp (x (k : Int)) (x i) < 0 then 1 else 0) := rfl
    have hsk := hx.2.2.2 (k : Int) (by omega) hk3
    have hsi := hx.2.2.2 i hi.1 hi.2
    refine v191_25 ?_
    rw [if_pos hk3, w32_id (x := (k : Int) + 1) (by omega) (by omega), w32_id (x := bel x k i + 1) (by omega) (by omega), w32_id (x := bel x k i + 0) (by omega) (by omega)]
    have step : (ncmp (x (k : Int)) (x i) ≠ 0 ∨ (k : Int) = i) → ∀ d : Int, (d < 0 ↔ ncmp (xI D (k : Int)) (xI D i) < 0) → (if d < 0 then (WP sc 191 25 D [(0, (1211, 1977)), (1, (0, (n : Int))), (2, (0, r)), (3, (0, i)), (4, (0, bel x k i + 1)), (5, (0, (k : Int) + 1))] [] K E) else (WP sc 191 25 D [(0, (1211, 1977)), (1, (0, (n : Int))), (2, (0, r)), (3, (0, i)), (4, (0, bel x k i + 0)), (5, (0, (k : Int) + 1))] [] K E)) := fun hne d hd => by
      rw [hsk.2, hsi.2] at hd
      have hh := ih (k + 1) (by omega) (fun j u v w => by
        by_cases e : j = (k : Int)
        · subst e
          rcases hne with h | h
          · exact h
          · exact absurd h w
        · exact hj j u (by omega) w)
      rw [nx] at hh
      rw [show ((k + 1 : Nat) : Int) = (k : Int) + 1 from by omega] at hh
      split
      · rename_i hlt
        rw [if_pos (hd.mp hlt)] at hh
        exact hh
      · rename_i hge
        rw [if_neg (fun w => hge (hd.mpr w))] at hh
        exact hh
    split
    · rename_i e
      exact m_cmp hx.1 hx.2.1 (by omega) (by omega) hsk.1 hsi.1 (fun d d1 d2 => step (Or.inr e) d d1)
    · rename_i e
      refine m_cmp hx.1 hx.2.1 (by omega) (by omega) hsk.1 hsi.1 (fun d d1 d2 => ?_)
      rw [hsk.2, hsi.2] at d2
      split
      · rename_i d0
        exact hF ⟨(k : Int), by omega, hk3, e, d2.mp d0⟩
      · rename_i d0
        exact m_cmp hx.1 hx.2.1 (by omega) (by omega) hsk.1 hsi.1 (fun d' d1' d2' => step (Or.inl (fun w => d0 (d2.mpr w))) d' d1')
/-- those of one rank; all ranks -/
def pk (x : Int → List Int) (b : Int → Int) (r : Int) : Nat → List Int
  | 0 => []
  | c + 1 => pk x b r c ++ (if b (c : Int) = r then x (c : Int) else [])
def rk (x : Int → List Int) (b : Int → Int) (n : Nat) : Nat → List Int
  | 0 => []
  | r + 1 => rk x b n r ++ pk x b (r : Int) n
theorem sm_plus {f g : Int → Int} : ∀ {n : Nat}, sm f n + sm g n = sm (fun k => f k + g k) n := by
  intro n
  induction n with
  | zero => rfl
  | succ n ih => rw [sm_succ, sm_succ, sm_succ, ← ih]; omega
theorem pkk_len {x : Int → List Int} {b : Int → Int} {r : Int} : ∀ {c : Nat}, ((pk x b r c).length : Int) = sm (fun i => if b i = r then ((x i).length : Int) else 0) c := by
  intro c
  induction c with
  | zero => rfl
  | succ c ih =>
    rw [sm_succ, ← ih, pk, List.length_append]
    split <;> simp
theorem rk_len {x : Int → List Int} {b : Int → Int} {n : Nat} (h0 : ∀ k : Int, 0 ≤ k → k < (n : Int) → 0 ≤ b k) : ∀ {r : Nat}, ((rk x b n r).length : Int) = sm (fun i => if b i < (r : Int) then ((x i).length : Int) else 0) n := by
  intro r
  induction r with
  | zero =>
    show (0 : Int) = _
    rw [sm_z]
    intro k u v
    show (if _ then _ else _) = _
    have := h0 k u v
    rw [if_neg (by omega)]
  | succ r ih =>
    unfold rk
    rw [List.length_append, Int.natCast_add, ih, pkk_len, sm_plus]
    refine sm_ext (fun k u v => ?_)
    by_cases c1 : b k < (r : Int)
    · rw [if_pos c1, if_neg (by omega), if_pos (by omega)]; omega
    · by_cases c2 : b k = (r : Int)
      · rw [if_neg c1, if_pos c2, if_pos (by omega)]; omega
      · rw [if_neg c1, if_neg c2, if_neg (by omega)]; rfl
theorem rk_le {x : Int → List Int} {b : Int → Int} {n : Nat} (h0 : ∀ k : Int, 0 ≤ k → k < (n : Int) → 0 ≤ b k) (hl : ∀ k : Int, 0 ≤ k → k < (n : Int) → (x k).length ≤ 22) (r : Nat) : (rk x b n r).length ≤ 22 * n := by
  have h1 := rk_len (x := x) (b := b) (n := n) h0 (r := r)
  have h2 := sm_bound (g := fun i => if b i < (r : Int) then ((x i).length : Int) else 0) (a := 0) (b := 22) (n := n) (fun k u v => by
    have := hl k u v
    split <;> omega)
  omega
theorem pkk_le {x : Int → List Int} {b : Int → Int} {r : Int} {c : Nat} : ∀ {d : Nat}, (pk x b r c).length ≤ (pk x b r (c + d)).length := by
  intro d
  induction d with
  | zero => exact Nat.le_refl _
  | succ d ih =>
    rw [show c + (d + 1) = (c + d) + 1 from rfl]
    have : (pk x b r (c + d + 1)).length = (pk x b r (c + d)).length + (if b ((c + d : Nat) : Int) = r then x ((c + d : Nat) : Int) else []).length := by
      rw [pk, List.length_append]
    omega
def dupX (x : Int → List Int) (n : Nat) : Prop := ∃ i k : Int, 0 ≤ i ∧ i < (n : Int) ∧ 0 ≤ k ∧ k < (n : Int) ∧ k ≠ i ∧ ncmp (x k) (x i) = 0
theorem m_sorts {x : Int → List Int} {N : Int} {n : Nat} (hx : srtH D x N (n : Int)) (hl : ∀ k : Int, 0 ≤ k → k < (n : Int) → (x k).length ≤ 22) (hT : ∀ D', ¬ dupX x n → frS D D' → setIs D' (rk x (bel x n) n n) → K D' 1) (hF : ∀ D', dupX x n → frS D D' → K D' 0) : WP sc 191 0 D [(0, (1211, 1977)), (1, (0, (n : Int)))] [] K E := by
  have hn := hx.2.2.1
  have h0 : ∀ k : Int, 0 ≤ k → k < (n : Int) → 0 ≤ bel x n k := fun k u v => by
    have := sm_bound (g := fun j => if ncmp (x j) (x k) < 0 then 1 else 0) (a := 0) (b := 1) (n := n) (fun j u v => by split <;> omega)
    unfold bel
    omega
  have inner : ∀ (r : Nat) (hr : r < n) (hgo : ∀ D', (∀ i k : Int, 0 ≤ i → i < (n : Int) → 0 ≤ k → k < (n : Int) → k ≠ i → ncmp (x k) (x i) ≠ 0) → frS D D' → setIs D' (rk x (bel x n) n (r + 1)) → WP sc 191 7 D' [(0, (1211, 1977)), (1, (0, (n : Int))), (2, (0, (r : Int) + 1))] [] K E) (c : Nat) (i : Nat) (D1 : tD), c + i = n → (∀ i' k : Int, 0 ≤ i' → i' < (i : Int) → 0 ≤ k → k < (n : Int) → k ≠ i' → ncmp (x k) (x i') ≠ 0) → frS D D1 → setIs D1 (rk x (bel x n) n r ++ pk x (bel x n) (r : Int) i) → WP sc 191 14 D1 [(0, (1211, 1977)), (1, (0, (n : Int))), (2, (0, (r : Int))), (3, (0, (i : Int)))] [] K E := by
    intro r hr hgo c
    induction c with
    | zero =>
      intro i D1 hi hd hf hs
      have : i = n := by omega
      subst this
      refine v191_14 ?_
      rw [if_neg (by omega), w32_id (by omega) (by omega)]
      exact hgo D1 (fun i k a b d e f => hd i k a b d e f) hf hs
    | succ c ih =>
      intro i D1 hi hd hf hs
      have hin : (i : Int) < (n : Int) := by omega
      have hx1 := srtH_fr hf hx
      refine v191_14 ?_
      rw [if_pos hin]
      refine m_below (x := x) (N := N) (n := n) hx1 ⟨by omega, hin⟩ (by omega) (fun ⟨k, k1, k2, k3, k4⟩ => hF D1 ⟨(i : Int), k, by omega, hin, k1, k2, k3, k4⟩ hf) (fun hnd => ?_) n 0 (by omega) (fun j u v => by omega)
      have hd' : ∀ i' k : Int, 0 ≤ i' → i' < ((i + 1 : Nat) : Int) → 0 ≤ k → k < (n : Int) → k ≠ i' → ncmp (x k) (x i') ≠ 0 := fun i' k a b d e f => by
        by_cases z : i' = (i : Int)
        · subst z; exact hnd k d e f
        · exact hd i' k a (by omega) d e f
      have pe : pk x (bel x n) (r : Int) (i + 1) = pk x (bel x n) (r : Int) i ++ (if bel x n (i : Int) = (r : Int) then x (i : Int) else []) := rfl
      split
      · rename_i hb
        refine ⟨by omega, ?_⟩
        have hsi := hx1.2.2.2 (i : Int) (by omega) hin
        have s1 := hsi.1.1
        rw [if_pos hb] at pe
        have ln1 : (rk x (bel x n) n r ++ pk x (bel x n) (r : Int) i).length + (x (i : Int)).length ≤ 132 := by
          have q1 := rk_le h0 hl (r + 1)
          have q2 : (rk x (bel x n) n (r + 1)).length = (rk x (bel x n) n r).length + (pk x (bel x n) (r : Int) n).length := by rw [rk, List.length_append]
          have q3 := pkk_le (x := x) (b := bel x n) (r := (r : Int)) (c := i + 1) (d := c)
          rw [show i + 1 + c = n from by omega, pe, List.length_append] at q3
          rw [List.length_append]
          omega
        refine m_laid (x := x) (N := N) (n := (n : Int)) (D0 := D) (l := rk x (bel x n) n r ++ pk x (bel x n) (r : Int) i) ⟨by omega, hin⟩ (fun D' u v => ?_) ln1 (D1 2012 (i : Int) - D1 2010 (i : Int)).toNat D1 (D1 2010 (i : Int)) [] hf hx1 (by rw [List.append_nil]; exact hs) (by omega) (by omega) ?_
        · have := ih (i + 1) D' (by omega) hd' u (by rw [pe, ← List.append_assoc]; exact v)
          rw [show ((i + 1 : Nat) : Int) = (i : Int) + 1 from by omega] at this
          exact this
        · rw [← hsi.2, List.nil_append]
          unfold xI
          rw [show (D1 2012 (i : Int) + 1 - D1 2010 (i : Int)).toNat = (D1 2012 (i : Int) - D1 2010 (i : Int)).toNat + 1 from by omega]
      · rename_i hb
        rw [if_neg hb, List.append_nil] at pe
        have := ih (i + 1) D1 (by omega) hd' hf (by rw [pe]; exact hs)
        rw [show ((i + 1 : Nat) : Int) = (i : Int) + 1 from by omega] at this
        exact this
  have outer : ∀ (c r : Nat) (D1 : tD), c + r = n → (∀ i k : Int, 0 < r → 0 ≤ i → i < (n : Int) → 0 ≤ k → k < (n : Int) → k ≠ i → ncmp (x k) (x i) ≠ 0) → frS D D1 → setIs D1 (rk x (bel x n) n r) → WP sc 191 7 D1 [(0, (1211, 1977)), (1, (0, (n : Int))), (2, (0, (r : Int)))] [] K E := by
    intro c
    induction c with
    | zero =>
      intro r D1 hc hd hf hs
      have : r = n := by omega
      subst this
      refine v191_7 ?_
      rw [if_neg (by omega)]
      refine hT D1 (fun ⟨i, k, a, b, d, e, f, g⟩ => ?_) hf hs
      exact hd i k (by omega) a b d e f g
    | succ c ih =>
      intro r D1 hc hd hf hs
      refine v191_7 ?_
      rw [if_pos (by omega)]
      have := inner r (by omega) (fun D' hnd u v => by
        have := ih (r + 1) D' (by omega) (fun i k _ a b d e f => hnd i k a b d e f) u v
        rw [show ((r + 1 : Nat) : Int) = (r : Int) + 1 from by omega] at this
        exact this) n 0 D1 (by omega) (fun i' k a b => by omega) hf (by rw [pk, List.append_nil]; exact hs)
      exact this
  refine v191_0 ?_
  exact outer n 0 _ (by omega) (fun i k a => by omega) (fun a j u v => by
    by_cases e : a = 1977
    · rw [wr_ni (v e)]
    · rw [wr_ne e]) ⟨by rw [wr_self]; rfl, trivial⟩
end SOR
