/-! child: the other side -/
section MCH
variable {sc : Nat × (Nat → Int32)} {D D' : tD} {K : tD → Int → Prop} {E : tD → Nat → Prop} {c : Int}
def mcG (D : tD) (f : Int) (nF : List Int) (C S' : List (List Int)) : Prop := (0 ≤ f ∧ f < D 1979 0) ∧ ∃ S, tkP (D 1978) (D 1977 2) 0 3 [] S ∧ (¬ ∃ x ∈ S, xtP (D 1980 f) nF x) ∧ shP (D 1980 f) nF C S S' ∧ S'.length ≤ 3
theorem m_ch0 {f : Int} (hK : K (wr D 1977 0 1) 0) : WP sc 218 69 D [(0, (1211, 1977)), (1, (0, f)), (3, (0, 0))] [] K E := by
  refine v218_69 ?_
  rw [if_pos rfl]
  refine c_fails1 ?_
  rw [if_neg (by omega)]
  exact hK
/-- the first free place -/
theorem m_free {f : Int} (hfree : ∃ k, 0 ≤ k ∧ k < 24 ∧ D 1994 k ≠ 1) (hK : ∀ k, 0 ≤ k → k < 24 → D 1994 k = 0 → (∀ j, 0 ≤ j → j < k → D 1994 j ≠ 0) → WP sc 219 0 D [(0, (1211, 1977)), (1, (0, k)), (2, (0, f)), (3, (1, D 1977 3))] [] (fun D1 _ => K D1 k) E) : ∀ (m : Nat) (k : Int), 24 - k = (m : Int) → 0 ≤ k → (∀ j, 0 ≤ j → j < k → D 1994 j = 1) → WP sc 218 178 D [(0, (1211, 1977)), (1, (0, f)), (4, (0, k))] [] K E := by
  intro m
  induction m with
  | zero =>
    intro k hm hk h
    obtain ⟨q, q1, q2, q3⟩ := hfree
    exact absurd (h q q1 (by omega)) q3
  | succ m ih =>
    intro k hm hk h
    refine v218_178 ⟨by omega, fun h01 => ?_⟩
    by_cases e : D 1994 k = 0
    · rw [if_pos e]
      exact hK k hk (by omega) e (fun j u v => by rw [h j u v]; omega)
    · rw [if_neg e, w32_id (x := k + 1) (by omega) (by omega)]
      refine ih _ (by omega) (by omega) (fun j u v => ?_)
      by_cases g : j = k
      · rw [g]; omega
      · exact h j u (by omega)
theorem mcM_fr {D1 : tD} {f k : Int} {l : List Int} (h : ∀ a j, a < 2009 ∨ 2012 < a → a ≠ 1977 → D1 a j = D a j) : fcM D1 0 f l k ↔ fcM D 0 f l k := by
  unfold fcM isS
  rw [h 1994 _ (by omega) (by omega), h 1995 _ (by omega) (by omega), h 1998 _ (by omega) (by omega)]
  constructor
  · rintro ⟨a, b, d, e⟩
    exact ⟨a, b, d, atL_fr (fun j _ _ => (h _ _ (by omega) (by omega)).symm) e⟩
  · rintro ⟨a, b, d, e⟩
    exact ⟨a, b, d, atL_fr (fun j _ _ => h _ _ (by omega) (by omega)) e⟩
theorem m_ch1 {f : Int} {D0 : tD} {S' : List (List Int)} (hD : MX 1 D0 D) (hS : setIs D S'.flatten) (hl : S'.flatten.length ≤ 66) (hf : 0 ≤ f ∧ f < 8) (h66 : ∀ k, 0 ≤ k → k < 24 → D0 1994 k = 1 → D0 1998 k ≤ 66) (h22 : 0 ≤ D0 1977 22 ∧ D0 1977 22 ≤ 1000000) (h94 : ∀ k, 0 ≤ k → k < 24 → D0 1994 k = 0 ∨ D0 1994 k = 1)
    (hU : ∀ D2, MX 1 D0 D2 → D2 1977 0 = 2 → (D0 1980 f = 4 ∧ D0 1991 f = 0) → K D2 0)
    (hO : ∀ D2 r, MX 1 D0 D2 → D2 1977 0 = 0 → ¬ (D0 1980 f = 4 ∧ D0 1991 f = 0) → fstP (fcM D0 0 f S'.flatten) 24 r → 0 ≤ r → K D2 r)
    (hM : ∀ D2, MX 1 D0 D2 → D2 1977 0 = 3 → ¬ (D0 1980 f = 4 ∧ D0 1991 f = 0) → fstP (fcM D0 0 f S'.flatten) 24 (-1) → ¬ (sm (cofM D0 f) 48 < D0 1993 f ∧ sm (thM D0 0) 24 ≠ 24) → K D2 0)
    (hN : ∀ D2 k D3, MX 1 D0 D2 → D2 1977 0 = 0 → ¬ (D0 1980 f = 4 ∧ D0 1991 f = 0) → fstP (fcM D0 0 f S'.flatten) 24 (-1) → (sm (cofM D0 f) 48 < D0 1993 f ∧ sm (thM D0 0) 24 ≠ 24) → 0 ≤ k → k < 24 → D0 1994 k = 0 → (∀ j, 0 ≤ j → j < k → D0 1994 j ≠ 0) → mkP D2 D3 k f (D0 1977 3) S'.flatten → K D3 k) : WP sc 218 69 D [(0, (1211, 1977)), (1, (0, f)), (3, (0, 1))] [] K E := by
  have w1 := MX_w (t := 0) hD
  have w2 := MX_w (t := 0) w1
  have w3 := MX_w (t := 0) w2
  have fr : ∀ D2, MX 1 D0 D2 → ∀ a j, a < 2009 ∨ 2012 < a → a ≠ 1977 → D2 a j = D0 a j := fun D2 h a j u v => h.2.2 a j u (fun e => absurd e v)
  have set0 : ∀ D2 t, setIs D2 S'.flatten → setIs (wr D2 1977 0 t) S'.flatten := fun D2 t h => ⟨by rw [wr_ni (by omega)]; exact h.1, atL_fr (fun j u v => wr_ne (by omega)) h.2⟩
  /- from the search on -/
  have tail : ¬ (D0 1980 f = 4 ∧ D0 1991 f = 0) → WP sc 200 0 (wr (wr D 1977 0 0) 1977 0 0) [(0, (1211, 1977)), (1, (0, 0)), (2, (0, f))] [] (fun D28 r29 => if r29 < 0 then (WP sc 201 0 D28 [(0, (1211, 1977)), (1, (0, f))] [] (fun D31 r32 => (0 ≤ f ∧ f < 8) ∧ (if r32 < D31 1993 f then (WP sc 202 0 D31 [(0, (1211, 1977)), (1, (0, 0))] [] (fun D34 r35 => if r35 = 24 then (WP sc 167 0 D34 [(0, (1211, 1977)), (1, (0, 1)), (2, (0, 3))] [] (fun D37 r38 => if r38 = 0 then (WP sc 218 178 D37 [(0, (1211, 1977)), (1, (0, f)), (4, (0, 0))] [] K E) else (K D37 0)) (fun D37 e => E D37 e)) else (WP sc 167 0 D34 [(0, (1211, 1977)), (1, (0, 0)), (2, (0, 3))] [] (fun D40 r41 => if r41 = 0 then (WP sc 218 178 D40 [(0, (1211, 1977)), (1, (0, f)), (4, (0, 0))] [] K E) else (K D40 0)) (fun D40 e => E D40 e))) (fun D34 e => E D34 e)) else (WP sc 167 0 D31 [(0, (1211, 1977)), (1, (0, 1)), (2, (0, 3))] [] (fun D43 r44 => if r44 = 0 then (WP sc 218 178 D43 [(0, (1211, 1977)), (1, (0, f)), (4, (0, 0))] [] K E) else (K D43 0)) (fun D43 e => E D43 e)))) (fun D31 e => E D31 e)) else (K D28 r29)) (fun D28 e => E D28 e) := fun hst => by
    have f2 := fr _ w2
    refine m_finds (s := 0) (l := S'.flatten) (Or.inl rfl) (set0 _ _ (set0 _ _ hS)) (fun k u v w => ?_) (fun r hr => ?_)
    · rw [show 24 * (0 : Int) + k = k from by omega] at w ⊢
      rw [f2 1994 _ (by omega) (by omega)] at w
      rw [f2 1998 _ (by omega) (by omega)]
      exact h66 k u v w
    · have hr' : fstP (fcM D0 0 f S'.flatten) 24 r := by
        rcases hr with ⟨q1, q2⟩ | ⟨q1, q2, q3, q4⟩
        · exact Or.inl ⟨q1, fun k u v => fun w => q2 k u v ((mcM_fr f2).mpr w)⟩
        · exact Or.inr ⟨q1, q2, (mcM_fr f2).mp q3, fun k u v w => q4 k u v ((mcM_fr f2).mpr w)⟩
      by_cases rm : r = -1
      · rw [if_pos rm, if_pos (by omega)]
        rw [rm] at hr'
        refine m_chOf ⟨hf, ?_⟩
        have ec : ∀ D2, MX 1 D0 D2 → sm (cofM D2 f) 48 = sm (cofM D0 f) 48 := fun D2 h => sm_ext (fun k u v => by
          unfold cofM
          rw [fr D2 h 1994 k (by omega) (by omega), fr D2 h 1995 k (by omega) (by omega)])
        have et : ∀ D2, MX 1 D0 D2 → sm (thM D2 0) 24 = sm (thM D0 0) 24 := fun D2 h => sm_ext (fun k u v => by
          unfold thM
          rw [fr D2 h 1994 _ (by omega) (by omega)])
        rw [ec _ w2, f2 1993 f (by omega) (by omega)]
        by_cases m1 : sm (cofM D0 f) 48 < D0 1993 f
        · rw [if_pos m1]
          refine m_chIn (s := 0) (Or.inl rfl) ?_
          rw [et _ w2]
          by_cases m2 : sm (thM D0 0) 24 = 24
          · rw [if_pos m2]
            refine c_fails1 ?_
            rw [if_neg (by omega)]
            exact hM _ (MX_w w2) wr_self hst hr' (fun q => q.2 m2)
          · rw [if_neg m2]
            refine c_fails0 ?_
            rw [if_pos rfl]
            have f3 := fr _ w3
            have s3 := set0 _ 0 (set0 _ 0 (set0 _ 0 hS))
            refine m_free ?_ (fun k p1 p2 p3 p4 => ?_) 24 0 (by omega) (by omega) (fun j u v => by omega)
            · refine Classical.byContradiction (fun q => m2 ?_)
              have : sm (thM D0 0) 24 = sm (fun _ => 1) 24 := sm_ext (fun k u v => by
                unfold thM
                rw [show 24 * (0 : Int) + k = k from by omega]
                refine if_pos (Classical.byContradiction (fun q2 => q ⟨k, u, by omega, ?_⟩))
                rw [f3 1994 _ (by omega) (by omega)]
                exact q2)
              rw [this]; rfl
            · rw [f3 1994 _ (by omega) (by omega)] at p3
              have e3 : wr (wr (wr D 1977 0 0) 1977 0 0) 1977 0 0 1977 3 = D0 1977 3 := w3.2.2 _ _ (by omega) (by omega)
              have e22 : wr (wr (wr D 1977 0 0) 1977 0 0) 1977 0 0 1977 22 = D0 1977 22 := w3.2.2 _ _ (by omega) (by omega)
              rw [e3]
              exact m_makes (by omega) (by omega) s3 hl (by rw [e22]; exact h22) (fun D3 g => hN _ k D3 w3 wr_self hst hr' ⟨m1, m2⟩ p1 p2 p3 (fun j u v => by rw [← f3 1994 j (by omega) (by omega)]; exact p4 j u v) g)
        · rw [if_neg m1]
          refine c_fails1 ?_
          rw [if_neg (by omega)]
          exact hM _ (MX_w w2) wr_self hst hr' (fun q => m1 q.1)
      · have r0 : 0 ≤ r := by rcases hr with q | q <;> omega
        rw [if_neg rm, if_neg (by omega), show 24 * (0 : Int) + r = r from by omega]
        exact hO _ r w2 wr_self hst hr' r0
  refine v218_69 ?_
  rw [if_neg (by omega)]
  refine c_fails0 ?_
  rw [if_pos rfl, fr _ w1 1980 f (by omega) (by omega), fr _ w1 1991 f (by omega) (by omega)]
  refine ⟨by omega, ?_⟩
  by_cases k4 : D0 1980 f = 4
  · rw [if_pos k4]
    refine ⟨by omega, ?_⟩
    by_cases k7 : D0 1991 f = 0
    · rw [if_pos k7]
      refine c_fails1 ?_
      rw [if_neg (by omega)]
      exact hU _ (MX_w w1) wr_self ⟨k4, k7⟩
    · rw [if_neg k7]
      refine c_fails0 ?_
      rw [if_pos rfl]
      exact tail (fun q => k7 q.2)
  · rw [if_neg k4]
    refine c_fails0 ?_
    rw [if_pos rfl]
    exact tail (fun q => k4 q.1)
theorem m_child {f : Int} {nF : List Int} {C : List (List Int)} (hbt : ∀ j, 0 ≤ j → j < D 1977 2 → 0 ≤ D 1978 j ∧ D 1978 j ≤ 255) (hN4 : 0 ≤ D 1977 2 ∧ D 1977 2 ≤ 4000) (h19 : 0 ≤ D 1979 0 ∧ D 1979 0 ≤ 8) (hn : 0 ≤ f ∧ f < D 1979 0 → nmM D f nF) (hC : D 1977 35 = (C.flatten.length : Int) ∧ atL D 2008 0 C.flatten ∧ C.length ≤ 1 ∧ ∀ x ∈ C, lbl x) (h66 : ∀ k, 0 ≤ k → k < 24 → D 1994 k = 1 → D 1998 k ≤ 66) (h22 : 0 ≤ D 1977 22 ∧ D 1977 22 ≤ 1000000) (h94 : ∀ k, 0 ≤ k → k < 24 → D 1994 k = 0 ∨ D 1994 k = 1)
    (hB : ∀ D2, MX 1 D D2 → D2 1977 0 = 1 → (¬ ∃ S', mcG D f nF C S') → K D2 0)
    (hU : ∀ D2 S', MX 1 D D2 → D2 1977 0 = 2 → mcG D f nF C S' → (D 1980 f = 4 ∧ D 1991 f = 0) → K D2 0)
    (hO : ∀ D2 S' r, MX 1 D D2 → D2 1977 0 = 0 → mcG D f nF C S' → ¬ (D 1980 f = 4 ∧ D 1991 f = 0) → fstP (fcM D 0 f S'.flatten) 24 r → 0 ≤ r → K D2 r)
    (hM : ∀ D2 S', MX 1 D D2 → D2 1977 0 = 3 → mcG D f nF C S' → ¬ (D 1980 f = 4 ∧ D 1991 f = 0) → fstP (fcM D 0 f S'.flatten) 24 (-1) → ¬ (sm (cofM D f) 48 < D 1993 f ∧ sm (thM D 0) 24 ≠ 24) → K D2 0)
    (hN : ∀ D2 S' k D3, MX 1 D D2 → D2 1977 0 = 0 → mcG D f nF C S' → ¬ (D 1980 f = 4 ∧ D 1991 f = 0) → fstP (fcM D 0 f S'.flatten) 24 (-1) → (sm (cofM D f) 48 < D 1993 f ∧ sm (thM D 0) 24 ≠ 24) → 0 ≤ k → k < 24 → D 1994 k = 0 → (∀ j, 0 ≤ j → j < k → D 1994 j ≠ 0) → mkP D2 D3 k f (D 1977 3) S'.flatten → K D3 k) : WP sc 218 0 D [(0, (1211, 1977)), (1, (0, f))] [] K E := by
  have l9 : ln 2009 = 132 := rfl
  have mx : ∀ D1, frM D D1 → MX 1 D (wr D1 1977 2 0) := fun D1 h => ⟨fun e => by omega, fun _ => wr_self, fun a j u v => by
    by_cases e : a = 1977
    · rw [e, wr_ni (v e).2.1, ← e, h a j u (fun _ => (v e).1)]
    · rw [wr_ne e, h a j u (fun q => absurd q e)]⟩
  have mxS : ∀ D1 D2, MX 1 D D1 → frS D1 D2 → MX 1 D D2 := fun D1 D2 h g => ⟨fun e => by omega, fun _ => by rw [g _ _ (by omega) (fun _ => by omega)]; exact h.2.1 (by omega), fun a j u v => by rw [g a j (by omega) (fun e => (v e).1), h.2.2 a j u v]⟩
  refine v218_0 (m_marks (lab := 3) hbt rfl hN4 (by omega) (fun S D1 h1 h2 h3 => ?_) (fun D1 h1 h3 => ?_))
  · have lS := tkP_len h1
    have hlb := tkP_lbl h1
    have lf := fl_le S hlb
    have g2 : 2 * S.length ≤ S.flatten.length := by
      have : ∀ (S : List (List Int)), (∀ x ∈ S, lbl x) → 2 * S.length ≤ S.flatten.length := by
        intro S
        induction S with
        | nil => intro _; simp
        | cons x S ih =>
          intro h
          have := ih (fun y hy => h y (List.mem_cons_of_mem _ hy))
          have := lbl_len (h x List.mem_cons_self)
          rw [List.flatten_cons, List.length_append, List.length_cons]
          omega
      exact this S hlb
    rw [if_neg (by omega)]
    have hD := mx D1 h3
    have hs : setIs (wr D1 1977 2 0) S.flatten := ⟨by rw [wr_ni (by omega)]; exact h2.1, atL_fr (fun j u v => wr_ne (by omega)) h2.2⟩
    have fr : ∀ D2, MX 1 D D2 → ∀ a j, a < 2009 ∨ 2012 < a → a ≠ 1977 → D2 a j = D a j := fun D2 h a j u v => h.2.2 a j u (fun e => absurd e v)
    refine c_isFam (by rw [fr _ hD _ _ (by omega) (by omega)]; exact h19) (fun hf => ?_) (fun hf => ?_)
    · rw [fr _ hD 1979 _ (by omega) (by omega)] at hf
      have hf1 := hf.1
      have nM : nmM (wr D1 1977 2 0) f nF := by
        rcases hn hf1 with q | ⟨q1, q2, q3, q4, q5, q6⟩
        · exact Or.inl q
        · exact Or.inr ⟨q1, q2, by rw [fr _ hD _ _ (by omega) (by omega)]; exact q3, q4, atL_fr (fun j u v => fr _ hD _ _ (by omega) (by omega)) q5, q6⟩
      rw [if_neg (by omega)]
      refine m_allMay hs hlb (by omega) (by omega) nM (fun g => ?_) (fun g => ?_)
      · rw [fr _ hD 1980 _ (by omega) (by omega)] at g
        rw [if_neg (by omega)]
        have hC' : (wr D1 1977 2 0) 1977 35 = (C.flatten.length : Int) ∧ atL (wr D1 1977 2 0) 2008 0 C.flatten ∧ C.length ≤ 1 ∧ ∀ x ∈ C, lbl x := ⟨by rw [hD.2.2 _ _ (by omega) (by omega)]; exact hC.1, atL_fr (fun j u v => fr _ hD _ _ (by omega) (by omega)) hC.2.1, hC.2.2⟩
        refine m_shares hs hlb (by omega) hC' (by omega) nM (fun S' D2 s1 s2 s3 => ?_)
        rw [fr _ hD 1980 _ (by omega) (by omega)] at s1
        have hD2 := mxS _ _ hD s3
        have lb' := shP_lbl s1 hC.2.2.2 hlb
        have lS' : S'.length ≤ S.length + 1 := by
          rcases s1 with ⟨_, q⟩ | ⟨y, _, ⟨_, q⟩ | ⟨_, ⟨_, q⟩ | q⟩⟩
          · rw [q]; omega
          · rw [q]; omega
          · rw [q]; omega
          · have := (insL_len q).1; omega
        have lf' := fl_le S' lb'
        rw [s2.1]
        refine m_labelsOf s2.2 lb' (by omega) ?_
        by_cases e4 : (S'.length : Int) < 4
        · rw [if_pos e4]
          have hG : mcG D f nF C S' := ⟨hf1, S, h1, g, s1, by omega⟩
          exact m_ch1 hD2 s2 (by omega) (by omega) h66 h22 h94 (fun D3 q1 q2 q3 => hU D3 S' q1 q2 hG q3) (fun D3 r q1 q2 q3 q4 q5 => hO D3 S' r q1 q2 hG q3 q4 q5) (fun D3 q1 q2 q3 q4 q5 => hM D3 S' q1 q2 hG q3 q4 q5) (fun D3 k D4 q1 q2 q3 q4 q5 q6 q7 q8 q9 q10 => hN D3 S' k D4 q1 q2 hG q3 q4 q5 q6 q7 q8 q9 q10)
        · rw [if_neg e4]
          refine m_ch0 (hB _ (MX_w hD2) wr_self (fun ⟨S2, _, S3, q1, _, q3, q4⟩ => ?_))
          rw [tkP_uni q1 h1] at q3
          rw [shP_uni q3 s1] at q4
          omega
      · rw [fr _ hD 1980 _ (by omega) (by omega)] at g
        rw [if_pos rfl]
        refine m_ch0 (hB _ (MX_w hD) wr_self (fun ⟨S2, _, S3, q1, q2, _⟩ => ?_))
        rw [tkP_uni q1 h1] at q2
        exact q2 g
    · rw [fr _ hD 1979 _ (by omega) (by omega)] at hf
      rw [if_pos rfl]
      exact m_ch0 (hB _ (MX_w hD) wr_self (fun ⟨S2, q, _⟩ => hf ⟨q, Or.inl (by omega)⟩))
  · rw [if_pos (by omega)]
    exact m_ch0 (hB _ (MX_w (mx D1 h3)) wr_self (fun ⟨S2, _, S3, q1, _⟩ => h1 ⟨S3, q1⟩))
end MCH
