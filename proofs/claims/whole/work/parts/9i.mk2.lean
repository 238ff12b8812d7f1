/-! the other side: marks, whole -/
section MK2
variable {sc : Nat × (Nat → Int32)} {D : tD} {K : tD → Int → Prop} {E : tD → Nat → Prop}
theorem frM_tr {D D' D'' : tD} (h : frM D D') (h' : frM D' D'') : frM D D'' := fun a j u v => by rw [h' a j u v, h a j u v]
theorem m_marks1 {D0 : tD} {N : Int} {lab : Nat} (hb : ∀ j, 0 ≤ j → j < N → 0 ≤ D0 1978 j ∧ D0 1978 j ≤ 255) (hN : D0 1977 2 = N) (hN4 : 0 ≤ N ∧ N ≤ 4000) (hlab : lab ≤ 3) (hT : ∀ S D', tkP (D0 1978) N 0 (lab : Int) [] S → setIs D' S.flatten → frM D0 D' → K D' ((S.flatten.length : Int) - 2 * (S.length : Int))) (hF : ∀ D', (¬ ∃ S, tkP (D0 1978) N 0 (lab : Int) [] S) → frM D0 D' → K D' (-1)) :
    ∀ (c : Nat) (g : List (Int × Int)) (D : tD), c + g.length = lab → frM D0 D → prsQ (D0 1978) N g 0 → arrG D g 0 0 → WP sc 190 7 D [(0, (1211, 1977)), (1, (0, (lab : Int))), (2, (0, (g.length : Int))), (3, (0, endG g 0)), (4, (0, bytG g 0))] [] K E := by
  have fin : ∀ (g : List (Int × Int)) (D : tD), g.length ≤ lab → frM D0 D → prsQ (D0 1978) N g 0 → arrG D g 0 0 → endG g 0 = N → WP sc 191 0 D [(0, (1211, 1977)), (1, (0, (g.length : Int)))] [] (fun D1 r2 => if r2 = 0 then (K D1 (-1)) else (K D1 (bytG g 0))) (fun D1 e2 => E D1 e2) := fun g D hg hf hp ha he => by
    have t8 : D 1978 = D0 1978 := funext (fun j => hf _ _ (by omega) (by omega))
    have hp' : prsQ (D 1978) N g 0 := by rw [t8]; exact hp
    obtain ⟨s1, s2⟩ := arrG_sg ha hp'
    rw [t8] at s2
    have hl : ∀ k : Int, 0 ≤ k → k < (g.length : Int) → lbl (xI D k) := fun k u v => segT_lbl (s1 k u (by omega))
    have hx : srtH D (xI D) N (g.length : Int) := ⟨fun j u v => by rw [t8]; exact hb j u v, hN4.2, by omega, fun i u v => ⟨s1 i u (by omega), rfl⟩⟩
    have hfr : ∀ D', frS D D' → frM D0 D' := fun D' h => frM_tr hf (fun a j u v => h a j (by omega) v)
    refine m_sorts (N := N) (n := g.length) hx (fun k u v => (lbl_len (hl k u v)).2) (fun D' hd hfs hs => ?_) (fun D' hd hfs => ?_)
    · rw [if_neg (by omega)]
      obtain ⟨S, S1, S2⟩ := sort_some (n := g.length) (by omega) (fun i u v => lbl_1 (hl i u v)) hd
      rw [← s2] at S1
      have l1 := insAll_len S1
      have l2 := labs_len hp
      have := hT S D' ⟨g, prsT_of hp he, by omega, S1⟩ (by rw [S2]; exact hs) (hfr D' hfs)
      have z1 : S.length = g.length := by rw [l1.1, l2.1]; simp
      have z2 : (S.flatten.length : Int) = bytG g 0 + 2 * (g.length : Int) := by rw [l1.2, ← l2.2]; simp
      rw [z2, z1, show bytG g 0 + 2 * (g.length : Int) - 2 * (g.length : Int) = bytG g 0 from by omega] at this
      exact this
    · rw [if_pos rfl]
      refine hF D' (fun ⟨S, g', g1, g2, g3⟩ => ?_) (hfr D' hfs)
      obtain ⟨r, r1, r2⟩ := prs_pre hp g1
      rw [he] at r2
      cases r with
      | cons q r => have := r2.1.1; omega
      | nil =>
        rw [r1, List.append_nil, s2] at g3
        exact sort_none (n := g.length) (fun i u v => lbl_1 (hl i u v)) hd S g3
  have nos : ∀ (g : List (Int × Int)), prsQ (D0 1978) N g 0 → endG g 0 ≠ N → (∀ m e, segT (D0 1978) N (endG g 0) m e → lab ≤ g.length) → ¬ ∃ S, tkP (D0 1978) N 0 (lab : Int) [] S := fun g hp he hno ⟨S, g', g1, g2, g3⟩ => by
    obtain ⟨r, r1, r2⟩ := prs_pre hp g1
    cases r with
    | nil => exact he r2
    | cons q r =>
      have := hno q.1 q.2 r2.1
      rw [r1, List.length_append, List.length_cons] at g2
      omega
  intro c
  induction c with
  | zero =>
    intro g D hc hf hp ha
    have ee := endG_le hp (by omega) hN4.1
    have e2 : D 1977 2 = N := by rw [hf _ _ (by omega) (by omega)]; exact hN
    refine v190_7 ?_
    rw [e2]
    split
    · rename_i hlt
      rw [if_pos (by omega)]
      exact hF D (nos g hp (by omega) (fun m e _ => by omega)) hf
    · exact fin g D (by omega) hf hp ha (by omega)
  | succ c ih =>
    intro g D hc hf hp ha
    have ee := endG_le hp (by omega) hN4.1
    have e2 : D 1977 2 = N := by rw [hf _ _ (by omega) (by omega)]; exact hN
    refine v190_7 ?_
    rw [e2]
    split
    · rename_i hlt
      rw [if_neg (by omega)]
      refine ⟨by omega, ?_⟩
      generalize hk : endG g 0 = k at *
      have fA : frM D0 (wr D 2010 (g.length : Int) k) := frM_tr hf (fun a j u v => wr_ne (by omega))
      have tA : ∀ j, (wr D 2010 (g.length : Int) k) 1978 j = D0 1978 j := fun j => fA _ _ (by omega) (by omega)
      refine m_mk29 (N := N) (s := k) (by rw [fA _ _ (by omega) (by omega)]; exact hN) hN4.2 (by omega) (by omega) (fun m m1 m2 m3 m4 => ?_) k (by omega) (fun j u v => by omega)
      have fB : frM D0 (wr (wr D 2010 (g.length : Int) k) 2011 (g.length : Int) m) := frM_tr fA (fun a j u v => wr_ne (by omega))
      have m3' : ∀ j, k ≤ j → j < m → D0 1978 j ≠ 1 := fun j u v => by rw [← tA j]; exact m3 j u v
      have uni : ∀ m' e', segT (D0 1978) N k m' e' → m' = m := fun m' e' w => by
        rcases Int.lt_trichotomy m' m with h | h | h
        · exact absurd w.2.1 (m3' m' w.1.2.1 h)
        · exact h
        · rcases m4 with h4 | h4
          · have := w.1; omega
          · have := srt4_ge (w.2.2.2.1.2.2.2.1 m m1 h)
            rw [tA] at h4
            omega
      split
      · rename_i hm
        refine hF _ (nos g hp (by omega) (fun m' e' w => ?_)) fB
        rw [hk] at w
        have := uni m' e' w
        have := w.1
        omega
      · rename_i hm
        have tB : ∀ j, (wr (wr D 2010 (g.length : Int) k) 2011 (g.length : Int) m) 1978 j = D0 1978 j := fun j => fB _ _ (by omega) (by omega)
        have h1m : D0 1978 m = 1 := by
          rcases m4 with h4 | h4
          · exact absurd h4 hm
          · rw [tA] at h4; exact h4
        rw [wr_self]
        refine m_lname (by omega) (by omega) (fun hnm => ?_) (fun hnm => ?_)
        · rw [if_neg (by omega)]
          refine m_mk87 (N := N) (s := m + 1) (by rw [fB _ _ (by omega) (by omega)]; exact hN) hN4.2 (by omega) (by omega) (fun e q1 q2 q3 q4 => ?_) (m + 1) (by omega) (fun j u v => by omega)
          have fC : frM D0 (wr (wr (wr D 2010 (g.length : Int) k) 2011 (g.length : Int) m) 2012 (g.length : Int) e) := frM_tr fB (fun a j u v => wr_ne (by omega))
          have uni2 : ∀ m' e', segT (D0 1978) N k m' e' → e' = e := fun m' e' w => by
            have um := uni m' e' w
            subst um
            have w1 := w.1
            rcases Int.lt_trichotomy e' e with h | h | h
            · have := q3 e' (by omega) h
              rw [tB] at this
              exact absurd w.2.2.1 this
            · exact h
            · rcases q4 with h4 | h4
              · omega
              · have := w.2.2.2.2.2.2 e q1 h
                rw [tB] at h4
                rw [h4] at this
                unfold txt at this
                omega
          split
          · rename_i he
            refine hF _ (nos g hp (by omega) (fun m' e' w => ?_)) fC
            rw [hk] at w
            have := uni2 m' e' w
            have := w.1
            omega
          · rename_i he
            have h2e : D0 1978 e = 2 := by
              rcases q4 with h4 | h4
              · exact absurd h4 he
              · rw [tB] at h4; exact h4
            have tC : ∀ j, (wr (wr (wr D 2010 (g.length : Int) k) 2011 (g.length : Int) m) 2012 (g.length : Int) e) 1978 j = D0 1978 j := fun j => fC _ _ (by omega) (by omega)
            rw [wr_self, w32_id (x := m + 1) (by omega) (by omega)]
            refine m_text (by omega) (by omega) (by omega) (fun htx => ?_) (fun htx => ?_)
            · rw [if_neg (by omega)]
              have hseg : segT (D0 1978) N (endG g 0) m e := by
                rw [hk]
                obtain ⟨n1, n2, n3, n4, n5⟩ := hnm
                refine ⟨by omega, h1m, h2e, ⟨n1, n2, by rw [← tB]; exact n3, fun j u v => by rw [← tB]; exact n4 j u v, ?_⟩, ⟨by omega, htx.1, fun j u v => by rw [← tC]; exact htx.2 j u v⟩⟩
                rw [tB, tB] at n5
                rcases n5 with h | h | h
                · right
                  rw [show k + 1 = m from by omega, h1m]
                  omega
                · exact Or.inl h
                · exact Or.inr h
              obtain ⟨p1, p2, p3⟩ := prsQ_snoc hp hseg
              have := ih (g ++ [(m, e)]) (wr (wr (wr D 2010 (g.length : Int) k) 2011 (g.length : Int) m) 2012 (g.length : Int) e) (by rw [List.length_append]; simp; omega) fC p1 (arrG_snoc ha (fun a j u v => ?_) ?_ ?_ ?_)
              · rw [p2, p3, List.length_append] at this
                have ll : ((g.length + [(m, e)].length : Nat) : Int) = (g.length : Int) + 1 := by simp
                rw [ll, hk] at this
                rw [wr_self, wr_ne (by omega), wr_ne (by omega), wr_self]
                rw [w32_id (x := e - k) (by omega) (by omega), w32_id (x := e - k - 1) (by omega) (by omega), w32_id (x := bytG g 0 + (e - k - 1)) (by omega) (by omega)]
                exact this
              · rw [wr_ni (by omega), wr_ni (by omega), wr_ni (by omega)]
              · rw [wr_ne (by omega), wr_ne (by omega), show 0 + (g.length : Int) = (g.length : Int) from by omega, wr_self, hk]
              · rw [wr_ne (by omega), show 0 + (g.length : Int) = (g.length : Int) from by omega, wr_self]
              · rw [show 0 + (g.length : Int) = (g.length : Int) from by omega, wr_self]
            · rw [if_pos rfl]
              refine hF _ (nos g hp (by omega) (fun m' e' w => ?_)) fC
              rw [hk] at w
              have u1 := uni m' e' w
              have u2 := uni2 m' e' w
              subst u1 u2
              exact absurd ⟨w.2.2.2.2.2.1, fun j u v => by rw [tC]; exact w.2.2.2.2.2.2 j u v⟩ htx
        · rw [if_pos rfl]
          refine hF _ (nos g hp (by omega) (fun m' e' w => ?_)) fB
          rw [hk] at w
          have u1 := uni m' e' w
          subst u1
          obtain ⟨b1, b2, b3, ⟨n1, n2, n3, n4, n5⟩, b5⟩ := w
          refine absurd ⟨n1, n2, by rw [tB]; exact n3, fun j u v => by rw [tB]; exact n4 j u v, ?_⟩ hnm
          rw [tB, tB]
          exact Or.inr n5
    · exact fin g D (by omega) hf hp ha (by omega)
theorem m_marks {N : Int} {lab : Nat} (hb : ∀ j, 0 ≤ j → j < N → 0 ≤ D 1978 j ∧ D 1978 j ≤ 255) (hN : D 1977 2 = N) (hN4 : 0 ≤ N ∧ N ≤ 4000) (hlab : lab ≤ 3) (hT : ∀ S D', tkP (D 1978) N 0 (lab : Int) [] S → setIs D' S.flatten → frM D D' → K D' ((S.flatten.length : Int) - 2 * (S.length : Int))) (hF : ∀ D', (¬ ∃ S, tkP (D 1978) N 0 (lab : Int) [] S) → frM D D' → K D' (-1)) : WP sc 190 0 D [(0, (1211, 1977)), (1, (0, (lab : Int)))] [] K E := by
  refine v190_0 ?_
  exact m_marks1 hb hN hN4 hlab hT hF lab [] D (by simp) (fun _ _ _ _ => rfl) trivial trivial
end MK2
