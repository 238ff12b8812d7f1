/-! the law's loop: common -/
section COM
variable {sc : Nat × (Nat → Int32)} {D D' : tD} {K : tD → Int → Prop} {E : tD → Nat → Prop} {c i : Int}
theorem c_common (hok : okD D) (hR : RL RSc D c) (hT : ∀ S D', tkP (D 1978) (D 1977 2) 0 1 [] S → lsIs D' 1971 S → srtL S → D' 1 1 = 0 → (∀ a j, a ≠ 1 → a < 1971 ∨ 1976 < a → D' a j = D a j) → K D' 0) (hF : ∀ D1, CX 1 D D1 → (¬ ∃ S, tkP (D 1978) (D 1977 2) 0 1 [] S) → E (bump D1) 90) : WP sc 8 0 D [(0, (1200, 0))] [] K E := by
  have r6 := hR.2.2.2.2.2.1
  have r7 := hR.2.2.2.2.2.2.1
  have cl1 : ∀ D1 : tD, rclear D1 1 1 1 = 0 := fun D1 => by unfold rclear; rw [wr_ni (by omega), wr_self]
  have cl2 : ∀ (D1 : tD) a j, a ≠ 1 → rclear D1 1 a j = D1 a j := fun D1 a j u => by unfold rclear; rw [wr_ne u, wr_ne u]
  refine v8_0 (c_takeT hok hR (by omega) (fun S D1 h1 h2 h3 h4 => c_clear ?_) (fun D1 h1 h4 => c_clear ?_))
  · rw [if_neg (by omega)]
    have lS := tkP_len h1
    have lf := fl_le S h2.2.2.2
    obtain ⟨p1, p2, p3, p4⟩ := h2
    refine c_lsbec (S := S) ⟨by rw [cl2 _ _ _ (by omega)]; exact p1, by rw [cl2 _ _ _ (by omega)]; exact p2, atL_fr (fun j u v => cl2 _ _ _ (by omega)) p3, p4⟩ (by rw [show ln (1971 + 2) = 22 from rfl, show ln (1974 + 2) = 88 from rfl]; omega) (by omega) (fun D2 g1 g2 g3 => hT S D2 h1 g1 h3 ?_ (fun a j u v => ?_))
    · rw [g2 _ _ (by omega), cl1]
    · rw [g2 a j (by omega), cl2 _ _ _ u, h4 a j (by omega)]
  · rw [if_pos rfl]
    refine ⟨by rw [cl2 _ _ _ (by omega), h4 _ _ (by omega)]; omega, hF _ ⟨fun e => by omega, fun _ => cl1 _, fun a j u v => by rw [cl2 _ _ _ u, h4 a j v]⟩ h1⟩
theorem m_com1 {l : List Int} (hll : l.length ≤ 22) {D0 : tD} (hK : ∀ D', (∀ a j, a ≠ 2008 → D' a j = D0 a j) → atL D' 2008 0 l → K D' 0) : ∀ (m : Nat) (k : Nat) (D : tD), m + k = l.length → setIs D l → (∀ a j, a ≠ 2008 → D a j = D0 a j) → (∀ j, 0 ≤ j → j < (k : Int) → D 2008 j = D 2009 j) → WP sc 216 39 D [(0, (1211, 1977)), (2, (0, (k : Int)))] [] K E := by
  intro m
  induction m with
  | zero =>
    intro k D hk hs h1 h3
    refine v216_39 ?_
    rw [hs.1, if_neg (by omega)]
    refine hK D h1 (atL_mov (fun j u v => ?_) hs.2)
    rw [show (0 : Int) + j = j from by omega]
    exact h3 j u (by omega)
  | succ m ih =>
    intro k D hk hs h1 h3
    refine v216_39 ?_
    rw [hs.1, if_pos (by omega), w32_id (by omega) (by omega)]
    refine ⟨by omega, by omega, ?_⟩
    have := ih (k + 1) (wr D 2008 (k : Int) (D 2009 (k : Int))) (by omega) ⟨by rw [wr_ne (by omega)]; exact hs.1, atL_fr (fun j u v => wr_ne (by omega)) hs.2⟩ (fun a j u => by rw [wr_ne u, h1 a j u]) (fun j u v => ?_)
    · rw [show ((k + 1 : Nat) : Int) = (k : Int) + 1 from by omega] at this
      exact this
    · by_cases e : j = (k : Int)
      · rw [e, wr_self, wr_ne (by omega)]
      · rw [wr_ni (by omega), wr_ne (by omega), h3 j u (by omega)]
theorem m_common (hbt : ∀ j, 0 ≤ j → j < D 1977 2 → 0 ≤ D 1978 j ∧ D 1978 j ≤ 255) (hN4 : 0 ≤ D 1977 2 ∧ D 1977 2 ≤ 4000) (hT : ∀ S D', tkP (D 1978) (D 1977 2) 0 1 [] S → D' 1977 35 = (S.flatten.length : Int) → S.flatten.length ≤ 22 → atL D' 2008 0 S.flatten → D' 1977 2 = 0 → D' 1977 0 = 0 → (∀ a j, a < 2008 ∨ 2012 < a → (a = 1977 → j ≠ 0 ∧ j ≠ 2 ∧ j ≠ 35 ∧ j ≠ 37) → D' a j = D a j) → K D' 0) (hF : ∀ D2, (¬ ∃ S, tkP (D 1978) (D 1977 2) 0 1 [] S) → MX 1 D D2 → D2 1977 0 = 1 → K D2 0) : WP sc 216 0 D [(0, (1211, 1977))] [] K E := by
  refine v216_0 (m_marks (lab := 1) hbt rfl hN4 (by omega) (fun S D1 h1 h2 h3 => ?_) (fun D1 h1 h3 => ?_))
  · obtain ⟨g, g1, g2, g3⟩ := h1
    have l1 := insAll_len g3
    have l3 : ∀ {g : List (Int × Int)} {s : Int}, prsT (D 1978) (D 1977 2) g s → prsQ (D 1978) (D 1977 2) g s := by
      intro g
      induction g with
      | nil => intro s _; trivial
      | cons q g ih => intro s h; exact ⟨h.1, ih h.2⟩
    have l4 := labs_len (l3 g1)
    have l5 := endG_le (l3 g1) (by omega) hN4.1
    have z1 := l1.1
    have z2 := l1.2
    simp only [List.length_nil, List.flatten_nil] at z1 z2
    have hlb : ∀ y ∈ S, lbl y := by
      have : ∀ {g : List (Int × Int)} {s : Int} {S0 S' : List (List Int)}, prsT (D 1978) (D 1977 2) g s → insAll (labsT (D 1978) g s) S0 = some S' → (∀ y ∈ S0, lbl y) → ∀ y ∈ S', lbl y := by
        intro g
        induction g with
        | nil => intro s S0 S' _ h h0; simp only [labsT, insAll] at h; injection h with h; subst h; exact h0
        | cons q g ih =>
          intro s S0 S' hp h h0
          obtain ⟨m, e⟩ := q
          simp only [labsT, insAll] at h
          cases hi : insL (spn (D 1978) s (e + 1 - s).toNat) S0 with
          | none => rw [hi] at h; exact absurd h (by simp)
          | some S1 =>
            rw [hi] at h
            refine ih hp.2 h (fun y hy => ?_)
            rcases (insL_mem hi y).mp hy with w | w
            · rw [w]; exact segT_lbl hp.1
            · exact h0 y w
      exact this g1 g3 (fun y h => absurd h (by simp))
    have lf := fl_le S hlb
    have l22 : S.flatten.length ≤ 22 := by omega
    rw [if_neg (by omega)]
    refine c_fails0 ?_
    rw [if_pos rfl]
    have fr : ∀ a j, a < 2008 ∨ 2012 < a → (a = 1977 → j ≠ 0 ∧ j ≠ 2 ∧ j ≠ 35 ∧ j ≠ 37) → (wr (wr (wr D1 1977 2 0) 1977 0 0) 1977 35 ((wr (wr D1 1977 2 0) 1977 0 0) 1977 37)) a j = D a j := fun a j u v => by
      by_cases e : a = 1977
      · have := v e
        rw [wr_ni (by omega), wr_ni (by omega), wr_ni (by omega), h3 _ _ (by omega) (by omega)]
      · rw [wr_ne e, wr_ne e, wr_ne e, h3 _ _ (by omega) (by omega)]
    refine m_com1 (l := S.flatten) l22 (D0 := wr (wr (wr D1 1977 2 0) 1977 0 0) 1977 35 ((wr (wr D1 1977 2 0) 1977 0 0) 1977 37)) (fun D' q1 q2 => hT S D' ⟨g, g1, g2, g3⟩ ?_ l22 q2 ?_ ?_ (fun a j u v => ?_)) S.flatten.length 0 _ (by omega) ⟨?_, ?_⟩ (fun _ _ _ => rfl) (fun j u v => by omega)
    · rw [q1 _ _ (by omega), wr_self, wr_ni (by omega), wr_ni (by omega)]; exact h2.1
    · rw [q1 _ _ (by omega), wr_ni (by omega), wr_ni (by omega), wr_self]
    · rw [q1 _ _ (by omega), wr_ni (by omega), wr_self]
    · rw [q1 _ _ (by omega)]; exact fr a j u v
    · rw [wr_ni (by omega), wr_ni (by omega), wr_ni (by omega)]; exact h2.1
    · exact atL_fr (fun j u v => by rw [wr_ne (by omega), wr_ne (by omega), wr_ne (by omega)]) h2.2
  · rw [if_pos (by omega)]
    refine c_fails1 ?_
    rw [if_neg (by omega)]
    refine hF _ h1 ⟨fun e => by omega, fun _ => by rw [wr_ni (by omega), wr_self], fun a j u v => ?_⟩ wr_self
    by_cases e : a = 1977
    · rw [wr_ni (v e).2.2, wr_ni (v e).2.1, h3 _ _ (by omega) (fun _ => (v e).1)]
    · rw [wr_ne e, wr_ne e, h3 _ _ (by omega) (by omega)]
theorem l_common (hR : RL RSc D c) (hc : c < 600) (hi : 0 ≤ i ∧ i + 5 ≤ (sc.1 : Int) ∧ (sc.1 : Int) ≤ 2560) (hgo : ∀ D', RL RSc D' (c + 1) → WP sc 317 1610 D' (LV i) [] K E) : WP sc 317 539 D (LV i) [] K E := by
  refine wp_ok (fun hok => ?_)
  have r8 := hR.2.2.2.2.2.2.2
  obtain ⟨⟨t1, t2, t3⟩, tb⟩ := tape_b hok hR
  refine v317_539 (v302_0 (c_common hok hR (fun S D1 g1 g2 g3 g4 g5 => ?_) (fun D1 g1 g2 => ?_)))
  · have e78 : D1 1978 = D 1978 := funext (fun j => g5 _ _ (by omega) (by omega))
    have e77 : ∀ j, D1 1977 j = D 1977 j := fun j => g5 _ _ (by omega) (by omega)
    refine m_common (by rw [e77, e78]; exact fun j u w => (tb j u w).2.2) (by rw [e77]; exact ⟨t1, t2⟩) (fun S' D2 k1 k2 k3 k4 k5 k6 k7 => ?_) (fun D2 k1 => ?_)
    · rw [e78, e77] at k1
      have eS := tkP_uni g1 k1
      subst eS
      refine tail_v k6 (hgo _ ?_)
      have fr : ∀ a j, a ≠ 1 → a < 1971 ∨ (1976 < a ∧ a < 2008) ∨ 2012 < a → (a = 1977 → j ≠ 0 ∧ j ≠ 2 ∧ j ≠ 35 ∧ j ≠ 37) → D2 a j = D a j := fun a j u v w => by rw [k7 a j (by omega) w, g5 a j u (by omega)]
      have lo : ∀ a j, a < 1977 → D2 a j = D1 a j := fun a j u => k7 a j (by omega) (by omega)
      have sd : ∀ s, s = 0 ∨ s = 1 → shR (c + 1) D2 s := fun s hs => by
        have hx : shR c D s := by
          rcases hs with rfl | rfl
          · exact r8.1
          · exact r8.2.1
        refine shR_fr2 hs (by omega) (fun a j u => fr a j ?_ ?_ ?_) hx
        · rcases u with u | u | u | u | u | u | u
          · omega
          · omega
          · omega
          all_goals omega
        · rcases u with u | u | u | u | u | u | u
          · omega
          · omega
          · omega
          all_goals omega
        · rcases u with u | u | u | u | u | u | u
          · omega
          · omega
          · omega
          all_goals omega
      have lS := tkP_len g1
      obtain ⟨s1, s2, s3, s4⟩ := g2
      refine RL_clr hR hc (Or.inl (fr _ _ (by omega) (by omega) (by omega))) ⟨?_, k5⟩ (fun a j u => fr a j (by omega) (by omega) (by omega)) ⟨sd 0 (Or.inl rfl), sd 1 (Or.inr rfl), ⟨⟨?_, ?_, ?_, fun j u v => ?_⟩, ?_, ?_⟩, ?_⟩
      · rw [lo _ _ (by omega)]; exact g4
      · rw [lo _ _ (by omega), k2]; exact s2
      · rw [k2]; omega
      · rw [k2]; omega
      · rw [k2] at v
        rw [show (1972 : Int) + 1 = 1971 + 2 from rfl, lo _ _ (by omega)]
        have q := atL_eq s3 k4 j u v
        have rng : ∀ b ∈ S.flatten, 1 ≤ b ∧ b ≤ 126 := fun b hb => by
          obtain ⟨y, y1, y2⟩ := List.mem_flatten.mp hb
          exact lbl_rng (s4 y y1) b y2
        have := rng _ (atL_mem s3 j u v)
        rw [← q]
        rw [show (0 : Int) + j = j from by omega] at this ⊢
        omega
      · have := lsIs_lsW (D := D2) (a := 1971) (S := S) ⟨by rw [lo _ _ (by omega)]; exact s1, by rw [lo _ _ (by omega)]; exact s2, atL_fr (fun j u v => lo _ _ (by omega)) s3, s4⟩ g3
        exact this
      · rw [lo _ _ (by omega), s1]; exact lS
      · rw [fr 1977 22 (by omega) (by omega) (by omega)]
        have := r8.2.2.2
        exact ⟨by omega, by omega, unq_fr (fun a j u => fr a j (by omega) (by omega) (by omega)) this.2.2⟩
    · rw [e78, e77] at k1
      exact absurd ⟨S, g1⟩ k1
  · rw [if_pos rfl]
    have ms : ∀ a j, 1977 ≤ a → (bump D1) a j = D a j := fun a j u => by rw [bump_ne (by omega), g1.2.2 _ _ (by omega) (by omega)]
    have e78 : (bump D1) 1978 = D 1978 := funext (fun j => ms _ _ (by omega))
    refine m_common (by rw [ms _ _ (by omega), e78]; exact fun j u w => (tb j u w).2.2) (by rw [ms _ _ (by omega)]; exact ⟨t1, t2⟩) (fun S' D2 k1 => ?_) (fun D2 k1 k2 k3 => tail_v k3 (hgo _ (RL_cm hR hc g1 k2)))
    rw [e78, ms _ _ (by omega)] at k1
    exact absurd ⟨S', k1⟩ g2
end COM
