/-! label sets: as lists and as rows -/
section LSX
theorem prsT_uni {T : Int → Int} {n : Int} : ∀ {g g' : List (Int × Int)} {s : Int}, prsT T n g s → prsT T n g' s → g = g' := by
  intro g
  induction g with
  | nil =>
    intro g' s h h'
    cases g' with
    | nil => rfl
    | cons q r => have : s = n := h; have := h'.1.1; omega
  | cons q g ih =>
    intro g' s h h'
    obtain ⟨m, e⟩ := q
    cases g' with
    | nil => have : s = n := h'; have := h.1.1; omega
    | cons q' g' =>
      obtain ⟨m', e'⟩ := q'
      obtain ⟨rfl, rfl⟩ := segT_uni h.1 h'.1
      rw [ih h.2 h'.2]
theorem tkP_uni {T : Int → Int} {n s most most' : Int} {S S1 S2 : List (List Int)} (h : tkP T n s most S S1) (h' : tkP T n s most' S S2) : S1 = S2 := by
  obtain ⟨g, g1, g2, g3⟩ := h
  obtain ⟨k, k1, k2, k3⟩ := h'
  rw [prsT_uni g1 k1, k3] at g3
  injection g3 with h
  exact h.symm
theorem tkP_len {T : Int → Int} {n most : Int} {S : List (List Int)} (h : tkP T n 0 most [] S) : (S.length : Int) ≤ most := by
  obtain ⟨g, g1, g2, g3⟩ := h
  have l1 := insAll_len g3
  have : ∀ {g : List (Int × Int)} {s : Int}, (labsT T g s).length = g.length := by
    intro g
    induction g with
    | nil => intro s; rfl
    | cons q g ih => intro s; show _ + 1 = _ + 1; rw [ih]
  have e := this (g := g) (s := 0)
  have l2 := l1.1
  rw [e] at l2
  simp at l2
  omega
theorem lbl_seg {D : tD} {r o : Int} {x : List Int} (hx : lbl x) (ha : atL D (r + 1) o x) (ho : 0 ≤ o) (he : o + (x.length : Int) ≤ D r 1) : ∃ m, segT (rat D r) (D r 1) o m (o + (x.length : Int) - 1) := by
  have hr := lbl_rng hx
  have hT : ∀ j, 0 ≤ j → j < (x.length : Int) → rat D r (o + j) = D (r + 1) (o + j) := fun j u v => by
    have := hr _ (atL_mem ha j u v)
    unfold rat
    rw [if_pos (by omega)]
    omega
  obtain ⟨n, v, e, hn, hv⟩ := hx
  have l1 : (x.length : Int) = (n.length : Int) + 1 + (v.length : Int) + 1 := by rw [e]; simp; omega
  have n1 := hn.1
  have ha' := ha
  rw [e, atL_app] at ha'
  obtain ⟨a1, a2, a3⟩ := ha'
  rw [atL_app] at a3
  obtain ⟨a3, a4, _⟩ := a3
  refine ⟨o + (n.length : Int), ⟨by omega, ?_, ?_, ⟨by omega, by have := hn.2.1; omega, ?_, fun j u w => ?_, ?_⟩, ⟨by omega, by have := hv.1; omega, fun j u w => ?_⟩⟩⟩
  · rw [hT _ (by omega) (by omega)]; exact a2
  · rw [show o + (x.length : Int) - 1 = o + ((x.length : Int) - 1) from by omega, hT _ (by omega) (by omega), show o + ((x.length : Int) - 1) = o + (n.length : Int) + 1 + (v.length : Int) from by omega]
    exact a4
  · have e0 : rat D r o = n.getD 0 0 := by
      have := hT 0 (by omega) (by omega)
      rw [show o + 0 = o from by omega] at this
      rw [this]
      cases n with
      | nil => simp at n1
      | cons z n => exact a1.1
    rw [e0]
    exact hn.2.2.2.1
  · have := atL_mem a1 (j - o) (by omega) (by omega)
    rw [show o + (j - o) = j from by omega] at this
    have t := hT (j - o) (by omega) (by omega)
    rw [show o + (j - o) = j from by omega] at t
    rw [t]
    exact hn.2.2.1 _ this
  · have e0 : rat D r o = n.getD 0 0 := by
      have := hT 0 (by omega) (by omega)
      rw [show o + 0 = o from by omega] at this
      rw [this]
      cases n with
      | nil => simp at n1
      | cons z n => exact a1.1
    have e1 : rat D r (o + 1) = n.getD 1 1 := by
      rw [hT 1 (by omega) (by omega)]
      cases n with
      | nil => simp at n1
      | cons z n =>
        cases n with
        | nil => exact a2
        | cons w n => exact a1.2.1
    rw [e0, e1]
    exact hn.2.2.2.2
  · have := atL_mem a3 (j - (o + (n.length : Int) + 1)) (by omega) (by omega)
    rw [show o + (n.length : Int) + 1 + (j - (o + (n.length : Int) + 1)) = j from by omega] at this
    have t := hT (j - o) (by omega) (by omega)
    rw [show o + (j - o) = j from by omega] at t
    rw [t]
    exact hv.2 _ this
theorem labW_iff {D : tD} {r a b : Int} (ha : 0 ≤ a) : labW D r a b ↔ ∃ m, segT (rat D r) (D r 1) a m (b - 1) := by
  unfold labW segT nameT textT namP txtP
  simp only [if_neg (show ¬ (1 : Int) = 0 from by omega)]
  constructor
  · rintro ⟨m, ⟨h1, h2, h3, h4, h5⟩, h6, h7, ⟨h8, h9, h10⟩, h11, h12⟩
    refine ⟨m, by omega, h6, h11, ⟨h1, h2, h3, h4, ?_⟩, h8, h9, h10⟩
    rcases h5 with h | h
    · omega
    · exact h
  · rintro ⟨m, h0, h6, h11, ⟨h1, h2, h3, h4, h5⟩, h8, h9, h10⟩
    exact ⟨m, ⟨h1, h2, h3, h4, Or.inr h5⟩, h6, by omega, ⟨h8, h9, h10⟩, h11, by omega⟩
theorem ncmp_nmlt {D : tD} {r : Int} : ∀ {x y : List Int} {s t : Int}, atL D (r + 1) s x → atL D (r + 1) t y → (∀ b ∈ x, 1 ≤ b ∧ b ≤ 126) → (∀ b ∈ y, 1 ≤ b ∧ b ≤ 126) → 0 ≤ s → 0 ≤ t → s + (x.length : Int) ≤ D r 1 → t + (y.length : Int) ≤ D r 1 → ncmp x y < 0 → nmlt D r s t := by
  intro x
  induction x with
  | nil => intro y s t _ _ _ _ _ _ _ _ h; unfold ncmp at h; omega
  | cons u x ih =>
    intro y s t hx hy bx by' hs ht ls lt' h
    cases y with
    | nil => unfold ncmp at h; omega
    | cons v y =>
      rw [List.length_cons] at ls lt'
      obtain ⟨hu, hx⟩ := hx
      obtain ⟨hv, hy⟩ := hy
      have b1 := bx u List.mem_cons_self
      have b2 := by' v List.mem_cons_self
      have r1 : rat D r s = u := by unfold rat; rw [if_pos (by omega), hu]; omega
      have r2 : rat D r t = v := by unfold rat; rw [if_pos (by omega), hv]; omega
      unfold ncmp at h
      split at h
      · rename_i c
        refine ⟨0, by omega, fun j a b => by omega, ?_⟩
        rw [show s + 0 = s from by omega, show t + 0 = t from by omega, r1, r2]
        exact c
      · split at h
        · omega
        · split at h
          · omega
          · rename_i c1 c2 c3
            obtain ⟨k, k1, k2, k3⟩ := ih hx hy (fun b w => bx b (List.mem_cons_of_mem _ w)) (fun b w => by' b (List.mem_cons_of_mem _ w)) (by omega) (by omega) (by omega) (by omega) h
            refine ⟨k + 1, by omega, fun j a b => ?_, ?_⟩
            · by_cases z : j = 0
              · rw [z, show s + 0 = s from by omega, show t + 0 = t from by omega, r1, r2]
                exact ⟨by omega, c3⟩
              · have := k2 (j - 1) (by omega) (by omega)
                rw [show s + 1 + (j - 1) = s + j from by omega, show t + 1 + (j - 1) = t + j from by omega] at this
                exact this
            · rw [show s + (k + 1) = s + 1 + k from by omega, show t + (k + 1) = t + 1 + k from by omega]
              exact k3
theorem nmlt_ncmp {D : tD} {r : Int} : ∀ {x y : List Int} {s t : Int}, atL D (r + 1) s x → atL D (r + 1) t y → (∀ b ∈ x, 1 ≤ b ∧ b ≤ 126) → (∀ b ∈ y, 1 ≤ b ∧ b ≤ 126) → 1 ∈ x → 1 ∈ y → 0 ≤ s → 0 ≤ t → s + (x.length : Int) ≤ D r 1 → t + (y.length : Int) ≤ D r 1 → nmlt D r s t → ncmp x y < 0 := by
  intro x
  induction x with
  | nil => intro y s t _ _ _ _ h; exact absurd h (by simp)
  | cons u x ih =>
    intro y s t hx hy bx by' o1 o2 hs ht ls lt' h
    cases y with
    | nil => exact absurd o2 (by simp)
    | cons v y =>
      rw [List.length_cons] at ls lt'
      obtain ⟨hu, hx⟩ := hx
      obtain ⟨hv, hy⟩ := hy
      have b1 := bx u List.mem_cons_self
      have b2 := by' v List.mem_cons_self
      have r1 : rat D r s = u := by unfold rat; rw [if_pos (by omega), hu]; omega
      have r2 : rat D r t = v := by unfold rat; rw [if_pos (by omega), hv]; omega
      obtain ⟨k, k1, k2, k3⟩ := h
      unfold ncmp
      by_cases z : k = 0
      · rw [z, show s + 0 = s from by omega, show t + 0 = t from by omega, r1, r2] at k3
        rw [if_pos k3]; omega
      · have k0 := k2 0 (by omega) (by omega)
        rw [show s + 0 = s from by omega, show t + 0 = t from by omega, r1, r2] at k0
        rw [if_neg (by omega), if_neg (by omega), if_neg k0.2]
        refine ih hx hy (fun b w => bx b (List.mem_cons_of_mem _ w)) (fun b w => by' b (List.mem_cons_of_mem _ w)) ?_ ?_ (by omega) (by omega) (by omega) (by omega) ⟨k - 1, by omega, fun j a b => ?_, ?_⟩
        · rcases List.mem_cons.mp o1 with h | h
          · exact absurd h.symm k0.2
          · exact h
        · rcases List.mem_cons.mp o2 with h | h
          · omega
          · exact h
        · have := k2 (j + 1) (by omega) (by omega)
          rw [show s + 1 + j = s + (j + 1) from by omega, show t + 1 + j = t + (j + 1) from by omega]
          exact this
        · rw [show s + 1 + (k - 1) = s + k from by omega, show t + 1 + (k - 1) = t + k from by omega]
          exact k3
theorem lsW_pre {D : tD} {r : Int} : ∀ {S : List (List Int)} {o : Int}, atL D (r + 1) o S.flatten → 0 ≤ o → o + (S.flatten.length : Int) ≤ D r 1 → (∀ x ∈ S, lbl x) → srtL S → ∃ p : Int → Int, p 0 = o ∧ p (S.length : Int) = o + (S.flatten.length : Int) ∧ ∀ q, 0 ≤ q → q < (S.length : Int) → 0 ≤ p q ∧ labW D r (p q) (p (q + 1)) ∧ (q + 1 < (S.length : Int) → nmlt D r (p q) (p (q + 1))) := by
  intro S
  induction S with
  | nil => intro o _ _ _ _ _; exact ⟨fun _ => o, rfl, by simp, fun q a b => by simp at b; omega⟩
  | cons y S ih =>
    intro o ha ho hl hS hs
    rw [List.flatten_cons, atL_app] at ha
    rw [List.flatten_cons, List.length_append] at hl
    have hy := hS y List.mem_cons_self
    obtain ⟨p, p1, p2, p3⟩ := ih ha.2 (by omega) (by omega) (fun x h => hS x (List.mem_cons_of_mem _ h)) hs.2
    refine ⟨fun q => if q ≤ 0 then o else p (q - 1), if_pos (by omega), ?_, fun q a b => ?_⟩
    · show (if _ then _ else _) = _
      rw [List.length_cons, if_neg (by omega), show ((S.length + 1 : Nat) : Int) - 1 = (S.length : Int) from by omega, p2, List.flatten_cons, List.length_append]
      omega
    · rw [List.length_cons] at b
      by_cases z : q = 0
      · subst z
        simp only [if_pos (show (0 : Int) ≤ 0 from by omega), if_neg (show ¬ (0 : Int) + 1 ≤ 0 from by omega), show (0 : Int) + 1 - 1 = 0 from rfl, p1]
        refine ⟨ho, (labW_iff ho).mpr (lbl_seg hy ha.1 ho (by omega)), fun h => ?_⟩
        cases S with
        | nil => simp at h
        | cons w S =>
          have hw := hS w (by simp)
          have hw2 := ha.2
          rw [List.flatten_cons, List.length_append] at hl
          rw [List.flatten_cons, atL_app] at hw2
          exact ncmp_nmlt ha.1 hw2.1 (lbl_rng hy) (lbl_rng hw) ho (by omega) (by omega) (by omega) (hs.1 w List.mem_cons_self)
      · simp only [if_neg (show ¬ q ≤ 0 from by omega), if_neg (show ¬ q + 1 ≤ 0 from by omega), show q + 1 - 1 = q - 1 + 1 from by omega]
        obtain ⟨c1, c2, c3⟩ := p3 (q - 1) (by omega) (by omega)
        exact ⟨c1, c2, fun h => c3 (by rw [List.length_cons] at h; omega)⟩
theorem lsIs_lsW {D : tD} {a : Int} {S : List (List Int)} (h : lsIs D a S) (hs : srtL S) : lsW D (a + 1) (D a 1) := by
  obtain ⟨h1, h2, h3, h4⟩ := h
  rw [h1]
  refine ⟨by omega, ?_⟩
  obtain ⟨p, p1, p2, p3⟩ := lsW_pre (r := a + 1) (o := 0) (by rw [show a + 1 + 1 = a + 2 from by omega]; exact h3) (by omega) (by omega) h4 hs
  exact ⟨p, p1, by rw [p2, h2]; omega, p3⟩
theorem lsW_suf {D : tD} {r n : Int} {p : Int → Int} (hb : ∀ j, 0 ≤ j → j < D r 1 → -128 ≤ D (r + 1) j ∧ D (r + 1) j ≤ 127) (hp : ∀ q, 0 ≤ q → q < n → 0 ≤ p q ∧ labW D r (p q) (p (q + 1)) ∧ (q + 1 < n → nmlt D r (p q) (p (q + 1)))) : ∀ (c : Nat) (q : Int), 0 ≤ q → n - q = (c : Int) → ∃ S : List (List Int), S.length = c ∧ p n = p q + (S.flatten.length : Int) ∧ atL D (r + 1) (p q) S.flatten ∧ (∀ x ∈ S, lbl x) ∧ srtL S := by
  intro c
  induction c with
  | zero => intro q h0 h; exact ⟨[], rfl, by rw [show q = n from by omega]; simp, trivial, fun x h => absurd h (by simp), trivial⟩
  | succ c ih =>
    intro q h0 h
    obtain ⟨S, s1, s2, s3, s4, s5⟩ := ih (q + 1) (by omega) (by omega)
    obtain ⟨a1, a2, a3⟩ := hp q h0 (by omega)
    obtain ⟨m, hm⟩ := (labW_iff a1).mp a2
    have m1 := hm.1
    have hl := segT_lbl hm
    rw [show p (q + 1) - 1 + 1 - p q = p (q + 1) - p q from by omega] at hl
    have ll : ((spn (rat D r) (p q) (p (q + 1) - p q).toNat).length : Int) = p (q + 1) - p q := by rw [spn_len]; omega
    have hat : atL D (r + 1) (p q) (spn (rat D r) (p q) (p (q + 1) - p q).toNat) := by
      refine spn_at (fun j u v => ?_)
      have e3 := lbl_rng hl (rat D r (p q + j)) (by
        have := atL_mem (D := fun _ => rat D r) (a := 0) (o := p q) (spn_at (D := fun _ => rat D r) (a := 0) (T := rat D r) (s := p q) (o := p q) (n := (p (q + 1) - p q).toNat) (fun _ _ _ => rfl)) j u (by omega)
        exact this)
      have := hb (p q + j) (by omega) (by omega)
      unfold rat at e3 ⊢
      rw [if_pos (by omega)] at e3 ⊢
      omega
    refine ⟨spn (rat D r) (p q) (p (q + 1) - p q).toNat :: S, by rw [List.length_cons, s1], by rw [List.flatten_cons, List.length_append]; omega, ?_, ?_, ?_, s5⟩
    · rw [List.flatten_cons, atL_app, ll, show p q + (p (q + 1) - p q) = p (q + 1) from by omega]
      exact ⟨hat, s3⟩
    · intro x hx
      rcases List.mem_cons.mp hx with e | e
      · rw [e]; exact hl
      · exact s4 x e
    · have hz : ∀ z S', S = z :: S' → ncmp (spn (rat D r) (p q) (p (q + 1) - p q).toNat) z < 0 := fun z S' e => by
        subst e
        have hn : q + 1 < n := by rw [List.length_cons] at s1; omega
        obtain ⟨b1, b2, b3⟩ := hp (q + 1) (by omega) hn
        have zl := s4 z List.mem_cons_self
        rw [List.flatten_cons, atL_app] at s3
        rw [List.flatten_cons, List.length_append] at s2
        have pn : p n ≤ D r 1 := by
          have := hp (n - 1) (by omega) (by omega)
          obtain ⟨_, ⟨m, w⟩, _⟩ := this
          rw [show n - 1 + 1 = n from by omega] at w
          exact w.2.2.2.2.2
        exact nmlt_ncmp hat s3.1 (lbl_rng hl) (lbl_rng zl) (lbl_1 hl) (lbl_1 zl) a1 b1 (by omega) (by omega) (a3 hn)
      intro y hy
      cases S with
      | nil => exact absurd hy (by simp)
      | cons z S' =>
        have h1 := hz z S' rfl
        rcases List.mem_cons.mp hy with e | e
        · rw [e]; exact h1
        · exact ncmp_tr _ z y (lbl_1 (s4 z List.mem_cons_self)) h1 (s5.1 y e)
theorem lsW_lsIs {D : tD} {a n : Int} (hb : ∀ j, 0 ≤ j → j < D (a + 1) 1 → -128 ≤ D (a + 2) j ∧ D (a + 2) j ≤ 127) (hn : n = D a 1) (h : lsW D (a + 1) n) : ∃ S, lsIs D a S ∧ srtL S := by
  obtain ⟨h0, p, p1, p2, p3⟩ := h
  obtain ⟨S, s1, s2, s3, s4, s5⟩ := lsW_suf (r := a + 1) (n := n) (p := p) (fun j u v => by rw [show a + 1 + 1 = a + 2 from by omega]; exact hb j u v) p3 n.toNat 0 (by omega) (by omega)
  rw [p1, show a + 1 + 1 = a + 2 from by omega] at s3
  exact ⟨S, ⟨by omega, by omega, s3, s4⟩, s5⟩
end LSX
