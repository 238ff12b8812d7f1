/-! what the tape tells of labels; the class takes it -/
section PRS
variable {sc : Nat × (Nat → Int32)} {D : tD} {K : tD → Int → Prop} {E : tD → Nat → Prop}
theorem fl_le : ∀ (S : List (List Int)), (∀ x ∈ S, lbl x) → S.flatten.length ≤ 22 * S.length := by
  intro S
  induction S with
  | nil => intro _; simp
  | cons y S ih =>
    intro hl
    have := ih (fun x h => hl x (List.mem_cons_of_mem _ h))
    have := lbl_len (hl y List.mem_cons_self)
    rw [List.flatten_cons, List.length_append, List.length_cons]
    omega
theorem plc_nn (x : List Int) : ∀ (S : List (List Int)), 0 ≤ plcL x S := by
  intro S
  induction S with
  | nil => unfold plcL; omega
  | cons y S ih => unfold plcL; split <;> omega
def nameT (T : Int → Int) (s e : Int) : Prop := s < e ∧ e - s ≤ 8 ∧ ¬ srt 2 (T s) = true ∧ (∀ j, s ≤ j → j < e → srt 4 (T j) = true) ∧ (T s ≠ 95 ∨ T (s + 1) ≠ 95)
def textT (T : Int → Int) (s e m : Int) : Prop := s ≤ e ∧ e - s ≤ m ∧ ∀ j, s ≤ j → j < e → txt (T j)
def segT (T : Int → Int) (n s m e : Int) : Prop := (0 ≤ s ∧ s ≤ m ∧ m < e ∧ e < n) ∧ T m = 1 ∧ T e = 2 ∧ nameT T s m ∧ textT T (m + 1) e 12
def prsT (T : Int → Int) (n : Int) : List (Int × Int) → Int → Prop
  | [], s => s = n
  | (m, e) :: r, s => segT T n s m e ∧ prsT T n r (e + 1)
def labsT (T : Int → Int) : List (Int × Int) → Int → List (List Int)
  | [], _ => []
  | (_, e) :: r, s => spn T s (e + 1 - s).toNat :: labsT T r (e + 1)
theorem segT_uni {T : Int → Int} {n s m e m' e' : Int} (h : segT T n s m e) (h' : segT T n s m' e') : m = m' ∧ e = e' := by
  obtain ⟨a1, a2, a3, a4, a5⟩ := h
  obtain ⟨b1, b2, b3, b4, b5⟩ := h'
  have hm : m = m' := by
    rcases Int.lt_trichotomy m m' with w | w | w
    · have := srt4_ge (b4.2.2.2.1 m (by omega) w)
      omega
    · exact w
    · have := srt4_ge (a4.2.2.2.1 m' (by omega) w)
      omega
  subst hm
  refine ⟨rfl, ?_⟩
  rcases Int.lt_trichotomy e e' with w | w | w
  · have := b5.2.2 e (by omega) w
    unfold txt at this
    omega
  · exact w
  · have := a5.2.2 e' (by omega) w
    unfold txt at this
    omega
theorem segT_lbl {T : Int → Int} {n s m e : Int} (h : segT T n s m e) : lbl (spn T s (e + 1 - s).toNat) := by
  obtain ⟨a1, a2, a3, a4, a5⟩ := h
  refine ⟨spn T s (m - s).toNat, spn T (m + 1) (e - m - 1).toNat, ?_, ⟨?_, ?_, ?_, ?_, ?_⟩, ⟨?_, ?_⟩⟩
  · rw [show (e + 1 - s).toNat = (m - s).toNat + (1 + ((e - m - 1).toNat + 1)) from by omega, spn_app, spn_app, spn_app]
    have e1 : s + (((m - s).toNat : Nat) : Int) = m := by omega
    rw [e1]
    have e2 : m + ((1 : Nat) : Int) = m + 1 := by omega
    rw [e2, show m + 1 + (((e - m - 1).toNat : Nat) : Int) = e from by omega]
    show _ ++ ([T m] ++ (_ ++ [T e])) = _
    rw [a2, a3]
    rfl
  · rw [spn_len]; have := a4.1; omega
  · rw [spn_len]; have := a4.2.1; omega
  · intro b hb
    obtain ⟨j, j1, j2, j3⟩ := spn_mem hb
    rw [j3]
    exact a4.2.2.2.1 j j1 (by omega)
  · have := a4.1
    obtain ⟨k, hk⟩ : ∃ k, (m - s).toNat = k + 1 := ⟨(m - s).toNat - 1, by omega⟩
    rw [hk]
    exact a4.2.2.1
  · have := a4.1
    obtain ⟨k, hk⟩ : ∃ k, (m - s).toNat = k + 1 := ⟨(m - s).toNat - 1, by omega⟩
    rw [hk]
    cases k with
    | zero => right; show (1 : Int) ≠ 95; omega
    | succ k => exact a4.2.2.2.2
  · rw [spn_len]; have := a5.2.1; omega
  · intro b hb
    obtain ⟨j, j1, j2, j3⟩ := spn_mem hb
    rw [j3]
    exact a5.2.2 j j1 (by omega)
/-- the set that the rest of the tape makes of one -/
def tkP (T : Int → Int) (n s : Int) (most : Int) (S S' : List (List Int)) : Prop := ∃ g, prsT T n g s ∧ ((g.length : Nat) : Int) ≤ most ∧ insAll (labsT T g s) S = some S'
theorem tkP_cons {T : Int → Int} {n s m e most : Int} {S S' : List (List Int)} (h : segT T n s m e) : tkP T n s most S S' ↔ ∃ S1, 1 ≤ most ∧ insL (spn T s (e + 1 - s).toNat) S = some S1 ∧ tkP T n (e + 1) (most - 1) S1 S' := by
  constructor
  · rintro ⟨g, g1, g2, g3⟩
    cases g with
    | nil => have : s = n := g1; have := h.1; omega
    | cons q r =>
      obtain ⟨m', e'⟩ := q
      obtain ⟨p1, p2⟩ := g1
      obtain ⟨_, rfl⟩ := segT_uni h p1
      simp only [labsT, insAll] at g3
      cases hi : insL (spn T s (e + 1 - s).toNat) S with
      | none => rw [hi] at g3; exact absurd g3 (by simp)
      | some S1 =>
        rw [hi] at g3
        rw [List.length_cons] at g2
        exact ⟨S1, by omega, rfl, r, p2, by omega, g3⟩
  · rintro ⟨S1, h1, h2, g, g1, g2, g3⟩
    refine ⟨(m, e) :: g, ⟨h, g1⟩, by rw [List.length_cons]; omega, ?_⟩
    simp only [labsT, insAll]
    rw [h2]
    exact g3
theorem tkP_end {T : Int → Int} {n most : Int} {S S' : List (List Int)} (hm : 0 ≤ most) : tkP T n n most S S' ↔ S' = S := by
  constructor
  · rintro ⟨g, g1, g2, g3⟩
    cases g with
    | nil => simp only [labsT, insAll] at g3; injection g3 with h; exact h.symm
    | cons q r => have := g1.1.1; omega
  · rintro rfl
    exact ⟨[], rfl, by simpa using hm, rfl⟩
theorem tkP_no {T : Int → Int} {n s most : Int} {S S' : List (List Int)} (hs : s ≠ n) (h : ∀ m e, segT T n s m e → most < 1) : ¬ tkP T n s most S S' := by
  rintro ⟨g, g1, g2, g3⟩
  cases g with
  | nil => exact hs g1
  | cons q r =>
    have := h q.1 q.2 g1.1
    rw [List.length_cons] at g2
    omega
theorem c_take1 (D : tD) {a0 r n most : Int} {T : Int → Int} (hn : D r 1 = n) (h1 : n ≤ ln (r + 1)) (h2 : 0 ≤ n ∧ n ≤ 20000) (hT8 : ∀ j, 0 ≤ j → j < n → rat D r j = T j) (hby : ∀ j, 0 ≤ j → j < n → -128 ≤ D (r + 1) j ∧ D (r + 1) j ≤ 127) (hm : most ≤ 3) (hcap : 66 ≤ ln (a0 + 2) ∧ ln (a0 + 2) ≤ 20000) (hne : r ≠ a0 ∧ r ≠ a0 + 1 ∧ r ≠ a0 + 2 ∧ r + 1 ≠ a0)
    {s k : Int} {S : List (List Int)} (hk : 0 ≤ k ∧ k ≤ most) (hkS : k = (S.length : Int)) (hs : 0 ≤ s ∧ s ≤ n) (hls : lsIs D a0 S) (hso : srtL S)
    (hT : ∀ S' D', tkP T n s (most - k) S S' → lsIs D' a0 S' → srtL S' → (∀ a j, a ≠ a0 → a ≠ a0 + 1 → a ≠ a0 + 2 → D' a j = D a j) → D' (a0 + 1) 2 = D (a0 + 1) 2 → K D' 1) (hF : ∀ D', (¬ ∃ S', tkP T n s (most - k) S S') → (∀ a j, a ≠ a0 → a ≠ a0 + 1 → a ≠ a0 + 2 → D' a j = D a j) → D' (a0 + 1) 2 = D (a0 + 1) 2 → K D' 0) : WP sc 79 9 D [(0, (1205, a0)), (1, (1207, r)), (2, (0, most)), (3, (0, s)), (4, (0, k))] [] K E := by
  have fin : k = most ∨ s = n → (if s = D r 1 then K D 1 else K D 0) := fun hh => by
    split
    · rename_i e
      rw [hn] at e
      subst e
      exact hT S D ((tkP_end (by omega)).mpr rfl) hls hso (fun _ _ _ _ _ => rfl) rfl
    · rename_i e
      refine hF D (fun ⟨S', h⟩ => tkP_no (by omega) (fun m e _ => by omega) h) (fun _ _ _ _ _ => rfl) rfl
  refine v79_9 ?_
  split
  · rename_i c1
    split
    · rename_i c2
      have rr : ∀ j, 0 ≤ j → j < n → T j = D (r + 1) j % 256 := fun j u v => by
        rw [← hT8 j u v]
        unfold rat
        rw [if_pos (by omega)]
      refine c_find (by omega) (by omega) (by omega) (fun q1 hq1 => c_find (by omega) (by omega) (by omega) (fun q2 hq2 => ?_))
      have g1 : -1 ≤ q1 ∧ q1 < n := by rcases hq1 with w | w <;> omega
      have g2 : -1 ≤ q2 ∧ q2 < n := by rcases hq2 with w | w <;> omega
      rw [w32_id (x := q1 + 1) (by omega) (by omega), w32_id (x := q2 + 1) (by omega) (by omega)]
      have noseg : (∀ m e, segT T n s m e → m = q1 ∧ e = q2) := fun m e h => by
        obtain ⟨b1, b2, b3, b4, b5⟩ := h
        have x1 := rr m (by omega) (by omega)
        have x2 := rr e (by omega) (by omega)
        have y1 := hby m (by omega) (by omega)
        have y2 := hby e (by omega) (by omega)
        constructor
        · rcases hq1 with ⟨_, w⟩ | ⟨w1, w2, w3, w4⟩
          · exact absurd (by omega) (w m (by omega) (by omega))
          · rcases Int.lt_trichotomy m q1 with h | h | h
            · exact absurd (by omega) (w4 m (by omega) h)
            · exact h
            · have := srt4_ge (b4.2.2.2.1 q1 w1 h)
              have := rr q1 (by omega) (by omega)
              omega
        · rcases hq2 with ⟨_, w⟩ | ⟨w1, w2, w3, w4⟩
          · exact absurd (by omega) (w e (by omega) (by omega))
          · rcases Int.lt_trichotomy e q2 with h | h | h
            · exact absurd (by omega) (w4 e (by omega) h)
            · exact h
            · have z := rr q2 (by omega) (by omega)
              by_cases c : q2 < m
              · have := srt4_ge (b4.2.2.2.1 q2 w1 c)
                omega
              · by_cases c' : q2 = m
                · rw [c'] at z w3; omega
                · have := b5.2.2 q2 (by omega) h
                  unfold txt at this
                  omega
      refine c_name (Or.inr rfl) (by omega) (by omega) (by omega) (fun hnm => ?_) (fun hnm => ?_)
      · rw [if_neg (by omega)]
        refine c_text (by omega) (by omega) (by omega) (fun htx => ?_) (fun htx => ?_)
        · rw [if_neg (by omega)]
          obtain ⟨n1, n2, n3, n4, n5⟩ := hnm
          obtain ⟨t1, t2, t3⟩ := htx
          rw [if_neg (by omega)] at n2
          simp only [if_neg (show ¬ (1 : Int) = 0 from by omega)] at n4
          have q10 : 0 ≤ q1 := by omega
          have q20 : 0 ≤ q2 := by omega
          have hseg : segT T n s q1 q2 := by
            refine ⟨by omega, ?_, ?_, ⟨n1, n2, ?_, fun j u v => ?_, ?_⟩, ⟨t1, t2, fun j u v => ?_⟩⟩
            · rcases hq1 with w | ⟨w1, w2, w3, w4⟩
              · omega
              · rw [rr q1 q10 (by omega), w3]; rfl
            · rcases hq2 with w | ⟨w1, w2, w3, w4⟩
              · omega
              · rw [rr q2 q20 (by omega), w3]; rfl
            · rw [← hT8 s (by omega) (by omega)]; exact n3
            · rw [← hT8 j (by omega) (by omega)]; exact n4 j u v
            · rw [← hT8 s (by omega) (by omega), ← hT8 (s + 1) (by omega) (by omega)]
              rcases n5 with h | h
              · omega
              · exact h
            · rw [← hT8 j (by omega) (by omega)]; exact t3 j u v
          have hlb := segT_lbl hseg
          have hxl : (((spn T s (q2 + 1 - s).toNat).length : Nat) : Int) = q2 + 1 - s := by rw [spn_len]; omega
          have hfl := fl_le S hls.2.2.2
          have hxlen := lbl_len hlb
          have hat : atL D (r + 1) s (spn T s (q2 + 1 - s).toNat) := by
            refine spn_at (fun j u v => ?_)
            have e1 := rr (s + j) (by omega) (by omega)
            have e2 := hby (s + j) (by omega) (by omega)
            have e3 := lbl_rng hlb (T (s + j)) (by
              have := atL_mem (D := fun _ => T) (a := 0) (o := s) (spn_at (D := fun _ => T) (a := 0) (T := T) (s := s) (o := s) (n := (q2 + 1 - s).toNat) (fun _ _ _ => rfl)) j u (by omega)
              exact this)
            omega
          refine c_insert (S := S) (x := spn T s (q2 + 1 - s).toNat) ⟨hls, hlb, hat, ⟨by omega, by omega, by omega, by omega, by omega⟩, ⟨by omega, hcap.2, by omega⟩, hne⟩ (fun S1 D1 i1 i2 i3 i4 => ?_) (fun i1 => ?_)
          · have hp := plc_nn (spn T s (q2 + 1 - s).toNat) S
            rw [if_neg (by omega), w32_id (by omega) (by omega)]
            have fr1 : ∀ j, D1 r j = D r j := fun j => i3 _ _ hne.1 hne.2.1 hne.2.2.1
            have fr2 : ∀ j, D1 (r + 1) j = D (r + 1) j := fun j => i3 _ _ (by omega) (by omega) (by omega)
            have il := insL_len i1
            refine c_take1 D1 (T := T) (by rw [fr1]; exact hn) h1 h2 (fun j u v => by rw [← hT8 j u v]; unfold rat; rw [fr1, fr2]) (fun j u v => by rw [fr2]; exact hby j u v) hm hcap hne (by omega) (by omega) (by omega) i2 (insL_srt i1 hso (lbl_1 hlb) (fun y h => lbl_1 (hls.2.2.2 y h))) (fun S' D' p1 p2 p3 p4 p5 => ?_) (fun D' p1 p4 p5 => ?_)
            · refine hT S' D' ((tkP_cons hseg).mpr ⟨S1, by omega, i1, ?_⟩) p2 p3 (fun a j u v w => by rw [p4 a j u v w, i3 a j u v w]) (by rw [p5, i4])
              rw [show most - k - 1 = most - (k + 1) from by omega]
              exact p1
            · refine hF D' (fun ⟨S', h⟩ => ?_) (fun a j u v w => by rw [p4 a j u v w, i3 a j u v w]) (by rw [p5, i4])
              obtain ⟨S2, _, h3, h4⟩ := (tkP_cons hseg).mp h
              rw [i1] at h3
              injection h3 with h3
              subst h3
              refine p1 ⟨S', ?_⟩
              rw [show most - (k + 1) = most - k - 1 from by omega]
              exact h4
          · rw [if_pos (by omega)]
            refine hF D (fun ⟨S', h⟩ => ?_) (fun _ _ _ _ _ => rfl) rfl
            obtain ⟨S2, _, h3, h4⟩ := (tkP_cons hseg).mp h
            rw [i1] at h3
            exact absurd h3 (by simp)
        · rw [if_pos rfl]
          refine hF D (fun ⟨S', h⟩ => tkP_no (by omega) (fun m e w => ?_) h) (fun _ _ _ _ _ => rfl) rfl
          obtain ⟨rfl, rfl⟩ := noseg m e w
          exact absurd ⟨w.2.2.2.2.1, w.2.2.2.2.2.1, fun j u v => by rw [hT8 j (by omega) (by omega)]; exact w.2.2.2.2.2.2 j u v⟩ htx
      · rw [if_pos rfl]
        refine hF D (fun ⟨S', h⟩ => tkP_no (by omega) (fun m e w => ?_) h) (fun _ _ _ _ _ => rfl) rfl
        obtain ⟨rfl, rfl⟩ := noseg m e w
        obtain ⟨b1, b2, b3, ⟨m1, m2, m3, m4, m5⟩, b5⟩ := w
        refine absurd ⟨m1, by rw [if_neg (by omega)]; exact m2, ?_, fun j u v => ?_, Or.inr ?_⟩ hnm
        · rw [hT8 s (by omega) (by omega)]; exact m3
        · rw [hT8 j (by omega) (by omega), if_neg (by omega)]; exact m4 j u v
        · rw [hT8 s (by omega) (by omega), hT8 (s + 1) (by omega) (by omega)]; exact m5
    · exact fin (Or.inr (by omega))
  · exact fin (Or.inl (by omega))
termination_by (most - k).toNat
decreasing_by omega
theorem c_take {a0 r n most : Int} {T : Int → Int} (hn : D r 1 = n) (h1 : n ≤ ln (r + 1)) (h2 : 0 ≤ n ∧ n ≤ 20000) (hT8 : ∀ j, 0 ≤ j → j < n → rat D r j = T j) (hby : ∀ j, 0 ≤ j → j < n → -128 ≤ D (r + 1) j ∧ D (r + 1) j ≤ 127) (hm : 0 ≤ most ∧ most ≤ 3) (hcap : 66 ≤ ln (a0 + 2) ∧ ln (a0 + 2) ≤ 20000) (hne : r ≠ a0 ∧ r ≠ a0 + 1 ∧ r ≠ a0 + 2 ∧ r + 1 ≠ a0)
    (hT : ∀ S' D', tkP T n 0 most [] S' → lsIs D' a0 S' → srtL S' → (∀ a j, a ≠ a0 → a ≠ a0 + 1 → a ≠ a0 + 2 → D' a j = D a j) → K D' 1) (hF : ∀ D', (¬ ∃ S', tkP T n 0 most [] S') → (∀ a j, a ≠ a0 → a ≠ a0 + 1 → a ≠ a0 + 2 → D' a j = D a j) → K D' 0) : WP sc 79 0 D [(0, (1205, a0)), (1, (1207, r)), (2, (0, most))] [] K E := by
  refine v79_0 (v76_0 ?_)
  have fr : ∀ a j, a ≠ a0 → a ≠ a0 + 1 → (wr (wr D (a0 + 1) 1 0) a0 1 0) a j = D a j := fun a j u v => by rw [wr_ne u, wr_ne v]
  refine c_take1 _ (T := T) (S := []) (k := 0) (by rw [fr _ _ hne.1 hne.2.1]; exact hn) h1 h2 (fun j u v => by rw [← hT8 j u v]; unfold rat; rw [fr _ _ hne.1 hne.2.1, fr _ _ (by omega) (by omega)]) (fun j u v => by rw [fr _ _ (by omega) (by omega)]; exact hby j u v) hm.2 hcap hne (by omega) rfl (by omega) ⟨by rw [wr_self]; rfl, by rw [wr_ne (by omega), wr_self]; rfl, trivial, fun x h => absurd h (by simp)⟩ trivial (fun S' D' p1 p2 p3 p4 _ => ?_) (fun D' p1 p4 _ => ?_)
  · rw [show most - 0 = most from by omega] at p1
    exact hT S' D' p1 p2 p3 (fun a j u v w => by rw [p4 a j u v w, fr a j u v])
  · rw [show most - 0 = most from by omega] at p1
    exact hF D' p1 (fun a j u v w => by rw [p4 a j u v w, fr a j u v])
end PRS
