/-! reading: head lines, both sides -/
section LHD
variable {sc : Nat × (Nat → Int32)} {D D' A A' A0 : tD} {K : tD → Int → Prop} {E : tD → Nat → Prop} {T : Int → Int} {n c : Int}
theorem eo_pos {w h p : Int} : 0 ≤ (eoO T n w h p).1 := by
  unfold eoO
  repeat' split
  all_goals simp
theorem nm_pos {p : Int} {nF : List Int} : 0 ≤ (nmO T n p nF).1 := by
  unfold nmO
  repeat' split
  all_goals simp
theorem cif_P {α : Type} {P : α → Prop} {p : Prop} {a b : α} (h1 : P a) (h2 : P b) : P (cif p a b) := by
  by_cases h : p
  · rw [cif_pos h]; exact h1
  · rw [cif_neg h]; exact h2
theorem ty_pos {h p : Int} : 0 ≤ (tyO D T n h p).1 := by
  unfold tyO
  split
  · simp
  split
  · simp
  refine cif_P (P := fun x : Int × Int => 0 ≤ x.1) (by simp) ?_
  split
  · simp
  split
  · simp
  split
  · simp
  refine cif_P (P := fun x : Int × Int => 0 ≤ x.1) (by simp) ?_
  split <;> simp
theorem un_pos {F h p : Int} {nF : List Int} : 0 ≤ (unO D T n F h p nF).1 := by
  unfold unO
  split
  · simp
  split
  · exact nm_pos
  split
  · simp
  refine cif_P (P := fun x : Int × Int => 0 ≤ x.1) (by simp) ?_
  split <;> simp
theorem he_pos {h p : Int} {nF : List Int} : 0 ≤ (heO D T n h p nF).1 := by
  unfold heO
  split
  · simp
  split
  · exact nm_pos
  split
  · simp
  split
  · simp
  split <;> simp
/-- both sides find the same fault -/
theorem lnP_bad {a B : Int} {o : Int × Int} (hR : RC c T n a B D A) (hd : D' 1957 2 = o.1 ∧ D' 1957 3 = o.2) (ha : A' 1977 45 = o.1 ∧ A' 1977 46 = o.2) (hf : frW A A') (ho : 0 < o.1) : lnP c T n a B 0 D' A A' := by
  have h22 := hR.2.2.2.2.2.1
  have h5 : D 980 5 ≤ 24 := by
    have := hR.2.1.1.2.2.2.1.2.1
    rw [mx_lo (by omega)] at this
    exact this
  refine ⟨frV_W hf, Or.inr (Or.inr ⟨rfl, by rw [hd.1, ha.1], by rw [hd.2, ha.2], by rw [ha.1]; exact ho, ?_, ?_⟩)⟩
  · rw [hf _ _ (by omega)]; exact h22.1
  · rw [hf _ _ (by omega)]; omega
/-- the class's family, the other side's -/
theorem RC_fam0 {a B : Int} (hR : RC c T n a B D A) (h17 : D 1956 17 ≠ 0) : ∃ f, (0 ≤ f ∧ f < 8) ∧ D 980 4 = f + 1 ∧ D 1956 5 = aF 1 f ∧ A 1977 48 = 8 + f ∧ faR (mx D A) 1 f := by
  obtain ⟨_, ⟨h3, _⟩, _, _, _, _, _, h13⟩ := hR
  have h8 := h3.1.2
  rw [mx_lo (by omega)] at h8
  have g8 : 0 ≤ D 980 4 ∧ D 980 4 ≤ 8 := h8
  rcases h13 with w | ⟨g1, g2, g3, g4, _⟩
  · exact absurd w.2.2.2.1 h17
  · refine ⟨D 980 4 - 1, ⟨by omega, by omega⟩, by omega, g2, g4, h3.2.1 _ (by omega) ?_⟩
    rw [mx_lo (by omega)]
    show D 980 4 - 1 < D 980 4
    omega
/-- a family's name as a list -/
theorem RC_name {f : Int} (hok : okD D) (hf : 0 ≤ f ∧ f < 8) (hx : faR (mx D A) 1 f) : ∃ nF : List Int, nmC D (aF 1 f) nF ∧ A 1982 (8 + f) = (nF.length : Int) ∧ atL A 1981 (24 * (8 + f)) nF ∧ (∀ j, 0 ≤ j → j < D (aF 1 f + 1) 1 → rat D (aF 1 f + 1) j = A 1981 (24 * (8 + f) + j)) := by
  have aFb := aF1 f
  obtain ⟨_, ⟨⟨b1, b2, b3, b4⟩, b5⟩, _⟩ := hx
  have e8 : (8 : Int) * 1 + f = 8 + f := by omega
  rw [e8] at b1 b2 b3 b4
  rw [mx_lo (by omega), mx_hi (by omega)] at b1
  rw [mx_hi (by omega)] at b2 b3 b4
  have ra : ∀ j, 0 ≤ j → j < D (aF 1 f + 1) 1 → rat D (aF 1 f + 1) j = A 1981 (24 * (8 + f) + j) := fun j u v => by
    have := b4 j u (by rw [← b1]; exact v)
    rw [mx_lo (by omega), mx_hi (by omega)] at this
    unfold rat
    rw [if_pos ⟨u, v⟩]
    exact this
  have rb : ∀ j, 0 ≤ j → j < D (aF 1 f + 1) 1 → srt 5 (A 1981 (24 * (8 + f) + j)) = true := fun j u v => by
    have q := b5.2.2.2.1 j u (by rw [mx_lo (by omega)]; exact v)
    rw [if_pos rfl] at q
    have e : rat (mx D A) (aF 1 f + 1) j = rat D (aF 1 f + 1) j := rat_fr (mx_lo (by omega)) (fun j => mx_lo (by omega)) j
    rw [e, ra j u v] at q
    exact q
  have l24 := ln_nam (s := 1) (Or.inr rfl) (f := f) ⟨hf.1, by omega⟩
  refine ⟨spn (A 1981) (24 * (8 + f)) (A 1982 (8 + f)).toNat, ⟨?_, ?_, ?_, l24, ?_⟩, ?_, ?_, ra⟩
  · rw [spn_len, b1]; omega
  · refine spn_at (fun j u v => ?_)
    have w : j < D (aF 1 f + 1) 1 := by rw [b1]; omega
    have q := ra j u w
    unfold rat at q
    rw [if_pos ⟨u, w⟩] at q
    have q2 := srt5_lt (rb j u w)
    have hb := okD_byte hok (a := aF 1 f + 2) (j := j) ⟨by omega, by omega⟩ (kd_fam (Or.inr rfl) ⟨hf.1, by omega⟩).1 ⟨u, by rw [l24]; omega⟩
    rw [show aF 1 f + 1 + 1 = aF 1 f + 2 from by omega] at q
    rw [show (0 : Int) + j = j from by omega]
    omega
  · rw [spn_len]; omega
  · intro b hb
    obtain ⟨j, u, v, w⟩ := spn_mem hb
    have q2 := srt5_lt (rb (j - 24 * (8 + f)) (by omega) (by rw [b1]; omega))
    rw [show 24 * (8 + f) + (j - 24 * (8 + f)) = j from by omega] at q2
    omega
  · rw [spn_len]; omega
  · exact spn_at (fun j u v => rfl)
theorem nmC_uq {F : Int} {l m : List Int} (h : nmC D F l) (h2 : nmC D F m) : l = m := by
  have e1 := atL_spn h.2.1
  have e2 := atL_spn h2.2.1
  have e3 : l.length = m.length := by
    have := h.1
    have := h2.1
    omega
  rw [e1, e2, e3]
/-- how the other side's line follows -/
def Sim (sc : Nat × (Nat → Int32)) (y : Nat) (c : Int) (T : Int → Int) (n a B r : Int) (D D' : tD) : Prop := ∀ A, RC c T n a B D A → ∀ (K' : tD → Int → Prop) (E' : tD → Nat → Prop), (∀ A', lnP c T n a B r D' A A' → K' A' r) → WP sc y 0 A [(0, (1211, 1977))] [] K' E'
theorem RC_sh {a B : Int} (hR : RC c T n a B D A) (hD : ∀ x j, 980 ≤ x → x ≤ 1954 → D' x j = D x j) (hA : ∀ x j, 1979 ≤ x → x ≤ 2008 → A' x j = A x j) (hA2 : ∀ j, j = 22 ∨ j = 35 → A' 1977 j = A 1977 j) : shR c (mx D' A') 1 := by
  refine shR_fr2 (D := mx D A) (Or.inr rfl) (Int.le_refl _) (fun x j u => ?_) hR.2.1.1
  by_cases z : x < 1977
  · rw [mx_lo z, mx_lo z]
    refine hD x j ?_ ?_ <;> rcases u with w | w | w | w | w | w | w <;> omega
  · rw [mx_hi (by omega), mx_hi (by omega)]
    by_cases z7 : x = 1977
    · subst z7
      refine hA2 j ?_
      rcases u with w | w | w | w | w | w | w <;> omega
    · refine hA x j ?_ ?_ <;> rcases u with w | w | w | w | w | w | w <;> omega
theorem untN_extN {N M : Int → Int} {z kd s e : Int} (hs : s ≤ e) (h : ∀ j, 0 ≤ j → j < z → N j = M j) : untN N z T kd s e ↔ untN M z T kd s e := by
  unfold untN
  refine ⟨fun ⟨a1, a2, a3, a4, a5, a6⟩ => ⟨a1, a2, a3, a4, ?_, fun j u v => ?_⟩, fun ⟨a1, a2, a3, a4, a5, a6⟩ => ⟨a1, a2, a3, a4, ?_, fun j u v => ?_⟩⟩
  · rw [← h _ (by omega) (by omega)]; exact a5
  · rw [← h _ (by omega) (by omega)]; exact a6 j u v
  · rw [h _ (by omega) (by omega)]; exact a5
  · rw [h _ (by omega) (by omega)]; exact a6 j u v
/-- the family that a head line speaks of -/
theorem RC_pick {a B : Int} (hok : okD D) (hR : RC c T n a B D A) : ∃ (f : Int) (nF : List Int), (0 ≤ f ∧ f < 8) ∧ (D 1956 17 ≠ 0 → D 980 4 = f + 1 ∧ D 1956 5 = aF 1 f ∧ nmC D (aF 1 f) nF) := by
  by_cases h : D 1956 17 = 0
  · exact ⟨0, [], by omega, fun w => absurd h w⟩
  · obtain ⟨f, h1, h2, h3, h4, h5⟩ := RC_fam0 hR h
    obtain ⟨nF, h6, _⟩ := RC_name hok h1 h5
    exact ⟨f, nF, h1, fun _ => ⟨h2, h3, h6⟩⟩
theorem RC_now {a B f : Int} {nF : List Int} (hok : okD D) (hR : RC c T n a B D A) (h17 : D 1956 17 ≠ 0) (hf : D 980 4 = f + 1) (hn : nmC D (aF 1 f) nF) : (0 ≤ f ∧ f < 8) ∧ A 1977 48 = 8 + f ∧ faR (mx D A) 1 f ∧ A 1982 (8 + f) = (nF.length : Int) ∧ atL A 1981 (24 * (8 + f)) nF ∧ ∀ j, 0 ≤ j → j < D (aF 1 f + 1) 1 → rat D (aF 1 f + 1) j = A 1981 (24 * (8 + f) + j) := by
  obtain ⟨g, h1, h2, h3, h4, h5⟩ := RC_fam0 hR h17
  have e : g = f := by omega
  subst e
  obtain ⟨m, h6, h7, h8, h9⟩ := RC_name hok h1 h5
  have e2 := nmC_uq h6 hn
  subst e2
  exact ⟨h1, h4, h5, h7, h8, h9⟩
theorem l_hline {a B : Int} (hR0 : RC c T n a B D A0) (h35 : pb T n a = 35) (hK : ∀ D' r, (r = 0 ∨ r = 1) → frZ D D' → Sim sc 259 c T n a B r D D' → K D' r) : WP sc 125 0 D [(0, (1209, 1956))] [] K E := by
  refine wp_ok (fun hok => ?_)
  have hc := hR0.1.1
  have cc := hc.2
  have an := pb_lt h35 (by omega)
  have eb : pb T n (a + 1) = 32 → a + 2 ≤ hdE T n a ∧ hdE T n a ≤ n := fun e => by
    have := pb_lt e (by omega)
    exact ru_b (s := 0) (T := T) (n := n) (a := a + 2) (by omega)
  have f1 : frZ D (wr D 1957 1 (hdE T n a)) := frZ_wr (by omega)
  have w1 : ∀ x j, x ≠ 1957 → (wr D 1957 1 (hdE T n a)) x j = D x j := fun x j u => wr_ne u
  have g1 : ∀ A : tD, frW A (wr A 1977 47 (hdE T n a)) := fun A => frW_wr (by omega)
  have v1 : ∀ (A : tD) x j, ¬ (x = 1977 ∧ j = 47) → (wr A 1977 47 (hdE T n a)) x j = A x j := fun A x j u => by
    by_cases y : x = 1977
    · subst y; exact wr_ni (by omega)
    · exact wr_ne y
  refine t_hline hc h35 (fun e => ?_) (fun e q1 => ?_) (fun e n1 q2 => ?_) (fun e n1 n2 q3 => ?_) (fun e n1 n2 n3 q4 => ?_) (fun e n1 n2 n3 n4 => ?_)
  · refine hK _ 0 (Or.inl rfl) (frZ_tr (frZ_wr (by omega)) frZ_fc) (fun A hA K' E' hK' => ?_)
    refine u_hline hA.1.2 h35 (fun _ => ?_) (fun w => absurd w e) (fun w => absurd w e) (fun w => absurd w e) (fun w => absurd w e) (fun w => absurd w e)
    exact hK' _ (lnP_bad (o := (1, a + 1)) hA ⟨fc_2, fc_3⟩ ⟨fl_45, fl_46⟩ (frW_tr (frW_wr (by omega)) frW_fl) (by simp))
  · have hb := eb e
    refine t_eof (cu_wr hc ⟨by omega, hb.2⟩) (fun e0 e10 => ?_) (fun e0 D' d1 d2 d3 => ?_)
    · refine tbl_of (Or.inr rfl) (hK _ 1 (Or.inr rfl) (frZ_tr f1 (frZ_tr (frZ_wr (by omega)) (frZ_wr (by omega)))) (fun A hA K' E' hK' => ?_))
      refine u_hline hA.1.2 h35 (fun w => absurd e w) (fun _ _ => ?_) (fun _ w _ => absurd q1 w) (fun _ w _ _ => absurd q1 w) (fun _ w _ _ _ => absurd q1 w) (fun _ w _ _ _ => absurd q1 w)
      have hh := hA.2.2.2.2.1.2
      have h22 := hA.2.2.2.2.2.1
      have h5 : D 980 5 ≤ 24 := by
        have := hA.2.1.1.2.2.2.1.2.1
        rw [mx_lo (by omega)] at this
        exact this
      refine u_eof (mu_wr hA.1.2 ⟨by omega, hb.2⟩) (w := (wr D 1957 1 (hdE T n a)) 1956 11) (by rw [w1 _ _ (by omega), v1 _ _ _ (by omega)]; exact hh) (fun _ => ?_) (fun w => absurd e0 w)
      have z7 : ∀ j, j ≠ 47 → j ≠ 61 → (wr (wr (wr A 1977 47 (hdE T n a)) 1977 47 (hdE T n a + 1)) 1977 61 1) 1977 j = A 1977 j := fun j u v => by rw [wr_ni v, wr_ni u, wr_ni u]
      refine tbl_of (Or.inr rfl) (hK' _ ⟨frV_W (frW_tr (g1 A) (frW_tr (frW_wr (by omega)) (frW_wr (by omega)))), Or.inr (Or.inl ⟨rfl, wr_self, wr_self, ?_, ⟨?_, ?_⟩, ⟨?_, ?_⟩, ?_, ?_⟩)⟩)
      · refine RC_sh hA (fun x j u v => by rw [wr_ne (by omega), wr_ne (by omega), wr_ne (by omega)]) (fun x j u v => ?_) (fun j u => z7 j (by omega) (by omega))
        by_cases y : x = 1977
        · omega
        · rw [wr_ne y, wr_ne y, wr_ne y]
      · rw [wr_ne (by omega), wr_ni (by omega), wr_ni (by omega)]; exact hA.2.2.1.1.1
      · rw [z7 _ (by omega) (by omega)]; exact hA.1.2.1.2.2
      · rw [wr_ne (by omega), wr_ni (by omega), wr_ni (by omega)]; exact hA.2.2.1.1.2.1
      · rw [z7 _ (by omega) (by omega)]; exact hA.2.2.1.1.2.2
      · rw [z7 _ (by omega) (by omega)]; exact h22.1
      · rw [z7 _ (by omega) (by omega)]; omega
    · refine tbl_of (Or.inl rfl) (hK _ 0 (Or.inl rfl) (frZ_tr f1 d3) (fun A hA K' E' hK' => ?_))
      refine u_hline hA.1.2 h35 (fun w => absurd e w) (fun _ _ => ?_) (fun _ w _ => absurd q1 w) (fun _ w _ _ => absurd q1 w) (fun _ w _ _ _ => absurd q1 w) (fun _ w _ _ _ => absurd q1 w)
      refine u_eof (mu_wr hA.1.2 ⟨by omega, hb.2⟩) (w := (wr D 1957 1 (hdE T n a)) 1956 11) (by rw [w1 _ _ (by omega), v1 _ _ _ (by omega)]; exact hA.2.2.2.2.1.2) (fun w => absurd w e0) (fun _ A' a1 a2 a3 => ?_)
      exact tbl_of (Or.inl rfl) (hK' _ (lnP_bad hA ⟨d1, d2⟩ ⟨a1, a2⟩ (frW_tr (g1 A) a3) (by have := eo_pos (T := T) (n := n) (w := (wr D 1957 1 (hdE T n a)) 1956 11) (h := a) (p := hdE T n a); omega)))
  · have hb := eb e
    have s8 : 0 ≤ D 980 4 ∧ D 980 4 ≤ 8 := by
      have g := hR0.2.1.1.1.2
      rw [mx_lo (by omega)] at g
      exact g
    have w4 : (wr D 1957 1 (hdE T n a)) 980 4 = D 980 4 := w1 _ _ (by omega)
    have wF : ∀ k d j, 0 ≤ k → k < 8 → 0 ≤ d → d ≤ 16 → (wr D 1957 1 (hdE T n a)) (aF 1 k + d) j = D (aF 1 k + d) j := fun k d j u v x1 x2 => w1 _ _ (by have := aF1 k; omega)
    have wF0 : ∀ k j, 0 ≤ k → k < 8 → (wr D 1957 1 (hdE T n a)) (aF 1 k) j = D (aF 1 k) j := fun k j u v => w1 _ _ (by have := aF1 k; omega)
    have fA : ∀ A, RC c T n a B D A → ∀ k, 0 ≤ k → k < D 980 4 → faR (mx D A) 1 k := fun A hA k u v => hA.2.1.1.2.1 k u (by rw [mx_lo (by omega)]; exact v)
    have hG : ∀ k, 0 ≤ k → k < (wr D 1957 1 (hdE T n a)) 980 4 → (0 ≤ (wr D 1957 1 (hdE T n a)) (aF 1 k + 1) 1 ∧ (wr D 1957 1 (hdE T n a)) (aF 1 k + 1) 1 ≤ 24) ∧ 0 ≤ (wr D 1957 1 (hdE T n a)) (aF 1 k) 5 ∧ (wr D 1957 1 (hdE T n a)) (aF 1 k) 5 ≤ 4 := fun k u v => by
      rw [w4] at v
      have g := fA A0 hR0 k u v
      have aFb := aF1 k
      rw [wF k 1 _ u (by omega) (by omega) (by omega), wF0 k _ u (by omega)]
      have g1 := g.1.2
      rw [mx_lo (by omega)] at g1
      have g2 := g.2.1.1
      have g3 : mx D A0 (aF 1 k + 1) 1 = D (aF 1 k + 1) 1 := mx_lo (by omega)
      exact ⟨by rw [← g3, g2.1]; exact ⟨g2.2.1, g2.2.2.1⟩, g1⟩
    have dX : ∀ A, RC c T n a B D A → ∀ s e kd, (∃ k, (0 ≤ k ∧ k < (wr D 1957 1 (hdE T n a)) 980 4) ∧ clF (fun j => T (s + j)) (e - s) kd (nmf (wr A 1977 47 (hdE T n a)) (8 + k)) ((wr A 1977 47 (hdE T n a)) 1982 (8 + k)) ((wr A 1977 47 (hdE T n a)) 1980 (8 + k))) ↔ tyX (wr D 1957 1 (hdE T n a)) T s e kd := fun A hA s e kd => by
      unfold tyX
      rw [w4]
      have one : ∀ k, 0 ≤ k → k < D 980 4 → (clF (fun j => T (s + j)) (e - s) kd (nmf (wr A 1977 47 (hdE T n a)) (8 + k)) ((wr A 1977 47 (hdE T n a)) 1982 (8 + k)) ((wr A 1977 47 (hdE T n a)) 1980 (8 + k)) ↔ clF (fun j => T (s + j)) (e - s) kd ((wr D 1957 1 (hdE T n a)) (aF 1 k + 2)) ((wr D 1957 1 (hdE T n a)) (aF 1 k + 1) 1) ((wr D 1957 1 (hdE T n a)) (aF 1 k) 5)) := fun k u v => by
        have aFb := aF1 k
        have g := fA A hA k u v
        obtain ⟨nF, x1, x2, x3, _⟩ := RC_name hok ⟨u, by omega⟩ g
        have k5 := g.1.1
        rw [mx_lo (by omega), mx_hi (by omega), show (8 : Int) * 1 + k = 8 + k from by omega] at k5
        rw [v1 _ 1982 _ (by omega), v1 _ 1980 _ (by omega), wF k 1 _ u (by omega) (by omega) (by omega), wF0 k _ u (by omega), x1.1, x2, k5]
        refine clF_ext (fun j _ _ => rfl) (fun j y1 y2 => ?_)
        show (wr A 1977 47 (hdE T n a)) 1981 (24 * (8 + k) + j) = _
        rw [v1 _ _ _ (by omega), wF k 2 _ u (by omega) (by omega) (by omega)]
        have q := atL_eq x3 x1.2.1 j y1 y2
        rw [show (0 : Int) + j = j from by omega] at q
        exact q
      exact ⟨fun ⟨k, u, v⟩ => ⟨k, u, (one k u.1 u.2).mp v⟩, fun ⟨k, u, v⟩ => ⟨k, u, (one k u.1 u.2).mpr v⟩⟩
    have nz : ∀ A, RC c T n a B D A → ∀ k, 0 ≤ k → k < (wr D 1957 1 (hdE T n a)) 980 4 → nzP (wr A 1977 47 (hdE T n a)) (8 + k) := fun A hA k u v => by
      rw [w4] at v
      obtain ⟨nF, x1, x2, x3, _⟩ := RC_name hok ⟨u, by omega⟩ (fA A hA k u v)
      have := x1.2.2.1
      exact ⟨by omega, by rw [v1 _ _ _ (by omega), x2]; omega, by rw [v1 _ _ _ (by omega), x2]; omega⟩
    have m79 : ∀ A, RC c T n a B D A → (wr A 1977 47 (hdE T n a)) 1979 1 = (wr D 1957 1 (hdE T n a)) 980 4 := fun A hA => by
      rw [w4, v1 _ _ _ (by omega)]
      have g := hA.2.1.1.1.1
      rw [mx_lo (by omega), mx_hi (by omega)] at g
      exact g.symm
    have go : ∀ A, RC c T n a B D A → ∀ {K' : tD → Int → Prop} {E' : tD → Nat → Prop}, WP sc 261 0 (wr A 1977 47 (hdE T n a)) [(0, (1211, 1977)), (1, (0, a))] [] (fun D r => tbl r (K' D r)) E' → WP sc 259 0 A [(0, (1211, 1977))] [] K' E' := fun A hA {K' E'} hh => u_hline hA.1.2 h35 (fun w => absurd e w) (fun _ w => absurd w n1) (fun _ _ _ => hh) (fun _ _ w _ => absurd q2 w) (fun _ _ w _ _ => absurd q2 w) (fun _ _ w _ _ => absurd q2 w)
    refine t_type (cu_wr hc ⟨by omega, hb.2⟩) (by rw [w4]; exact s8) hG (fun e0 D' R => ?_) (fun e0 D' d1 d2 d3 => ?_)
    · have aFb := aF1 ((wr D 1957 1 (hdE T n a)) 980 4)
      have hw : (wr D 1957 1 (hdE T n a)) 1956 11 ≠ 0 := fun w => by
        unfold tyO at e0
        rw [if_pos w] at e0
        exact absurd (show (5 : Int) = 0 from e0) (by decide)
      have z8 : (wr D 1957 1 (hdE T n a)) 980 4 < 8 ∨ ¬ (wr D 1957 1 (hdE T n a)) 980 4 < 8 := by omega
      rcases z8 with z8 | z8
      · refine tbl_of (Or.inr rfl) (hK _ 1 (Or.inr rfl) (frZ_tr f1 (fun x j u => R.2.2.2.2.2.2 x j (by omega) (by omega) (by omega) (by omega) (by omega) (by omega))) (fun A hA K' E' hK' => ?_))
        refine go A hA (u_type (D := wr D 1957 1 (hdE T n a)) (mu_wr hA.1.2 ⟨by omega, hb.2⟩) (by rw [w1 _ _ (by omega), v1 _ _ _ (by omega)]; exact hA.2.2.2.2.1.2) ⟨m79 A hA, by rw [w4]; exact s8.1, by rw [w4]; exact s8.2⟩ (nz A hA) (dX A hA) (fun _ A' M W hn kd4 e10 _ => ?_) (fun w => absurd e0 w))
        have kn := pb_lt e10 (by omega)
        have kb := ru_b (s := 1) (T := T) (n := n) (a := tyN T n (hdE T n a) + 1)
        have nb := hn.1
        have kk : hdE T n a < tyK T n (hdE T n a) := by
          have : tyN T n (hdE T n a) + 1 ≤ tyK T n (hdE T n a) := by
            by_cases y : tyN T n (hdE T n a) + 1 ≤ n
            · exact (kb y).1
            · have e2 : tyK T n (hdE T n a) = tyN T n (hdE T n a) + 1 := ru_stop (fun w => by omega)
              omega
          omega
        exact tbl_of (Or.inr rfl) (hK' _ ⟨frV_W (frW_tr (g1 A) W), Or.inl ⟨rfl, tyK T n (hdE T n a) + 1, by omega, RC_type (RC_to hA ⟨by omega, hb.2⟩) hw R M W hn kd4 ⟨rfl, z8⟩ ⟨by omega, by omega⟩⟩⟩)
      · exfalso
        unfold tyO at e0
        rw [if_neg hw] at e0
        by_cases y1 : pb T n (hdE T n a) = 32
        · rw [if_neg (fun w => w y1)] at e0
          by_cases y2 : fnamT T (hdE T n a + 1) (tyN T n (hdE T n a))
          · rw [cif_neg (fun w => w y2), if_pos z8] at e0
            exact absurd (show (14 : Int) = 0 from e0) (by decide)
          · rw [cif_pos y2] at e0
            exact absurd (show (2 : Int) = 0 from e0) (by decide)
        · rw [if_pos y1] at e0
          exact absurd (show (1 : Int) = 0 from e0) (by decide)
    · refine tbl_of (Or.inl rfl) (hK _ 0 (Or.inl rfl) (frZ_tr f1 d3) (fun A hA K' E' hK' => ?_))
      refine go A hA (u_type (D := wr D 1957 1 (hdE T n a)) (mu_wr hA.1.2 ⟨by omega, hb.2⟩) (by rw [w1 _ _ (by omega), v1 _ _ _ (by omega)]; exact hA.2.2.2.2.1.2) ⟨m79 A hA, by rw [w4]; exact s8.1, by rw [w4]; exact s8.2⟩ (nz A hA) (dX A hA) (fun w => absurd w e0) (fun _ A' a1 a2 a3 => ?_))
      exact tbl_of (Or.inl rfl) (hK' _ (lnP_bad hA ⟨d1, d2⟩ ⟨a1, a2⟩ (frW_tr (g1 A) a3) (by have := ty_pos (D := wr D 1957 1 (hdE T n a)) (T := T) (n := n) (h := a) (p := hdE T n a); omega)))
  · have hb := eb e
    obtain ⟨f, nF, hf8, hpk⟩ := RC_pick hok hR0
    have aFb := aF1 f
    have w17 : (wr D 1957 1 (hdE T n a)) 1956 17 = D 1956 17 := w1 _ _ (by omega)
    have wF : ∀ d j, 0 ≤ d → d ≤ 16 → (wr D 1957 1 (hdE T n a)) (aF 1 f + d) j = D (aF 1 f + d) j := fun d j x1 x2 => w1 _ _ (by omega)
    have wF0 : ∀ j, (wr D 1957 1 (hdE T n a)) (aF 1 f) j = D (aF 1 f) j := fun j => w1 _ _ (by omega)
    have go : ∀ A, RC c T n a B D A → ∀ {K' : tD → Int → Prop} {E' : tD → Nat → Prop}, WP sc 263 0 (wr A 1977 47 (hdE T n a)) [(0, (1211, 1977)), (1, (0, a))] [] (fun D r => tbl r (K' D r)) E' → WP sc 259 0 A [(0, (1211, 1977))] [] K' E' := fun A hA {K' E'} hh => u_hline hA.1.2 h35 (fun w => absurd e w) (fun _ w => absurd w n1) (fun _ _ w => absurd w n2) (fun _ _ _ _ => hh) (fun _ _ _ w _ => absurd q3 w) (fun _ _ _ w _ => absurd q3 w)
    have nwA : ∀ A, RC c T n a B D A → D 1956 17 ≠ 0 → nwM (wr A 1977 47 (hdE T n a)) nF := fun A hA h17 => by
      obtain ⟨p1, p2, p3⟩ := hpk h17
      obtain ⟨x1, x2, x3, x4, x5, x6⟩ := RC_now hok hA h17 p1 p3
      have l24 := p3.2.2.1
      refine ⟨?_, ?_, l24, ?_, ?_⟩
      · rw [v1 _ _ _ (by omega), x2]; omega
      · rw [v1 _ 1977 48 (by omega), x2, v1 _ _ _ (by omega)]; exact x4
      · rw [v1 _ 1977 48 (by omega), x2]
        exact atL_fr (fun j _ _ => v1 _ _ _ (by omega)) x5
      · rw [v1 _ _ _ (by omega), x2]; omega
    have nC : D 1956 17 ≠ 0 → nmC (wr D 1957 1 (hdE T n a)) (aF 1 f) nF := fun h17 => by
      obtain ⟨p1, p2, y1, y2, y3, y4, y5⟩ := hpk h17
      exact ⟨by rw [wF 1 _ (by omega) (by omega)]; exact y1, atL_fr (fun j _ _ => wF 2 _ (by omega) (by omega)) y2, y3, y4, y5⟩
    have uX : ∀ A, RC c T n a B D A → D 1956 17 ≠ 0 → ∀ s e, s ≤ e → (untN (rat (wr D 1957 1 (hdE T n a)) (aF 1 f + 1)) ((wr D 1957 1 (hdE T n a)) (aF 1 f + 1) 1) T ((wr D 1957 1 (hdE T n a)) (aF 1 f) 5) s e ↔ untN (fun j => (wr A 1977 47 (hdE T n a)) 1981 (24 * (wr A 1977 47 (hdE T n a)) 1977 48 + j)) ((wr A 1977 47 (hdE T n a)) 1982 ((wr A 1977 47 (hdE T n a)) 1977 48)) T ((wr A 1977 47 (hdE T n a)) 1980 ((wr A 1977 47 (hdE T n a)) 1977 48)) s e) := fun A hA h17 s e hse => by
      obtain ⟨p1, p2, p3⟩ := hpk h17
      obtain ⟨x1, x2, x3, x4, x5, x6⟩ := RC_now hok hA h17 p1 p3
      have k5 := x3.1.1
      rw [mx_lo (by omega), mx_hi (by omega), show (8 : Int) * 1 + f = 8 + f from by omega] at k5
      rw [v1 _ 1977 48 (by omega), x2, v1 _ 1982 _ (by omega), v1 _ 1980 _ (by omega), x4, ← k5, wF 1 _ (by omega) (by omega), wF0, p3.1]
      refine untN_extN hse (fun j y1 y2 => ?_)
      rw [v1 _ 1981 _ (by omega), ← x6 j y1 (by rw [p3.1]; exact y2)]
      exact rat_fr (wF 1 _ (by omega) (by omega)) (fun j => by rw [show aF 1 f + 1 + 1 = aF 1 f + 2 from by omega]; exact wF 2 _ (by omega) (by omega)) j
    refine t_unit (F := aF 1 f) (nF := nF) (cu_wr hc ⟨by omega, hb.2⟩) (fun w => by rw [w17] at w; rw [w1 _ _ (by omega)]; exact (hpk (by omega)).2.1) ⟨by omega, by omega, ln_uni (Or.inr rfl) ⟨hf8.1, by omega⟩⟩ (fun w => nC (by rw [w17] at w; omega)) (fun e0 eu D' R => ?_) (fun e0 D' d1 d2 d3 => ?_)
    · have h17 : D 1956 17 = 1 := by
        by_cases y : D 1956 17 = 1
        · exact y
        · unfold unO at e0
          rw [w17, if_pos y] at e0
          exact absurd (show (5 : Int) = 0 from e0) (by decide)
      obtain ⟨p1, p2, p3⟩ := hpk (by omega)
      refine tbl_of (Or.inr rfl) (hK _ 1 (Or.inr rfl) (frZ_tr f1 (fun x j u => R.2.2 x j (by omega) (by omega) (by omega) (by omega))) (fun A hA K' E' hK' => ?_))
      have x2 := (RC_now hok hA (by omega) p1 p3).2.1
      have x3 := (RC_now hok hA (by omega) p1 p3).2.2.1
      refine go A hA (u_unit (D := wr D 1957 1 (hdE T n a)) (F := aF 1 f) (nF := nF) (mu_wr hA.1.2 ⟨by omega, hb.2⟩) (by rw [w17, v1 _ _ _ (by omega)]; exact hA.2.2.2.1.2.1) (fun _ => nwA A hA (by omega)) (fun _ => uX A hA (by omega)) (fun _ A' M W hq => ?_) (fun w => absurd e0 w))
      have v48 : (wr A 1977 47 (hdE T n a)) 1977 48 = 8 + f := by rw [v1 _ _ _ (by omega)]; exact x2
      unfold muR at M
      rw [v48] at M
      obtain ⟨M1, M2, M3, M4, M5, M6⟩ := M
      obtain ⟨R1, R2, R3⟩ := R
      have en : (nmO T n (hdE T n a) nF).1 = 0 := by
        by_cases y : (nmO T n (hdE T n a) nF).1 = 0
        · exact y
        · unfold unO at e0
          rw [if_neg (fun w => w (by rw [w17]; exact h17)), if_pos y] at e0
          exact absurd e0 y
      obtain ⟨o1, o2, o3, o4⟩ := nmO_0 en
      have on := pb_lt o3 (by omega)
      have ob := ru_b (s := 5) (T := T) (n := n) (a := hdE T n a + 1) (by have := pb_lt o1 (by omega); omega)
      have oz : ru 5 T n (hdE T n a + 1) = nmZ T n (hdE T n a) := rfl
      rw [oz] at ob
      generalize (nmO T n (hdE T n a) nF).2 = u at *
      have rb := ru_b (s := 3) (T := T) (n := n) (a := u) (by omega)
      have ri := ru_in (s := 3) (T := T) (n := n) (a := u) (by omega)
      have eU : ru 3 T n u = unE T n u := rfl
      rw [eU] at rb ri
      have hfa : faR (mx D' A') 1 f := by
        refine faR_unit (D := D) (A := A) (T := T) (u := u) (e := unE T n u) x3 hf8 ⟨by rw [mx_lo (by omega)]; exact R1.1, M1.1, by omega, by have := eu.1; omega⟩ (fun j y1 y2 => ⟨R1.2 j y1 y2, M1.2 j y1 y2, ?_, ?_⟩) (fun x j y1 y2 y3 y4 => ?_) (fun x j y1 y2 y3 y4 => ?_)
        · have := ri (u + j) (by omega) (by omega); rw [srt_iff] at this; omega
        · have := ri (u + j) (by omega) (by omega); rw [srt_iff] at this; omega
        · rw [R3 x j y3 y4 (by omega) (by omega)]; exact w1 _ _ (by omega)
        · rw [M6 x j (by omega) y3 y4]; exact v1 _ _ _ (by omega)
      refine tbl_of (Or.inr rfl) (hK' _ ⟨frV_W (frW_tr (g1 A) W), Or.inl ⟨rfl, unE T n u + 1, by omega, ?_⟩⟩)
      refine RC_fam (f := f) (RC_to hA ⟨by omega, hb.2⟩) hf8.1 (by rw [w1 _ _ (by omega)]; exact p1) ⟨by omega, by omega⟩ hfa (fun x j y1 y2 y3 => R3 x j (by omega) (by omega) y2 y3) R2.2 M2.2 (fun x j y1 y2 y3 y4 y5 => ?_) (fun j y1 y2 y3 => M5 j y2 y1) ⟨by rw [R2.1]; omega, by rw [R2.1, M2.1], by rw [R2.1, M2.1]⟩
      by_cases z4 : x = 1984
      · subst z4; exact M3 j (by omega)
      by_cases z3 : x = 1983
      · subst z3; exact M4 j (by omega)
      exact M6 x j y1 z3 z4
    · refine tbl_of (Or.inl rfl) (hK _ 0 (Or.inl rfl) (frZ_tr f1 d3) (fun A hA K' E' hK' => ?_))
      refine go A hA (u_unit (D := wr D 1957 1 (hdE T n a)) (F := aF 1 f) (nF := nF) (mu_wr hA.1.2 ⟨by omega, hb.2⟩) (by rw [w17, v1 _ _ _ (by omega)]; exact hA.2.2.2.1.2.1) (fun w => nwA A hA (by rw [w17] at w; omega)) (fun w => uX A hA (by rw [w17] at w; omega)) (fun w => absurd w e0) (fun _ A' a1 a2 a3 => ?_))
      exact tbl_of (Or.inl rfl) (hK' _ (lnP_bad hA ⟨d1, d2⟩ ⟨a1, a2⟩ (frW_tr (g1 A) a3) (by have := un_pos (D := wr D 1957 1 (hdE T n a)) (T := T) (n := n) (F := aF 1 f) (h := a) (p := hdE T n a) (nF := nF); omega)))
  · have hb := eb e
    obtain ⟨f, nF, hf8, hpk⟩ := RC_pick hok hR0
    have aFb := aF1 f
    have w17 : (wr D 1957 1 (hdE T n a)) 1956 17 = D 1956 17 := w1 _ _ (by omega)
    have wF : ∀ d j, 0 ≤ d → d ≤ 16 → (wr D 1957 1 (hdE T n a)) (aF 1 f + d) j = D (aF 1 f + d) j := fun d j x1 x2 => w1 _ _ (by omega)
    have go : ∀ A, RC c T n a B D A → ∀ {K' : tD → Int → Prop} {E' : tD → Nat → Prop}, WP sc 264 0 (wr A 1977 47 (hdE T n a)) [(0, (1211, 1977)), (1, (0, a))] [] (fun D r => tbl r (K' D r)) E' → WP sc 259 0 A [(0, (1211, 1977))] [] K' E' := fun A hA {K' E'} hh => u_hline hA.1.2 h35 (fun w => absurd e w) (fun _ w => absurd w n1) (fun _ _ w => absurd w n2) (fun _ _ _ w => absurd w n3) (fun _ _ _ _ _ => hh) (fun _ _ _ _ w => absurd q4 w)
    have nwA : ∀ A, RC c T n a B D A → D 1956 17 ≠ 0 → nwM (wr A 1977 47 (hdE T n a)) nF := fun A hA h17 => by
      obtain ⟨p1, p2, p3⟩ := hpk h17
      obtain ⟨x1, x2, x3, x4, x5, x6⟩ := RC_now hok hA h17 p1 p3
      have l24 := p3.2.2.1
      refine ⟨?_, ?_, l24, ?_, ?_⟩
      · rw [v1 _ _ _ (by omega), x2]; omega
      · rw [v1 _ 1977 48 (by omega), x2, v1 _ _ _ (by omega)]; exact x4
      · rw [v1 _ 1977 48 (by omega), x2]
        exact atL_fr (fun j _ _ => v1 _ _ _ (by omega)) x5
      · rw [v1 _ _ _ (by omega), x2]; omega
    have nC : D 1956 17 ≠ 0 → nmC (wr D 1957 1 (hdE T n a)) (aF 1 f) nF := fun h17 => by
      obtain ⟨p1, p2, y1, y2, y3, y4, y5⟩ := hpk h17
      exact ⟨by rw [wF 1 _ (by omega) (by omega)]; exact y1, atL_fr (fun j _ _ => wF 2 _ (by omega) (by omega)) y2, y3, y4, y5⟩
    have hl : ∀ A, RC c T n a B D A → (((wr A 1977 47 (hdE T n a)) 1977 49 = 1 ∨ (wr A 1977 47 (hdE T n a)) 1977 49 = 2) ↔ (wr D 1957 1 (hdE T n a)) 1956 17 ≠ 0) := fun A hA => by
      rw [w17, v1 _ _ _ (by omega), hA.2.2.2.1.2.1, hA.2.2.2.1.2.2]
      have := hA.2.2.2.1.1
      omega
    refine t_help (F := aF 1 f) (nF := nF) (cu_wr hc ⟨by omega, hb.2⟩) (fun w => by rw [w17] at w; rw [w1 _ _ (by omega)]; exact (hpk w).2.1) ⟨by omega, by omega, ln_hel (Or.inr rfl) ⟨hf8.1, by omega⟩⟩ (fun w => nC (by rw [w17] at w; exact w)) (fun e0 D' R => ?_) (fun e0 D' d1 d2 d3 => ?_)
    · have h17 : D 1956 17 ≠ 0 := fun y => by
        unfold heO at e0
        rw [w17, if_pos y] at e0
        exact absurd (show (5 : Int) = 0 from e0) (by decide)
      obtain ⟨p1, p2, p3⟩ := hpk h17
      refine tbl_of (Or.inr rfl) (hK _ 1 (Or.inr rfl) (frZ_tr f1 (fun x j u => R.2.2 x j (by omega) (by omega) (by omega) (by omega))) (fun A hA K' E' hK' => ?_))
      have x2 := (RC_now hok hA h17 p1 p3).2.1
      have x3 := (RC_now hok hA h17 p1 p3).2.2.1
      refine go A hA (u_help (D := wr D 1957 1 (hdE T n a)) (nF := nF) (mu_wr hA.1.2 ⟨by omega, hb.2⟩) (hl A hA) (fun _ => nwA A hA h17) (fun _ A' M W hq => ?_) (fun w => absurd e0 w))
      have v48 : (wr A 1977 47 (hdE T n a)) 1977 48 = 8 + f := by rw [v1 _ _ _ (by omega)]; exact x2
      unfold mhR at M
      rw [v48] at M
      obtain ⟨M1, M2, M3, M4, M5, M6⟩ := M
      obtain ⟨R1, R2, R3⟩ := R
      have en : (nmO T n (hdE T n a) nF).1 = 0 := by
        by_cases y : (nmO T n (hdE T n a) nF).1 = 0
        · exact y
        · unfold heO at e0
          rw [if_neg (by rw [w17]; exact h17), if_pos y] at e0
          exact absurd e0 y
      obtain ⟨o1, o2, o3, o4⟩ := nmO_0 en
      have on := pb_lt o3 (by omega)
      have ob := ru_b (s := 5) (T := T) (n := n) (a := hdE T n a + 1) (by have := pb_lt o1 (by omega); omega)
      have oz : ru 5 T n (hdE T n a + 1) = nmZ T n (hdE T n a) := rfl
      rw [oz] at ob
      generalize (nmO T n (hdE T n a) nF).2 = u at *
      have bb := es_bnd (T := T) (n := n) (a := u) ⟨by omega, by omega⟩
      have hfa : faR (mx D' A') 1 f := by
        refine faR_help (D := D) (A := A) (L := (es T n u).2.1) x3 hf8 ⟨R1.1, M1.1, hq.2.2.2⟩ ⟨R1.2, M1.2, bb.2.2.2⟩ (fun x j y1 y2 y3 y4 => ?_) (fun x j y1 y2 y3 y4 => ?_)
        · rw [R3 x j y3 y4 (by omega) (by omega)]; exact w1 _ _ (by omega)
        · rw [M6 x j (by omega) y3 y4 (by omega)]; exact v1 _ _ _ (by omega)
      refine tbl_of (Or.inr rfl) (hK' _ ⟨frV_W (frW_tr (g1 A) W), Or.inl ⟨rfl, (es T n u).1 + 1, by omega, ?_⟩⟩)
      refine RC_fam (f := f) (RC_to hA ⟨by omega, hb.2⟩) hf8.1 (by rw [w1 _ _ (by omega)]; exact p1) ⟨by omega, by omega⟩ hfa (fun x j y1 y2 y3 => R3 x j (by omega) (by omega) y2 y3) R2.2 M2.2 (fun x j y1 y2 y3 y4 y5 => ?_) (fun j y1 y2 y3 => M5 j y2 y1 y3) ⟨by rw [R2.1]; omega, by rw [R2.1, M2.1]; omega, by rw [R2.1, M2.1]; omega⟩
      by_cases z4 : x = 1986
      · subst z4; exact M3 j (by omega)
      by_cases z3 : x = 1985
      · subst z3; exact M4 j (by omega)
      exact M6 x j y1 z3 z4 y5
    · refine tbl_of (Or.inl rfl) (hK _ 0 (Or.inl rfl) (frZ_tr f1 d3) (fun A hA K' E' hK' => ?_))
      refine go A hA (u_help (D := wr D 1957 1 (hdE T n a)) (nF := nF) (mu_wr hA.1.2 ⟨by omega, hb.2⟩) (hl A hA) (fun w => nwA A hA (by rw [w17] at w; exact w)) (fun w => absurd w e0) (fun _ A' a1 a2 a3 => ?_))
      exact tbl_of (Or.inl rfl) (hK' _ (lnP_bad hA ⟨d1, d2⟩ ⟨a1, a2⟩ (frW_tr (g1 A) a3) (by have := he_pos (D := wr D 1957 1 (hdE T n a)) (T := T) (n := n) (h := a) (p := hdE T n a) (nF := nF); omega)))
  · have hb := eb e
    refine hK _ 0 (Or.inl rfl) (frZ_tr f1 frZ_fc) (fun A hA K' E' hK' => ?_)
    refine u_hline hA.1.2 h35 (fun w => absurd e w) (fun _ w => absurd w n1) (fun _ _ w => absurd w n2) (fun _ _ _ w => absurd w n3) (fun _ _ _ _ w => absurd w n4) (fun _ _ _ _ _ => ?_)
    exact hK' _ (lnP_bad (o := (1, a + 2)) hA ⟨fc_2, fc_3⟩ ⟨fl_45, fl_46⟩ (frW_tr (g1 A) frW_fl) (by simp))
end LHD
