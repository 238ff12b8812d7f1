/-! reading: head lines, the other side: unit, help, the line -/
section HDN
variable {sc : Nat × (Nat → Int32)} {D A A' : tD} {K : tD → Int → Prop} {E : tD → Nat → Prop} {T : Int → Int} {n : Int}
def nwM (A : tD) (nF : List Int) : Prop := (0 ≤ A 1977 48 ∧ A 1977 48 < 16) ∧ A 1982 (A 1977 48) = (nF.length : Int) ∧ nF.length ≤ 24 ∧ atL A 1981 (24 * A 1977 48) nF ∧ 8 ≤ A 1977 48
theorem u_named {p : Int} {nF : List Int} (hc : mu A T n p) (hF : nwM A nF) (hT : (nmO T n p nF).1 = 0 → K (wr A 1977 47 (nmO T n p nF).2) 1) (hN : (nmO T n p nF).1 ≠ 0 → ∀ A', A' 1977 45 = (nmO T n p nF).1 → A' 1977 46 = (nmO T n p nF).2 → frW A A' → K A' 0) : WP sc 262 0 A [(0, (1211, 1977))] [] K E := by
  have c := hc.2
  obtain ⟨g1, g2, g3, g4, _⟩ := hF
  refine v262_0 (u_expects hc (fun e => ?_) (fun e => ?_))
  rotate_left
  · rw [if_pos rfl]
    have en : nmO T n p nF = (1, p) := by unfold nmO; rw [if_pos e]
    rw [en] at hN
    exact hN (show (1 : Int) ≠ 0 from by decide) _ fl_45 fl_46 frW_fl
  rw [if_neg (by omega)]
  have pn := pb_lt e (by omega)
  have h1 := mu_wr hc (b := p + 1) ⟨by omega, by omega⟩
  refine u_names h1 ?_
  have rb := ru_b (s := 5) (T := T) (n := n) (a := p + 1) (by omega)
  have eN : ru 5 T n (p + 1) = nmZ T n p := rfl
  rw [eN] at rb ⊢
  rw [wr_wr]
  have h2 := mu_wr hc (b := nmZ T n p) ⟨by omega, by omega⟩
  have f2 : frW A (wr A 1977 47 (nmZ T n p)) := frW_wr (by omega)
  have d48 : (wr A 1977 47 (nmZ T n p)) 1977 48 = A 1977 48 := wr_ni (by omega)
  have d82 : (wr A 1977 47 (nmZ T n p)) 1982 (A 1977 48) = A 1982 (A 1977 48) := wr_ne (by omega)
  rw [d48, d82, wr_self, w32_id (x := 24 * A 1977 48) (by omega) (by omega)]
  refine ⟨g1, ?_⟩
  have key := ms_lbL (D := wr A 1977 47 (nmZ T n p)) (a := p + 1) (b := nmZ T n p) (f := A 1977 48) (nF := nF) ⟨_, h2⟩ ⟨by omega, rb.1, rb.2⟩ ⟨by rw [d82]; exact g2, atL_fr (fun j _ _ => wr_ne (by omega)) g4⟩
  rw [d82] at key
  refine m_same ⟨by omega, by rw [g2]; show _ ≤ (384 : Int); omega, by omega⟩ (by rw [g2]; omega) ⟨by omega, by omega⟩ ⟨by omega, by omega⟩ (fun q => ?_) (fun q => ?_)
  · rw [if_neg (by omega)]
    rw [key] at q
    refine u_expects h2 (fun e3 => ?_) (fun e3 => ?_)
    · rw [wr_wr]
      have en : nmO T n p nF = (0, nmZ T n p + 1) := by unfold nmO; rw [if_neg (fun w => w e), if_neg (fun w => w q), if_neg (fun w => w e3)]
      rw [en] at hT
      exact tbl_of (Or.inr rfl) (hT rfl)
    · have en : nmO T n p nF = (1, nmZ T n p) := by unfold nmO; rw [if_neg (fun w => w e), if_neg (fun w => w q), if_pos e3]
      rw [en] at hN
      exact tbl_of (Or.inl rfl) (hN (show (1 : Int) ≠ 0 from by decide) _ fl_45 fl_46 (frW_tr f2 frW_fl))
  · rw [if_pos rfl]
    rw [key] at q
    have en : nmO T n p nF = (2, p + 1) := by unfold nmO; rw [if_neg (fun w => w e), if_pos q]
    rw [en] at hN
    exact u_fails h2.1.2.2 (hN (show (2 : Int) ≠ 0 from by decide) _ fl_45 fl_46 (frW_tr f2 frW_fl))
/-! a unit -/
def muR (A A' : tD) (T : Int → Int) (u e q : Int) : Prop := (A' 1984 (A 1977 48) = e - u ∧ ∀ j, 0 ≤ j → j < e - u → A' 1983 (8 * A 1977 48 + j) = T (u + j)) ∧ (A' 1977 49 = 2 ∧ A' 1977 47 = q) ∧ (∀ j, j ≠ A 1977 48 → A' 1984 j = A 1984 j) ∧ (∀ j, ¬ (8 * A 1977 48 ≤ j ∧ j < 8 * A 1977 48 + 8) → A' 1983 j = A 1983 j) ∧ (∀ j, j ≠ 49 → j ≠ 47 → A' 1977 j = A 1977 j) ∧ ∀ x j, x ≠ 1977 → x ≠ 1983 → x ≠ 1984 → A' x j = A x j
theorem u_cp231 {u m f : Int} {A0 : tD} (hf : 0 ≤ f ∧ f < 16) (hm : 0 ≤ m ∧ m ≤ 8) (hu : 0 ≤ u ∧ u + m ≤ n ∧ n ≤ 4000) (ht : ∀ j, 0 ≤ j → j < n → A0 1978 j = T j) (hK : ∀ A', (∀ j, 0 ≤ j → j < m → A' 1983 (8 * f + j) = T (u + j)) → (∀ j, ¬ (8 * f ≤ j ∧ j < 8 * f + 8) → A' 1983 j = A0 1983 j) → (∀ x j, x ≠ 1983 → A' x j = A0 x j) → WP sc 253 0 (wr A' 1977 49 2) [(0, (1211, 1977)), (1, (0, 10))] [] (fun D1 r2 => tbl r2 (K D1 r2)) E) : ∀ (q : Nat) (k : Int) (A : tD), m - k = (q : Int) → 0 ≤ k → (∀ j, 0 ≤ j → j < k → A 1983 (8 * f + j) = T (u + j)) → (∀ j, ¬ (8 * f ≤ j ∧ j < 8 * f + 8) → A 1983 j = A0 1983 j) → (∀ x j, x ≠ 1983 → A x j = A0 x j) → WP sc 263 231 A [(0, (1211, 1977)), (2, (0, u)), (3, (0, m)), (4, (0, f)), (6, (0, k))] [] K E := by
  intro q
  induction q with
  | zero =>
    intro k A hq hk h1 h2 h3
    refine v263_231 ?_
    rw [if_neg (by omega)]
    exact hK A (fun j a b => h1 j a (by omega)) h2 h3
  | succ q ih =>
    intro k A hq hk h1 h2 h3
    refine v263_231 ?_
    rw [if_pos (by omega), w32_id (x := u + k) (by omega) (by omega), w32_id (x := 8 * f) (by omega) (by omega), w32_id (x := 8 * f + k) (by omega) (by omega), w32_id (x := k + 1) (by omega) (by omega), h3 1978 _ (by omega), ht _ (by omega) (by omega)]
    refine ⟨by omega, by omega, ih (k + 1) _ (by omega) (by omega) (fun j a b => ?_) (fun j a => ?_) (fun x j a => ?_)⟩
    · by_cases z : j = k
      · rw [z, wr_self]
      · rw [wr_ni (by omega)]; exact h1 j a (by omega)
    · rw [wr_ni (by omega)]; exact h2 j a
    · rw [wr_ne a]; exact h3 x j a
theorem u_134 {u m f z : Int} (hf : 0 ≤ f ∧ f < 16) (hm : 0 < m ∧ m ≤ 8) (hz : A 1982 f = z ∧ m + 1 < z ∧ z ≤ 24) (hu : 0 ≤ u ∧ u + m ≤ n ∧ n ≤ 4000) (ht : ∀ j, 0 ≤ j → j < n → A 1978 j = T j) (hT : (A 1981 (24 * f + (z - m - 1)) = 95 ∧ ∀ j, 0 ≤ j → j < m → A 1981 (24 * f + (z - m + j)) = T (u + j)) → WP sc 263 231 (wr A 1984 f m) [(0, (1211, 1977)), (2, (0, u)), (3, (0, m)), (4, (0, f)), (6, (0, 0))] [] K E) (hF : ¬ (A 1981 (24 * f + (z - m - 1)) = 95 ∧ ∀ j, 0 ≤ j → j < m → A 1981 (24 * f + (z - m + j)) = T (u + j)) → WP sc 251 0 A [(0, (1211, 1977)), (1, (0, 6)), (2, (0, u))] [] (fun D1 r2 => tbl r2 (K D1 r2)) E) : ∀ (q : Nat) (k x5 : Int), m + 1 - k = (q : Int) → 0 ≤ k → ((x5 = 0 ∧ ¬ (A 1981 (24 * f + (z - m - 1)) = 95 ∧ ∀ j, 0 ≤ j → j < m → A 1981 (24 * f + (z - m + j)) = T (u + j))) ∨ (x5 = 1 ∧ (0 < k → A 1981 (24 * f + (z - m - 1)) = 95) ∧ ∀ j, 0 ≤ j → j < k - 1 → A 1981 (24 * f + (z - m + j)) = T (u + j))) → WP sc 263 134 A [(0, (1211, 1977)), (2, (0, u)), (3, (0, m)), (4, (0, f)), (5, (0, x5)), (6, (0, k))] [] K E := by
  intro q
  induction q with
  | zero =>
    intro k x5 hq hk hx
    refine v263_134 ?_
    rcases hx with ⟨e1, e2⟩ | ⟨e1, e2, e3⟩
    · simp only [if_pos e1]; exact hF e2
    · have n1 : ¬ x5 = 0 := by omega
      simp only [if_neg n1]
      rw [if_pos (by omega)]
      exact ⟨by omega, hT ⟨e2 (by omega), fun j a b => e3 j a (by omega)⟩⟩
  | succ q ih =>
    intro k x5 hq hk hx
    refine v263_134 ?_
    rcases hx with ⟨e1, e2⟩ | ⟨e1, e2, e3⟩
    · simp only [if_pos e1]; exact hF e2
    · have n1 : ¬ x5 = 0 := by omega
      simp only [if_neg n1]
      rw [if_neg (by omega), hz.1, w32_id (x := 24 * f) (by omega) (by omega), w32_id (x := 24 * f + z) (by omega) (by omega), w32_id (x := 24 * f + z - m) (by omega) (by omega), w32_id (x := 24 * f + z - m - 1) (by omega) (by omega), w32_id (x := 24 * f + z - m - 1 + k) (by omega) (by omega), w32_id (x := u + k) (by omega) (by omega), w32_id (x := u + k - 1) (by omega) (by omega), w32_id (x := k + 1) (by omega) (by omega)]
      refine ⟨by omega, by omega, ?_⟩
      by_cases k0 : k = 0
      · rw [if_pos k0, show 24 * f + z - m - 1 + k = 24 * f + (z - m - 1) from by omega]
        by_cases y : A 1981 (24 * f + (z - m - 1)) = 95
        · rw [if_pos y]
          exact ih (k + 1) 1 (by omega) (by omega) (Or.inr ⟨rfl, fun _ => y, fun j a b => by omega⟩)
        · rw [if_neg y]
          exact ih (k + 1) 0 (by omega) (by omega) (Or.inl ⟨rfl, fun w => y w.1⟩)
      · rw [if_neg k0]
        refine ⟨by omega, ?_⟩
        rw [show 24 * f + z - m - 1 + k = 24 * f + (z - m + (k - 1)) from by omega, show u + k - 1 = u + (k - 1) from by omega, ht (u + (k - 1)) (by omega) (by omega)]
        by_cases y : A 1981 (24 * f + (z - m + (k - 1))) = T (u + (k - 1))
        · rw [if_pos y]
          refine ih (k + 1) 1 (by omega) (by omega) (Or.inr ⟨rfl, fun _ => e2 (by omega), fun j a b => ?_⟩)
          by_cases w : j = k - 1
          · rw [w]; exact y
          · exact e3 j a (by omega)
        · rw [if_neg y]
          exact ih (k + 1) 0 (by omega) (by omega) (Or.inl ⟨rfl, fun w => y (w.2 (k - 1) (by omega) (by omega))⟩)
theorem u_run29 {x2 : Int} {Q : tD → Prop} : ∀ (m : Nat) (b : Int) (A : tD), n - b = (m : Int) → mu A T n b → (∀ A1, A1 = wr A 1977 47 (ru 3 T n b) → Q A1) → (∀ b' A1, A1 = wr A 1977 47 b' → mu A1 T n b' → ru 3 T n b' = b' → b' = ru 3 T n b → Q A1 → (WP sc 263 29 A1 [(0, (1211, 1977)), (2, (0, x2))] [] K E)) → WP sc 263 29 A [(0, (1211, 1977)), (2, (0, x2))] [] K E := by
  intro m
  induction m with
  | zero =>
    intro b A hm h hQ hK
    have e : ru 3 T n b = b := ru_stop (fun w => by omega)
    have := hK b A (by rw [wr_id h.1.1]) h e e.symm (hQ A (by rw [e, wr_id h.1.1]))
    exact this
  | succ m ih =>
    intro b A hm h hQ hK
    have c := h.2
    by_cases e : b < n ∧ srt 3 (T b) = true
    · refine v263_29 (u_peek h (m_ub (fun y => ?_) (fun y => ?_)))
      · rw [if_neg (by omega), h.1.1, w32_id (by omega) (by omega)]
        have h1 := mu_wr h (b := b + 1) ⟨by omega, by omega⟩
        refine ih (b + 1) _ (by omega) h1 (fun A1 e1 => ?_) (fun b' A1 e1 e2 e3 e4 e5 => ?_)
        · rw [wr_wr, ← ru_go e] at e1; exact hQ A1 e1
        · rw [wr_wr] at e1
          rw [← ru_go e] at e4
          exact hK b' A1 e1 e2 e3 e4 e5
      · rw [srt_pb] at y; exact absurd e y
    · have e2 : ru 3 T n b = b := ru_stop e
      exact hK b A (by rw [wr_id h.1.1]) h e2 e2.symm (hQ A (by rw [e2, wr_id h.1.1]))
theorem u_unit {h p F : Int} {nF : List Int} (hc : mu A T n p) (hl : A 1977 49 = 1 ↔ D 1956 17 = 1) (hF : D 1956 17 = 1 → nwM A nF) (hU : D 1956 17 = 1 → ∀ s e, s ≤ e → (untN (rat D (F + 1)) (D (F + 1) 1) T (D F 5) s e ↔ untN (fun j => A 1981 (24 * A 1977 48 + j)) (A 1982 (A 1977 48)) T (A 1980 (A 1977 48)) s e)) (hT : (unO D T n F h p nF).1 = 0 → ∀ A', muR A A' T (nmO T n p nF).2 (unE T n (nmO T n p nF).2) (unE T n (nmO T n p nF).2 + 1) → frW A A' → 0 ≤ unE T n (nmO T n p nF).2 ∧ unE T n (nmO T n p nF).2 + 1 ≤ n → K A' 1) (hN : (unO D T n F h p nF).1 ≠ 0 → ∀ A', A' 1977 45 = (unO D T n F h p nF).1 → A' 1977 46 = (unO D T n F h p nF).2 → frW A A' → K A' 0) : WP sc 263 0 A [(0, (1211, 1977)), (1, (0, h))] [] K E := by
  have c := hc.2
  refine v263_0 ?_
  unfold unO at hT hN
  by_cases z : A 1977 49 = 1
  rotate_left
  · rw [if_neg z]
    rw [if_pos (fun w => z (hl.mpr w))] at hN
    exact u_fails hc.1.2.2 (hN (show (5 : Int) ≠ 0 from by decide) _ fl_45 fl_46 frW_fl)
  rw [if_pos z]
  have hz := hl.mp z
  have hFn := hF hz
  have hUn := hU hz
  rw [if_neg (fun w => w hz)] at hT hN
  refine u_named hc hFn (fun e0 => ?_) (fun e0 A1 q1 q2 q3 => ?_)
  rotate_left
  · rw [if_pos rfl]
    rw [if_pos e0] at hN
    exact hN e0 A1 q1 q2 q3
  rw [if_neg (by omega), wr_self]
  obtain ⟨m1, m2, m3, m4⟩ := nmO_0 e0
  have mn := pb_lt m3 (by omega)
  have mb := ru_b (s := 5) (T := T) (n := n) (a := p + 1) (by have := pb_lt m1 (by omega); omega)
  have eE : ru 5 T n (p + 1) = nmZ T n p := rfl
  rw [eE] at mb
  rw [if_neg (fun w => w e0)] at hT hN
  generalize (nmO T n p nF).2 = u at *
  have h1 := mu_wr hc (b := u) ⟨by omega, by omega⟩
  have rb := ru_b (s := 3) (T := T) (n := n) (a := u) (by omega)
  have ri := ru_in (s := 3) (T := T) (n := n) (a := u) (by omega)
  have eU : ru 3 T n u = unE T n u := rfl
  rw [eU] at rb ri
  refine u_run29 (Q := fun _ => True) (n - u).toNat u _ (by omega) h1 (fun _ _ => trivial) (fun b' A1 e1 e2 e3 e4 _ => ?_)
  rw [eU] at e4
  rw [wr_wr] at e1
  subst e4
  have f1 : frW A A1 := by rw [e1]; exact frW_wr (by omega)
  have d48 : A1 1977 48 = A 1977 48 := by rw [e1, wr_ni (by omega)]
  have dne : ∀ x j, x ≠ 1977 → A1 x j = A x j := fun x j w => by rw [e1, wr_ne w]
  refine v263_29 (u_peek e2 (m_ub (fun y => ?_) (fun y => ?_)))
  · rw [srt_pb] at y
    rw [ru_go y] at e3
    have := ru_b (s := 3) (T := T) (n := n) (a := unE T n u + 1) (by omega)
    omega
  rw [if_pos rfl, e2.1.1]
  by_cases z2 : unE T n u = u
  · rw [if_pos z2.symm]
    rw [if_pos z2] at hN
    exact u_fails e2.1.2.2 (hN (show (1 : Int) ≠ 0 from by decide) _ fl_45 (by rw [fl_46, z2]) (frW_tr f1 frW_fl))
  rw [if_neg (fun w => z2 w.symm), w32_id (x := unE T n u - u) (by omega) (by omega), w32_id (x := unE T n u - u + 1) (by omega) (by omega), d48, dne 1980 _ (by omega), dne 1982 _ (by omega)]
  rw [if_neg z2] at hT hN
  have hUu := hUn u (unE T n u) rb.1
  have bad0 : ¬ untN (fun j => A 1981 (24 * A 1977 48 + j)) (A 1982 (A 1977 48)) T (A 1980 (A 1977 48)) u (unE T n u) → WP sc 251 0 A1 [(0, (1211, 1977)), (1, (0, 6)), (2, (0, u))] [] (fun D1 r2 => tbl r2 (K D1 r2)) E := fun w => by
    rw [cif_pos (fun y => w (hUu.mp y))] at hN
    exact u_fails e2.1.2.2 (hN (show (6 : Int) ≠ 0 from by decide) _ fl_45 fl_46 (frW_tr f1 frW_fl))
  have bad : ∀ x6, ¬ untN (fun j => A 1981 (24 * A 1977 48 + j)) (A 1982 (A 1977 48)) T (A 1980 (A 1977 48)) u (unE T n u) → WP sc 263 134 A1 [(0, (1211, 1977)), (2, (0, u)), (3, (0, unE T n u - u)), (4, (0, A 1977 48)), (5, (0, 0)), (6, (0, x6))] [] K E := fun x6 w => by
    refine v263_134 ?_
    rw [if_pos rfl, if_pos rfl]
    exact bad0 w
  by_cases z8 : 8 < unE T n u - u
  · rw [if_pos z8]; exact bad 0 (fun w => by have := w.1; omega)
  rw [if_neg z8]
  refine ⟨hFn.1, ?_⟩
  by_cases k3 : A 1980 (A 1977 48) = 3
  · rw [if_pos k3]; exact bad 0 (fun w => w.2.1 k3)
  rw [if_neg k3]
  refine ⟨hFn.1, ?_⟩
  by_cases k4 : A 1980 (A 1977 48) = 4
  · rw [if_pos k4]; exact bad 0 (fun w => w.2.2.1 k4)
  rw [if_neg k4]
  refine ⟨hFn.1, ?_⟩
  by_cases zz : unE T n u - u + 1 < A 1982 (A 1977 48)
  rotate_left
  · rw [if_neg zz]; exact bad 0 (fun w => zz w.2.2.2.1)
  rw [if_pos zz]
  have t1 : ∀ j, 0 ≤ j → j < n → A1 1978 j = T j := fun j a b => (e2.2.2 j a b).1
  have zle : A 1982 (A 1977 48) ≤ 24 := by have := hFn.2.1; have := hFn.2.2.1; omega
  have fe : ∀ j, A1 1981 j = A 1981 j := fun j => dne _ _ (by omega)
  have kU : untN (fun j => A 1981 (24 * A 1977 48 + j)) (A 1982 (A 1977 48)) T (A 1980 (A 1977 48)) u (unE T n u) ↔ (A1 1981 (24 * A 1977 48 + (A 1982 (A 1977 48) - (unE T n u - u) - 1)) = 95 ∧ ∀ j, 0 ≤ j → j < unE T n u - u → A1 1981 (24 * A 1977 48 + (A 1982 (A 1977 48) - (unE T n u - u) + j)) = T (u + j)) := by
    unfold untN
    rw [fe]
    refine ⟨fun ⟨_, _, _, _, q5, q6⟩ => ⟨q5, fun j a b => by rw [fe]; exact (q6 j a b).2⟩, fun ⟨q5, q6⟩ => ⟨by omega, k3, k4, zz, q5, fun j a b => ⟨ri _ (by omega) (by omega), by have := q6 j a b; rw [fe] at this; exact this⟩⟩⟩
  refine u_134 (n := n) (T := T) (z := A 1982 (A 1977 48)) hFn.1 ⟨by omega, by omega⟩ ⟨dne _ _ (by omega), by omega, zle⟩ ⟨by omega, by omega, c.1.2.2⟩ t1 (fun w => ?_) (fun w => bad0 (fun y => w (kU.mp y))) (unE T n u - u + 1).toNat 0 1 (by omega) (by omega) (Or.inr ⟨rfl, fun y => by omega, fun j a b => by omega⟩)
  rw [cif_neg (fun y => y (hUu.mpr (kU.mpr w)))] at hT hN
  refine u_cp231 (n := n) (T := T) (A0 := wr A1 1984 (A 1977 48) (unE T n u - u)) hFn.1 ⟨by omega, by omega⟩ ⟨by omega, by omega, c.1.2.2⟩ (fun j a b => by rw [wr_ne (by omega)]; exact t1 j a b) (fun A3 a1 a2 a3 => ?_) (unE T n u - u).toNat 0 _ (by omega) (by omega) (fun j a b => by omega) (fun j _ => rfl) (fun x j _ => rfl)
  have g3 : ∀ x j, x ≠ 1983 → x ≠ 1984 → (wr A3 1977 49 2) x j = (wr A1 1977 49 2) x j := fun x j w1 w2 => by
    by_cases y : x = 1977
    · subst y
      by_cases y9 : j = 49
      · rw [y9, wr_self, wr_self]
      · rw [wr_ni y9, wr_ni y9, a3 _ _ (by omega), wr_ne (by omega)]
    · rw [wr_ne y, wr_ne y, a3 x j w1, wr_ne w2]
  have f3 : frW A (wr A3 1977 49 2) := fun x j w => by
    have g8 := hFn.2.2.2.2
    by_cases y3 : x = 1983
    · subst y3
      have e1 : cap0 1983 = 64 := rfl
      rw [wr_ne (by omega), a2 j (by omega), wr_ne (by omega)]; exact f1 _ _ w
    by_cases y4 : x = 1984
    · subst y4
      have e1 : cap0 1984 = 8 := rfl
      rw [wr_ne (by omega), a3 _ _ (by omega), wr_ni (by omega)]; exact f1 _ _ w
    rw [g3 x j y3 y4]
    exact (frW_tr f1 (frW_wr (by omega))) x j w
  have h3 : mu (wr A3 1977 49 2) T n (unE T n u) := mu_to e2 ⟨by omega, by omega⟩ (by rw [g3 _ _ (by omega) (by omega), wr_ni (by omega)]; exact e2.1.1) (by rw [g3 _ _ (by omega) (by omega), wr_ni (by omega)]) (by rw [g3 _ _ (by omega) (by omega), wr_ni (by omega)]) (fun j => by rw [g3 _ _ (by omega) (by omega), wr_ne (by omega)])
  refine u_expects h3 (fun e7 => ?_) (fun e7 => ?_)
  · rw [if_neg (fun w => w e7)] at hT
    have := pb_lt e7 (by omega)
    refine tbl_of (Or.inr rfl) (hT rfl _ ⟨⟨?_, fun j a b => ?_⟩, ⟨?_, wr_self⟩, fun j a => ?_, fun j a => ?_, fun j a b => ?_, fun x j w1 w2 w3 => ?_⟩ (frW_tr f3 (frW_wr (by omega))) ⟨by omega, by omega⟩)
    · rw [wr_ne (by omega), wr_ne (by omega), a3 _ _ (by omega), wr_self]
    · rw [wr_ne (by omega), wr_ne (by omega)]; exact a1 j a b
    · rw [wr_ni (by omega), wr_self]
    · rw [wr_ne (by omega), wr_ne (by omega), a3 _ _ (by omega), wr_ni a, dne _ _ (by omega)]
    · rw [wr_ne (by omega), wr_ne (by omega), a2 j a, wr_ne (by omega), dne _ _ (by omega)]
    · rw [wr_ni b, wr_ni a, a3 _ _ (by omega), wr_ne (by omega), e1, wr_ni b]
    · rw [wr_ne w1, wr_ne w1, a3 _ _ w2, wr_ne w3, dne _ _ w1]
  · rw [if_pos e7] at hN
    exact tbl_of (Or.inl rfl) (hN (show (1 : Int) ≠ 0 from by decide) _ fl_45 fl_46 (frW_tr f3 frW_fl))
/-! a help text -/
def mhR (A A' : tD) (L : List Int) (q : Int) : Prop := (A' 1986 (A 1977 48) = (L.length : Int) ∧ atL A' 1985 (40 * A 1977 48) L) ∧ (A' 1977 49 = 3 ∧ A' 1977 47 = q) ∧ (∀ j, j ≠ A 1977 48 → A' 1986 j = A 1986 j) ∧ (∀ j, ¬ (40 * A 1977 48 ≤ j ∧ j < 40 * A 1977 48 + 40) → A' 1985 j = A 1985 j) ∧ (∀ j, j ≠ 49 → j ≠ 47 → j ≠ 60 → A' 1977 j = A 1977 j) ∧ ∀ x j, x ≠ 1977 → x ≠ 1985 → x ≠ 1986 → x ≠ 2015 → A' x j = A x j
theorem u_cp105 {f : Int} {L : List Int} {A0 : tD} (hf : A0 1977 48 = f ∧ 0 ≤ f ∧ f < 16) (hl : L.length ≤ 40) (h60 : A0 1977 60 = (L.length : Int)) (hL : atL A0 2015 0 L) (hK : ∀ A', atL A' 1985 (40 * f) L → (∀ j, ¬ (40 * f ≤ j ∧ j < 40 * f + 40) → A' 1985 j = A0 1985 j) → (∀ x j, x ≠ 1985 → A' x j = A0 x j) → WP sc 253 0 (wr A' 1977 49 3) [(0, (1211, 1977)), (1, (0, 10))] [] (fun D1 r2 => tbl r2 (K D1 r2)) E) : ∀ (L2 L1 : List Int) (A : tD), L = L1 ++ L2 → atL A 1985 (40 * f) L1 → (∀ j, ¬ (40 * f ≤ j ∧ j < 40 * f + 40) → A 1985 j = A0 1985 j) → (∀ x j, x ≠ 1985 → A x j = A0 x j) → WP sc 264 105 A [(0, (1211, 1977)), (3, (0, (L1.length : Int)))] [] K E := by
  intro L2
  induction L2 with
  | nil =>
    intro L1 A hL1 h1 h2 h3
    rw [List.append_nil] at hL1
    subst hL1
    refine v264_105 ?_
    rw [h3 _ _ (by omega), h60, if_neg (by omega)]
    exact hK A h1 h2 h3
  | cons v r ih =>
    intro L1 A hL1 h1 h2 h3
    refine v264_105 ?_
    have ll : L.length = L1.length + (r.length + 1) := by rw [hL1, List.length_append, List.length_cons]
    rw [h3 1977 60 (by omega), h60, if_pos (by omega), h3 1977 48 (by omega), hf.1, w32_id (x := 40 * f) (by omega) (by omega), w32_id (x := 40 * f + (L1.length : Int)) (by omega) (by omega), w32_id (x := (L1.length : Int) + 1) (by omega) (by omega)]
    have e : A 2015 (L1.length : Int) = v := by
      rw [h3 _ _ (by omega)]
      have q := hL
      rw [hL1, atL_app] at q
      have q2 := q.2.1
      rw [show (0 : Int) + (L1.length : Int) = (L1.length : Int) from by omega] at q2
      exact q2
    rw [e]
    refine ⟨by omega, by omega, ?_⟩
    have g := ih (L1 ++ [v]) (wr A 1985 (40 * f + (L1.length : Int)) v) (by rw [hL1]; simp) ?_ (fun j a => by rw [wr_ni (by omega)]; exact h2 j a) (fun x j a => by rw [wr_ne a]; exact h3 x j a)
    · rw [List.length_append, List.length_singleton] at g
      exact g
    · rw [atL_app]
      exact ⟨atL_fr (fun j u w => wr_ni (by omega)) h1, wr_self, trivial⟩
end HDN
