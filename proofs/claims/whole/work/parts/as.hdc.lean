/-! reading: head lines, the class's side -/
section HDC
variable {sc : Nat × (Nat → Int32)} {D D' : tD} {K : tD → Int → Prop} {E : tD → Nat → Prop} {T : Int → Int} {n : Int}
/-- what reading may change -/
def frZ (D D' : tD) : Prop := ∀ x j, (x < 980 ∨ x = 1955 ∨ 1970 < x ∨ (x = 1957 ∧ j = 0) ∨ (x = 1968 ∧ j = 0)) → D' x j = D x j
theorem frZ_tr {D1 D2 : tD} (h : frZ D D1) (h2 : frZ D1 D2) : frZ D D2 := fun x j u => by rw [h2 x j u, h x j u]
theorem frZ_rf : frZ D D := fun _ _ _ => rfl
theorem frZ_wr {a i v : Int} (h : (980 ≤ a ∧ a ≤ 1954) ∨ (1956 ≤ a ∧ a ≤ 1970 ∧ ¬ (a = 1957 ∧ i = 0) ∧ ¬ (a = 1968 ∧ i = 0))) : frZ D (wr D a i v) := fun x j u => by
  by_cases e : x = a
  · subst e; exact wr_ni (by omega)
  · exact wr_ne e
theorem frZ_Y (h : frY D D') : frZ D D' := fun x j u => h x j (by omega)
/-- a fault of the class -/
def fc (D : tD) (c p : Int) : tD := wr (wr D 1957 2 c) 1957 3 p
theorem fc_2 {c p : Int} : (fc D c p) 1957 2 = c := by unfold fc; rw [wr_ni (by omega), wr_self]
theorem fc_3 {c p : Int} : (fc D c p) 1957 3 = p := by unfold fc; rw [wr_self]
theorem frZ_fc {c p : Int} : frZ D (fc D c p) := frZ_tr (frZ_wr (by omega)) (frZ_wr (by omega))
theorem frN_fc {c p : Int} : frN D (fc D c p) := frN_fl
theorem t_fc {c p : Int} (hK : K (fc D c p) 0) : WP sc 42 0 D [(0, (1202, 1957)), (1, (0, c)), (2, (0, p))] [] (fun D1 r2 => tbl r2 (K D1 r2)) E := t_fail hK
theorem cu_frZ {a b : Int} (h : cu D 1957 1 T n a) (hb : 0 ≤ b ∧ b ≤ n) (h1 : D' 1957 1 = b) (hf : frZ D D') : cu D' 1957 1 T n b := cu_to h hb (hf _ _ (by omega)) h1 (fun x j u => hf _ _ (by omega))
/-! words -/
theorem twd_mk {w t : Int} (h : (decide (ltn w = tsn t) && decide (ltn w ≤ 10) && (List.range 10).all (fun k => !(decide ((k : Int) < ltn w)) || (decide (ltr w (k : Int) = tsc t (k : Int)) && decide (0 ≤ tsc t (k : Int)) && decide (tsc t (k : Int) < 128)))) = true) : twd w t := by
  obtain ⟨h, h3⟩ := (Bool.and_eq_true _ _).mp h
  obtain ⟨h1, h2⟩ := (Bool.and_eq_true _ _).mp h
  have e1 := of_decide_eq_true h1
  have e2 := of_decide_eq_true h2
  refine ⟨e1, fun k u v => ?_⟩
  have h4 := List.all_eq_true.mp h3 k.toNat (List.mem_range.mpr (by omega))
  rw [Int.toNat_of_nonneg u] at h4
  have hk : decide (k < ltn w) = true := decide_eq_true v
  rw [hk] at h4
  have h5 : (decide (ltr w k = tsc t k) && decide (0 ≤ tsc t k) && decide (tsc t k < 128)) = true := h4
  obtain ⟨h5, h6⟩ := (Bool.and_eq_true _ _).mp h5
  obtain ⟨h5, h7⟩ := (Bool.and_eq_true _ _).mp h5
  exact ⟨of_decide_eq_true h5, of_decide_eq_true h7, of_decide_eq_true h6⟩
theorem twd_eof : twd 15 41 := twd_mk (by decide +kernel)
theorem twd_typ : twd 12 42 := twd_mk (by decide +kernel)
theorem twd_uni : twd 13 43 := twd_mk (by decide +kernel)
theorem twd_hel : twd 14 44 := twd_mk (by decide +kernel)
theorem twd_k0 : twd 7 28 := twd_mk (by decide +kernel)
theorem twd_k1 : twd 8 29 := twd_mk (by decide +kernel)
theorem twd_k2 : twd 9 30 := twd_mk (by decide +kernel)
theorem twd_k3 : twd 10 31 := twd_mk (by decide +kernel)
theorem twd_k4 : twd 11 32 := twd_mk (by decide +kernel)
theorem twd_kd {k : Int} (h : 0 ≤ k ∧ k ≤ 4) : twd (7 + k) (28 + k) := by
  have : k = 0 ∨ k = 1 ∨ k = 2 ∨ k = 3 ∨ k = 4 := by omega
  rcases this with e | e | e | e | e <;> rw [e]
  · exact twd_k0
  · exact twd_k1
  · exact twd_k2
  · exact twd_k3
  · exact twd_k4
theorem wdT_kd {a b i j : Int} (hi : 0 ≤ i ∧ i ≤ 4) (hj : 0 ≤ j ∧ j ≤ 4) (h1 : wdT T (7 + i) a b) (h2 : wdT T (7 + j) a b) : i = j := by
  have e1 := h1.1
  have e2 := h2.1
  have l : ∀ k : Int, 0 ≤ k ∧ k ≤ 4 → (k = 0 ∧ ltn (7 + k) = 7) ∨ (k = 1 ∧ ltn (7 + k) = 5) ∨ (k = 2 ∧ ltn (7 + k) = 9) ∨ (k = 3 ∧ ltn (7 + k) = 4) ∨ (k = 4 ∧ ltn (7 + k) = 8) := fun k hk => by
    have : k = 0 ∨ k = 1 ∨ k = 2 ∨ k = 3 ∨ k = 4 := by omega
    rcases this with e | e | e | e | e <;> subst e <;> decide
  have q1 := l i hi
  have q2 := l j hj
  omega
/-- the kind that a word names -/
def kdP (T : Int → Int) (a b k : Int) : Prop := (0 ≤ k ∧ k ≤ 4 ∧ wdT T (7 + k) a b) ∨ (k = -1 ∧ ∀ i, 0 ≤ i → i ≤ 4 → ¬ wdT T (7 + i) a b)
theorem kdP_ex (a b : Int) : ∃ k, kdP T a b k := by
  by_cases h : ∃ i, (0 ≤ i ∧ i ≤ 4) ∧ wdT T (7 + i) a b
  · obtain ⟨i, h1, h2⟩ := h
    exact ⟨i, Or.inl ⟨h1.1, h1.2, h2⟩⟩
  · exact ⟨-1, Or.inr ⟨rfl, fun i u v w => h ⟨i, ⟨u, v⟩, w⟩⟩⟩
noncomputable def kdT (T : Int → Int) (a b : Int) : Int := Classical.choose (kdP_ex (T := T) a b)
theorem kdT_P {a b : Int} : kdP T a b (kdT T a b) := Classical.choose_spec (kdP_ex a b)
theorem kdT_of {a b k : Int} (h : kdP T a b k) : kdT T a b = k := by
  have h2 := kdT_P (T := T) (a := a) (b := b)
  rcases h with ⟨p1, p2, p3⟩ | ⟨p1, p2⟩ <;> rcases h2 with ⟨q1, q2, q3⟩ | ⟨q1, q2⟩
  · exact wdT_kd ⟨q1, q2⟩ ⟨p1, p2⟩ q3 p3
  · exact absurd p3 (q2 k p1 p2)
  · exact absurd q3 (p2 _ q1 q2)
  · omega
theorem t_kind {a b : Int} (hab : 0 ≤ a ∧ a ≤ b ∧ b ≤ n) (h : ∃ p, cu D 1957 1 T n p) (hK : K D (kdT T a b)) : WP sc 61 0 D [(0, (1207, 1)), (1, (0, a)), (2, (0, b))] [] K E := by
  have go : ∀ (m : Nat) (k : Int), 5 - k = (m : Int) → 0 ≤ k → (∀ i, 0 ≤ i → i < k → ¬ wdT T (7 + i) a b) → WP sc 61 2 D [(0, (1207, 1)), (1, (0, a)), (2, (0, b)), (3, (0, k))] [] K E := by
    intro m
    induction m with
    | zero =>
      intro k hm hk hn
      refine v61_2 ?_
      rw [if_neg (by omega)]
      rw [kdT_of (k := -1) (Or.inr ⟨rfl, fun i u v => hn i u (by omega)⟩)] at hK
      exact hK
    | succ m ih =>
      intro k hm hk hn
      refine v61_2 ?_
      rw [if_pos (by omega), w32_id (x := k + 1) (by omega) (by omega)]
      refine c_kidx ⟨hk, by omega⟩ ?_
      refine t_word (a0 := 1957) (r := 1) ⟨by omega, by omega, rfl⟩ (twd_kd ⟨hk, by omega⟩) hab h (fun e => ?_) (fun e => ?_)
      · rw [if_neg (by omega)]
        rw [kdT_of (k := k) (Or.inl ⟨hk, by omega, e⟩)] at hK
        exact hK
      · rw [if_pos rfl]
        refine ih (k + 1) (by omega) (by omega) (fun i u v => ?_)
        by_cases z : i = k
        · rw [z]; exact e
        · exact hn i u (by omega)
  exact v61_0 (go 5 0 (by omega) (by omega) (fun i u v => by omega))
/-! the end -/
def eoO (T : Int → Int) (n w h p : Int) : Int × Int := if w = 0 then (5, h) else if pb T n p ≠ 10 then (1, p) else if p + 1 < n then (1, p + 1) else (0, p + 1)
theorem t_eof {h p : Int} (hc : cu D 1957 1 T n p) (hT : (eoO T n (D 1956 11) h p).1 = 0 → pb T n p = 10 → K (wr (wr D 1957 1 (p + 1)) 1956 18 1) 1) (hF : (eoO T n (D 1956 11) h p).1 ≠ 0 → ∀ D', D' 1957 2 = (eoO T n (D 1956 11) h p).1 → D' 1957 3 = (eoO T n (D 1956 11) h p).2 → frZ D D' → K D' 0) : WP sc 126 0 D [(0, (1209, 1956)), (1, (0, h))] [] K E := by
  have c := hc.2
  refine v126_0 (fun _ => ?_)
  unfold eoO at hT hF
  by_cases z : D 1956 11 = 0
  · rw [if_pos z] at hF ⊢
    exact t_fc (hF (show (5 : Int) ≠ 0 from by decide) _ fc_2 fc_3 frZ_fc)
  · rw [if_neg z] at hT hF ⊢
    refine t_expect hc (fun e => ?_) (fun e => ?_)
    · have e10 : (wr D 1957 1 (p + 1)) 1957 0 = 1 := by rw [wr_ni (by omega)]; exact hc.1.1
      have e11 : (wr D 1957 1 (p + 1)) 1 1 = n := by rw [wr_ne (by omega)]; exact c.1.1
      rw [if_neg (by omega), e10, e11, wr_self]
      rw [if_neg (fun w => w e)] at hT hF
      by_cases z2 : p + 1 < n
      · rw [if_pos z2] at hF ⊢
        exact t_fc (hF (show (1 : Int) ≠ 0 from by decide) _ fc_2 fc_3 (frZ_tr (frZ_wr (by omega)) frZ_fc))
      · rw [if_neg z2] at hT ⊢
        exact hT rfl e
    · rw [if_pos rfl]
      rw [if_pos e] at hF
      exact hF (show (1 : Int) ≠ 0 from by decide) _ fc_2 fc_3 frZ_fc
/-! a family begins -/
def tyN (T : Int → Int) (n p : Int) : Int := ru 5 T n (p + 1)
def tyK (T : Int → Int) (n p : Int) : Int := ru 1 T n (tyN T n p + 1)
def tyX (D : tD) (T : Int → Int) (s e kd : Int) : Prop := ∃ k, (0 ≤ k ∧ k < D 980 4) ∧ clF (fun j => T (s + j)) (e - s) kd (D (aF 1 k + 2)) (D (aF 1 k + 1) 1) (D (aF 1 k) 5)
noncomputable def tyO (D : tD) (T : Int → Int) (n h p : Int) : Int × Int :=
  if D 1956 11 = 0 then (5, h) else if pb T n p ≠ 32 then (1, p)
  else cif (¬ fnamT T (p + 1) (tyN T n p)) (2, p + 1)
    (if ¬ D 980 4 < 8 then (14, p + 1) else if pb T n (tyN T n p) ≠ 32 then (1, tyN T n p)
    else if kdT T (tyN T n p + 1) (tyK T n p) < 0 then (3, tyN T n p + 1)
    else cif (tyX D T (p + 1) (tyN T n p) (kdT T (tyN T n p + 1) (tyK T n p))) (4, p + 1)
      (if pb T n (tyK T n p) ≠ 10 then (1, tyK T n p) else (0, tyK T n p + 1)))
def fpt (kd : Int) : Int := if kd = 0 then 1 else if kd = 2 then 3 else if kd = 3 then 6 else 0
/-- what the class holds of a new family -/
def tyR (D D' : tD) (T : Int → Int) (s e kd f q : Int) : Prop := (D' (aF 1 f) 5 = kd ∧ D' (aF 1 f) 6 = 0 ∧ D' (aF 1 f) 7 = 0) ∧ (D' (aF 1 f + 1) 1 = e - s ∧ ∀ j, 0 ≤ j → j < e - s → D' (aF 1 f + 2) j = T (s + j)) ∧ (D' (aF 1 f + 3) 1 = 0 ∧ D' (aF 1 f + 5) 1 = 0) ∧ D' 980 4 = f + 1 ∧ (D' 1956 5 = aF 1 f ∧ D' 1956 7 = f ∧ D' 1956 6 = -1 ∧ D' 1956 10 = fpt kd ∧ D' 1956 12 = 0 ∧ D' 1956 17 = 1) ∧ D' 1957 1 = q ∧ ∀ x j, ¬ (aF 1 f ≤ x ∧ x ≤ aF 1 f + 5) → x ≠ 1953 → x ≠ 1954 → ¬ (x = 980 ∧ j = 4) → ¬ (x = 1956 ∧ (j = 5 ∨ j = 6 ∨ j = 7 ∨ j = 10 ∨ j = 12 ∨ j = 17)) → ¬ (x = 1957 ∧ j = 1) → D' x j = D x j
theorem t_type {h p : Int} (hc : cu D 1957 1 T n p) (hf8 : 0 ≤ D 980 4 ∧ D 980 4 ≤ 8) (hG : ∀ k, 0 ≤ k → k < D 980 4 → (0 ≤ D (aF 1 k + 1) 1 ∧ D (aF 1 k + 1) 1 ≤ 24) ∧ 0 ≤ D (aF 1 k) 5 ∧ D (aF 1 k) 5 ≤ 4) (hT : (tyO D T n h p).1 = 0 → ∀ D', tyR D D' T (p + 1) (tyN T n p) (kdT T (tyN T n p + 1) (tyK T n p)) (D 980 4) (tyK T n p + 1) → K D' 1) (hF : (tyO D T n h p).1 ≠ 0 → ∀ D', D' 1957 2 = (tyO D T n h p).1 → D' 1957 3 = (tyO D T n h p).2 → frZ D D' → K D' 0) : WP sc 127 0 D [(0, (1209, 1956)), (1, (0, h))] [] K E := by
  refine wp_ok (fun hok => ?_)
  have c := hc.2
  refine v127_0 (fun _ => ?_)
  unfold tyO at hT hF
  by_cases z : D 1956 11 = 0
  · rw [if_pos z] at hF ⊢
    exact t_fc (hF (show (5 : Int) ≠ 0 from by decide) _ fc_2 fc_3 frZ_fc)
  rw [if_neg z] at hT hF ⊢
  refine t_expect hc (fun e => ?_) (fun e => ?_)
  rotate_left
  · rw [if_pos rfl]
    rw [if_pos e] at hF
    exact hF (show (1 : Int) ≠ 0 from by decide) _ fc_2 fc_3 frZ_fc
  rw [if_neg (by omega)]
  rw [if_neg (fun w => w e)] at hT hF
  have pn := pb_lt e (by omega)
  have h1 := cu_wr hc (b := p + 1) ⟨by omega, by omega⟩
  refine t_run (by omega) h1 ?_
  rw [wr_wr]
  have eN : ru 5 T n (p + 1) = tyN T n p := rfl
  rw [eN]
  have rb := ru_b (s := 5) (T := T) (n := n) (a := p + 1) (by omega)
  have ri := ru_in (s := 5) (T := T) (n := n) (a := p + 1) (by omega)
  rw [eN] at rb ri
  have h2 := cu_wr hc (b := tyN T n p) ⟨by omega, by omega⟩
  rw [wr_self, wr_ni (by omega), hc.1.1]
  have key : namP 0 (wr D 1957 1 (tyN T n p)) 1 (p + 1) (tyN T n p) ↔ fnamT T (p + 1) (tyN T n p) := by
    have r1 : ∀ j, 0 ≤ j → j < n → rat (wr D 1957 1 (tyN T n p)) 1 j = T j := fun j u v => (h2.2.2.2.2 j u v).1
    unfold namP fnamT
    rw [if_pos rfl, if_pos rfl]
    refine ⟨fun ⟨q1, q2, q3, q4, _⟩ => ⟨q1, q2, ?_, fun j u v => ?_⟩, fun ⟨q1, q2, q3, q4⟩ => ⟨q1, q2, ?_, fun j u v => ?_, Or.inl rfl⟩⟩
    · rw [← r1 (p + 1) (by omega) (by omega)]; exact q3
    · rw [← r1 j (by omega) (by omega)]; exact q4 j u v
    · rw [r1 (p + 1) (by omega) (by omega)]; exact q3
    · rw [r1 j (by omega) (by omega)]; exact q4 j u v
  refine c_name (Or.inl rfl) (by rw [wr_ne (by omega), c.1.1]; exact c.1.2.1) (by omega) (by omega) (fun e2 => ?_) (fun e2 => ?_)
  rotate_left
  · rw [if_pos rfl]
    rw [key] at e2
    rw [cif_pos e2] at hF
    exact t_fc (hF (show (2 : Int) ≠ 0 from by decide) _ fc_2 fc_3 (frZ_tr (frZ_wr (by omega)) frZ_fc))
  rw [if_neg (by omega), wr_ne (by omega)]
  rw [key] at e2
  rw [cif_neg (fun w => w e2)] at hT hF
  have e24 := e2.2.1
  by_cases z8 : D 980 4 < 8
  case neg =>
    rw [if_neg z8]
    rw [if_pos z8] at hF
    exact t_fc (hF (show (14 : Int) ≠ 0 from by decide) _ fc_2 fc_3 (frZ_tr (frZ_wr (by omega)) frZ_fc))
  rw [if_pos z8]
  rw [if_neg (fun w => w z8)] at hT hF
  refine v105_0 ?_
  rw [wr_ne (by omega), if_pos z8]
  refine ⟨⟨hf8.1, by show _ < (9 : Int); omega⟩, ?_⟩
  have eF : (980 : Int) + 1 + 1 + 17 * D 980 4 = aF 1 (D 980 4) := by unfold aF; omega
  rw [eF]
  have aFb : 982 ≤ aF 1 (D 980 4) ∧ aF 1 (D 980 4) ≤ 982 + 17 * 7 := by unfold aF; omega
  rw [if_neg (by omega), wr_self, wr_ni (by omega), hc.1.1]
  refine c_fbeg (ln_nam (Or.inr rfl) ⟨hf8.1, by omega⟩) ⟨by rw [wr_ne (by omega), c.1.1]; exact c.1.2.1, by rw [wr_ne (by omega), c.1.1]; omega⟩ (by omega) ⟨by omega, rb.1, by rw [wr_ne (by omega), c.1.1]; exact rb.2, e24⟩ (fun D3 hb => ?_)
  obtain ⟨b1, b2, b3, b4, b5⟩ := hb
  have g3 : ∀ x j, ¬ (aF 1 (D 980 4) ≤ x ∧ x ≤ aF 1 (D 980 4) + 5) → ¬ (x = 1957 ∧ j = 1) → D3 x j = D x j := fun x j u v => by
    rw [b5 x j (by omega)]
    by_cases y : x = 1957
    · subst y; exact wr_ni (by omega)
    · exact wr_ne y
  have f3 : frZ D D3 := fun x j u => g3 x j (by omega) (by omega)
  have h3 := cu_frZ hc (D' := D3) (b := tyN T n p) ⟨by omega, by omega⟩ (by rw [b5 _ _ (by omega), wr_self]) f3
  have nam3 : ∀ j, 0 ≤ j → j < tyN T n p - (p + 1) → D3 (aF 1 (D 980 4) + 2) j = T (p + 1 + j) := fun j u v => by
    rw [b2.2 j u v, wr_ne (by omega)]
    exact cu_by hok hc ⟨by omega, by omega⟩ (by have := srt5_lt (ri (p + 1 + j) (by omega) (by omega)); omega)
  refine t_expect h3 (fun e3 => ?_) (fun e3 => ?_)
  rotate_left
  · rw [if_pos rfl]
    rw [if_pos e3] at hF
    exact hF (show (1 : Int) ≠ 0 from by decide) _ fc_2 fc_3 (frZ_tr f3 frZ_fc)
  rw [if_neg (by omega)]
  rw [if_neg (fun w => w e3)] at hT hF
  have nn := pb_lt e3 (by omega)
  have h4 := cu_wr h3 (b := tyN T n p + 1) ⟨by omega, by omega⟩
  refine t_run (by omega) h4 ?_
  have eK : ru 1 T n (tyN T n p + 1) = tyK T n p := rfl
  have rk := ru_b (s := 1) (T := T) (n := n) (a := tyN T n p + 1) (by omega)
  rw [eK] at rk ⊢
  rw [wr_wr, wr_self, wr_ni (by omega), h3.1.1]
  have h5 := cu_wr h3 (b := tyK T n p) ⟨by omega, by omega⟩
  refine t_kind ⟨by omega, rk.1, rk.2⟩ ⟨_, h5⟩ ?_
  rw [wr_self]
  have f5 : frZ D (wr (wr D3 1957 1 (tyK T n p)) (aF 1 (D 980 4)) 5 (kdT T (tyN T n p + 1) (tyK T n p))) := frZ_tr f3 (frZ_tr (frZ_wr (by omega)) (frZ_wr (by omega)))
  by_cases zk : kdT T (tyN T n p + 1) (tyK T n p) < 0
  · rw [if_pos zk] at hF ⊢
    exact t_fc (hF (show (3 : Int) ≠ 0 from by decide) _ fc_2 fc_3 (frZ_tr f5 frZ_fc))
  rw [if_neg zk] at hT hF ⊢
  have kd4 : 0 ≤ kdT T (tyN T n p + 1) (tyK T n p) ∧ kdT T (tyN T n p + 1) (tyK T n p) ≤ 4 := by
    rcases kdT_P (T := T) (a := tyN T n p + 1) (b := tyK T n p) with ⟨q1, q2, _⟩ | ⟨q1, _⟩
    · exact ⟨q1, q2⟩
    · omega
  generalize eD5 : wr (wr D3 1957 1 (tyK T n p)) (aF 1 (D 980 4)) 5 (kdT T (tyN T n p + 1) (tyK T n p)) = D5 at *
  have a5 : ∀ x j, ¬ (x = aF 1 (D 980 4) ∧ j = 5) → ¬ (x = 1957 ∧ j = 1) → D5 x j = D3 x j := fun x j u v => by
    rw [← eD5]
    by_cases y : x = aF 1 (D 980 4)
    · rw [y, wr_ni (by intro w; exact u ⟨y, w⟩), wr_ne (by omega)]
    · rw [wr_ne y]
      by_cases y2 : x = 1957
      · subst y2; exact wr_ni (by omega)
      · exact wr_ne y2
  have k5 : D5 (aF 1 (D 980 4)) 5 = kdT T (tyN T n p + 1) (tyK T n p) := by rw [← eD5, wr_self]
  have p5 : D5 1957 1 = tyK T n p := by rw [← eD5, wr_ne (by omega), wr_self]
  have d984 : D5 980 4 = D 980 4 := by rw [a5 _ _ (by omega) (by omega), g3 _ _ (by omega) (by omega)]
  have fm5 : ∀ k x j, 0 ≤ k → k < D 980 4 → aF 1 k ≤ x → x ≤ aF 1 k + 2 → D5 x j = D x j := fun k x j u v w1 w2 => by
    have : aF 1 k + 17 ≤ aF 1 (D 980 4) := by unfold aF; omega
    rw [a5 _ _ (by omega) (by omega), g3 _ _ (by omega) (by omega)]
  have nam5 : ∀ j, 0 ≤ j → j < tyN T n p - (p + 1) → D5 (aF 1 (D 980 4) + 2) j = T (p + 1 + j) := fun j u v => by rw [a5 _ _ (by omega) (by omega)]; exact nam3 j u v
  have z5 : D5 (aF 1 (D 980 4) + 1) 1 = tyN T n p - (p + 1) := by rw [a5 _ _ (by omega) (by omega)]; exact b2.1
  have kx : (∃ k, (0 ≤ k ∧ k < D5 (5 + 975 * 1) 4) ∧ clC D5 1 (aF 1 (D 980 4)) k) ↔ tyX D T (p + 1) (tyN T n p) (kdT T (tyN T n p + 1) (tyK T n p)) := by
    have e980 : D5 (5 + 975 * 1) 4 = D 980 4 := d984
    unfold tyX
    rw [e980]
    refine ⟨fun ⟨k, hk, hq⟩ => ⟨k, hk, ?_⟩, fun ⟨k, hk, hq⟩ => ⟨k, hk, ?_⟩⟩
    · rw [clC_clF (by rw [k5]; exact kd4) (by rw [fm5 k _ _ hk.1 hk.2 (by omega) (by omega)]; exact (hG k hk.1 hk.2).2), k5, z5, fm5 k _ _ hk.1 hk.2 (by omega) (by omega), fm5 k _ _ hk.1 hk.2 (by omega) (by omega)] at hq
      exact (clF_ext (fun j u v => nam5 j u v) (fun j u v => fm5 k _ _ hk.1 hk.2 (by omega) (by omega))).mp hq
    · rw [clC_clF (by rw [k5]; exact kd4) (by rw [fm5 k _ _ hk.1 hk.2 (by omega) (by omega)]; exact (hG k hk.1 hk.2).2), k5, z5, fm5 k _ _ hk.1 hk.2 (by omega) (by omega), fm5 k _ _ hk.1 hk.2 (by omega) (by omega)]
      exact (clF_ext (fun j u v => nam5 j u v) (fun j u v => fm5 k _ _ hk.1 hk.2 (by omega) (by omega))).mpr hq
  refine c_clash (s := 1) (Or.inr rfl) ⟨by omega, by omega⟩ (ln_nam (Or.inr rfl) ⟨hf8.1, by omega⟩) (by show D5 980 4 ≤ 8; omega) (by rw [z5]; omega) (fun j u v => ?_) (fun k u v => ?_) (fun ex D6 f6 => ?_) (fun ex D6 f6 => ?_)
  · rw [z5] at v
    rw [nam5 j u v]
    have := srt5_lt (ri (p + 1 + j) (by omega) (by omega))
    omega
  · have v2 : k < D 980 4 := by rw [← d984]; exact v
    rw [fm5 k _ _ u v2 (by omega) (by omega)]
    exact (hG k u v2).1
  · rw [if_neg (by omega)]
    rw [cif_pos (kx.mp ex)] at hF
    have f56 : frZ D5 D6 := fun x j u => f6 x j (by omega) (by omega)
    exact t_fc (hF (show (4 : Int) ≠ 0 from by decide) _ fc_2 fc_3 (frZ_tr f5 (frZ_tr f56 frZ_fc)))
  · rw [if_pos rfl]
    rw [cif_neg (fun w => ex (kx.mpr w))] at hT hF
    have g6 : ∀ x j, x ≠ 1953 → x ≠ 1954 → D6 x j = D5 x j := fun x j u v => f6 x j u v
    refine v128_0 (v106_0 ?_)
    have e9 : (wr D6 1956 5 (aF 1 (D 980 4))) 980 4 = D 980 4 := by rw [wr_ne (by omega), g6 _ _ (by omega) (by omega)]; exact d984
    rw [e9, if_pos z8, w32_id (x := D 980 4 + 1) (by omega) (by omega), wr_self, show D 980 4 + 1 - 1 = D 980 4 from by omega, w32_id (x := D 980 4) (by omega) (by omega)]
    have e10 : (wr (wr (wr (wr D6 1956 5 (aF 1 (D 980 4))) 980 4 (D 980 4 + 1)) 1956 7 (D 980 4)) 1956 6 (-1)) (aF 1 (D 980 4)) 5 = kdT T (tyN T n p + 1) (tyK T n p) := by rw [wr_ne (by omega), wr_ne (by omega), wr_ne (by omega), wr_ne (by omega), g6 _ _ (by omega) (by omega)]; exact k5
    rw [e10]
    have fp : ∀ {Q : Int → Prop}, Q (fpt (kdT T (tyN T n p + 1) (tyK T n p))) → (if kdT T (tyN T n p + 1) (tyK T n p) = 0 then Q 1 else if kdT T (tyN T n p + 1) (tyK T n p) = 1 then Q 0 else if kdT T (tyN T n p + 1) (tyK T n p) = 2 then Q 3 else if kdT T (tyN T n p + 1) (tyK T n p) = 3 then Q 6 else Q 0) := fun {Q} hq => by
      unfold fpt at hq
      generalize kdT T (tyN T n p + 1) (tyK T n p) = kk at hq ⊢
      by_cases y0 : kk = 0
      · rw [if_pos y0] at hq ⊢; exact hq
      rw [if_neg y0] at hq ⊢
      by_cases y1 : kk = 1
      · rw [if_pos y1]
        rw [if_neg (by omega), if_neg (by omega)] at hq
        exact hq
      rw [if_neg y1]
      by_cases y2 : kk = 2
      · rw [if_pos y2] at hq ⊢; exact hq
      rw [if_neg y2] at hq ⊢
      by_cases y3 : kk = 3
      · rw [if_pos y3] at hq ⊢; exact hq
      rw [if_neg y3] at hq ⊢
      exact hq
    refine v129_0 ?_
    refine fp (Q := fun r5 => WP sc 45 0 (wr (wr (wr (wr (wr (wr (wr D6 1956 5 (aF 1 (D 980 4))) 980 4 (D 980 4 + 1)) 1956 7 (D 980 4)) 1956 6 (-1)) 1956 10 r5) 1956 12 0) 1956 17 1) [(0, (1202, 1957)), (1, (0, 10))] [] (fun D40 r41 => tbl r41 (K D40 r41)) E) ?_
    generalize eD7 : wr (wr (wr (wr (wr (wr (wr D6 1956 5 (aF 1 (D 980 4))) 980 4 (D 980 4 + 1)) 1956 7 (D 980 4)) 1956 6 (-1)) 1956 10 (fpt (kdT T (tyN T n p + 1) (tyK T n p)))) 1956 12 0) 1956 17 1 = D7
    have o7 : ∀ x j, x ≠ 980 → x ≠ 1956 → D7 x j = D6 x j := fun x j u v => by rw [← eD7, wr_ne v, wr_ne v, wr_ne v, wr_ne v, wr_ne v, wr_ne u, wr_ne v]
    have s7 : ∀ j, j ≠ 4 → D7 980 j = D6 980 j := fun j u => by rw [← eD7, wr_ne (by omega), wr_ne (by omega), wr_ne (by omega), wr_ne (by omega), wr_ne (by omega), wr_ni u, wr_ne (by omega)]
    have r7 : ∀ j, ¬ (j = 5 ∨ j = 6 ∨ j = 7 ∨ j = 10 ∨ j = 12 ∨ j = 17) → D7 1956 j = D6 1956 j := fun j u => by rw [← eD7, wr_ni (by omega), wr_ni (by omega), wr_ni (by omega), wr_ni (by omega), wr_ni (by omega), wr_ne (by omega), wr_ni (by omega)]
    have f7 : frZ D D7 := by
      refine frZ_tr f5 (frZ_tr (D1 := D6) (fun x j u => f6 x j (by omega) (by omega)) ?_)
      rw [← eD7]
      exact frZ_tr (frZ_wr (by omega)) (frZ_tr (frZ_wr (by omega)) (frZ_tr (frZ_wr (by omega)) (frZ_tr (frZ_wr (by omega)) (frZ_tr (frZ_wr (by omega)) (frZ_tr (frZ_wr (by omega)) (frZ_wr (by omega)))))))
    have h7 := cu_frZ hc (D' := D7) (b := tyK T n p) ⟨by omega, by omega⟩ (by rw [o7 _ _ (by omega) (by omega), g6 _ _ (by omega) (by omega)]; exact p5) f7
    refine t_expect h7 (fun e7 => ?_) (fun e7 => ?_)
    · rw [if_neg (fun w => w e7)] at hT
      have kn := pb_lt e7 (by omega)
      have o8 : ∀ x j, x ≠ 980 → x ≠ 1956 → x ≠ 1957 → (wr D7 1957 1 (tyK T n p + 1)) x j = D6 x j := fun x j u v w => by rw [wr_ne w, o7 x j u v]
      have fa : ∀ d j, 0 ≤ d → d ≤ 5 → (d = 0 → j ≠ 5) → (wr D7 1957 1 (tyK T n p + 1)) (aF 1 (D 980 4) + d) j = D3 (aF 1 (D 980 4) + d) j := fun d j u v w => by
        rw [o8 _ _ (by omega) (by omega) (by omega), g6 _ _ (by omega) (by omega), a5 _ _ (fun y => w (by omega) y.2) (by omega)]
      have fa0 : ∀ j, j ≠ 5 → (wr D7 1957 1 (tyK T n p + 1)) (aF 1 (D 980 4)) j = D3 (aF 1 (D 980 4)) j := fun j u => by
        rw [o8 _ _ (by omega) (by omega) (by omega), g6 _ _ (by omega) (by omega), a5 _ _ (fun y => u y.2) (by omega)]
      refine tbl_of (Or.inr rfl) (hT rfl _ ⟨⟨?_, ?_, ?_⟩, ⟨?_, fun j u v => ?_⟩, ⟨?_, ?_⟩, ?_, ⟨?_, ?_, ?_, ?_, ?_, ?_⟩, wr_self, fun x j u1 u2 u3 u4 u5 u6 => ?_⟩)
      · rw [o8 _ _ (by omega) (by omega) (by omega), g6 _ _ (by omega) (by omega)]; exact k5
      · rw [fa0 _ (by omega)]; exact b1.2.1
      · rw [fa0 _ (by omega)]; exact b1.2.2.1
      · rw [fa 1 _ (by omega) (by omega) (by omega)]; exact b2.1
      · rw [fa 2 _ (by omega) (by omega) (by omega)]; exact nam3 j u v
      · rw [fa 3 _ (by omega) (by omega) (by omega)]; exact b3
      · rw [fa 5 _ (by omega) (by omega) (by omega)]; exact b4
      · rw [wr_ne (by omega), ← eD7, wr_ne (by omega), wr_ne (by omega), wr_ne (by omega), wr_ne (by omega), wr_ne (by omega), wr_self]
      · rw [wr_ne (by omega), ← eD7, wr_ni (by omega), wr_ni (by omega), wr_ni (by omega), wr_ni (by omega), wr_ni (by omega), wr_ne (by omega), wr_self]
      · rw [wr_ne (by omega), ← eD7, wr_ni (by omega), wr_ni (by omega), wr_ni (by omega), wr_ni (by omega), wr_self]
      · rw [wr_ne (by omega), ← eD7, wr_ni (by omega), wr_ni (by omega), wr_ni (by omega), wr_self]
      · rw [wr_ne (by omega), ← eD7, wr_ni (by omega), wr_ni (by omega), wr_self]
      · rw [wr_ne (by omega), ← eD7, wr_ni (by omega), wr_self]
      · rw [wr_ne (by omega), ← eD7, wr_self]
      · by_cases y7 : x = 1957
        · subst y7
          rw [wr_ni (by omega), o7 _ _ (by omega) (by omega), g6 _ _ (by omega) (by omega), a5 _ _ (by omega) (by omega), g3 _ _ (by omega) (by omega)]
        rw [wr_ne y7]
        by_cases y6 : x = 1956
        · subst y6
          rw [r7 j (by omega), g6 _ _ (by omega) (by omega), a5 _ _ (by omega) (by omega), g3 _ _ (by omega) (by omega)]
        by_cases y0 : x = 980
        · subst y0
          rw [s7 j (by omega), g6 _ _ (by omega) (by omega), a5 _ _ (by omega) (by omega), g3 _ _ (by omega) (by omega)]
        rw [o7 _ _ y0 y6, g6 _ _ u2 u3, a5 _ _ (by omega) (by omega), g3 _ _ (by omega) (by omega)]
    · rw [if_pos e7] at hF
      exact tbl_of (Or.inl rfl) (hF (show (1 : Int) ≠ 0 from by decide) _ fc_2 fc_3 (frZ_tr f7 frZ_fc))
end HDC
