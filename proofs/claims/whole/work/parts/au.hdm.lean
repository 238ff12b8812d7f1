/-! reading: head lines, the other side -/
section HDM
variable {sc : Nat × (Nat → Int32)} {D A A' : tD} {K : tD → Int → Prop} {E : tD → Nat → Prop} {T : Int → Int} {n : Int}
/-- how far the kept sheet's cells reach in an array of the other side -/
def cap0 (x : Int) : Int := if x = 1981 then 192 else if x = 1983 then 64 else if x = 1985 then 320 else if x = 1987 then 48 else if x = 1989 then 384 else if x = 1990 then 32 else if x ≤ 1993 then 8 else if x = 1997 then 1584 else if x ≤ 2001 then 24 else if x = 2006 then 7392 else 168
/-- what reading may change, the other side -/
def frW (A A' : tD) : Prop := ∀ x j, (x < 1977 ∨ x = 1978 ∨ x = 2008 ∨ x = 2013 ∨ 2016 < x ∨ (x = 1977 ∧ (j = 2 ∨ j = 3 ∨ j = 22 ∨ j = 35 ∨ j = 43)) ∨ (x = 1979 ∧ j = 0) ∨ (1980 ≤ x ∧ x ≤ 2007 ∧ j < cap0 x)) → A' x j = A x j
theorem frW_tr {A1 A2 : tD} (h : frW A A1) (h2 : frW A1 A2) : frW A A2 := fun x j u => by rw [h2 x j u, h x j u]
theorem frW_rf : frW A A := fun _ _ _ => rfl
theorem frW_wr {a i v : Int} (h : (a = 1977 ∧ i ≠ 2 ∧ i ≠ 3 ∧ i ≠ 22 ∧ i ≠ 35 ∧ i ≠ 43) ∨ (a = 1979 ∧ i ≠ 0) ∨ (1980 ≤ a ∧ a ≤ 2007 ∧ cap0 a ≤ i) ∨ (2009 ≤ a ∧ a ≤ 2016 ∧ a ≠ 2013)) : frW A (wr A a i v) := fun x j u => by
  by_cases e : x = a
  · subst e; exact wr_ni (by omega)
  · exact wr_ne e
theorem frW_fl {c p : Int} : frW A (fl A c p) := frW_tr (frW_wr (by omega)) (frW_wr (by omega))
theorem frW_X (h : frX A A') : frW A A' := fun x j u => h x j (by omega) (by omega) (by omega) (by omega)
theorem u_eof {h p : Int} (hc : mu A T n p) {w : Int} (hw : A 1977 51 = 0 ↔ w ≠ 0) (hT : (eoO T n w h p).1 = 0 → K (wr (wr A 1977 47 (p + 1)) 1977 61 1) 1) (hF : (eoO T n w h p).1 ≠ 0 → ∀ A', A' 1977 45 = (eoO T n w h p).1 → A' 1977 46 = (eoO T n w h p).2 → frW A A' → K A' 0) : WP sc 260 0 A [(0, (1211, 1977)), (1, (0, h))] [] K E := by
  have c := hc.2
  refine v260_0 (v258_0 ?_)
  unfold eoO at hT hF
  by_cases z : A 1977 51 = 0
  · rw [if_pos z, if_neg (by omega)]
    rw [if_neg (hw.mp z)] at hT hF
    refine u_expects hc (fun e => ?_) (fun e => ?_)
    · rw [if_neg (by omega), wr_self, wr_ni (by omega), hc.1.2.1]
      rw [if_neg (fun w => w e)] at hT hF
      by_cases z2 : p + 1 < n
      · rw [if_pos z2] at hF ⊢
        exact u_fails (by rw [wr_ni (by omega)]; exact hc.1.2.2) (hF (show (1 : Int) ≠ 0 from by decide) _ fl_45 fl_46 (frW_tr (frW_wr (by omega)) frW_fl))
      · rw [if_neg z2] at hT ⊢
        exact hT rfl
    · rw [if_pos rfl]
      rw [if_pos e] at hF
      exact hF (show (1 : Int) ≠ 0 from by decide) _ fl_45 fl_46 frW_fl
  · rw [if_neg z, if_pos rfl]
    have w0 : w = 0 := by
      by_cases y : w = 0
      · exact y
      · exact absurd (hw.mpr y) z
    rw [if_pos w0] at hF
    exact u_fails hc.1.2.2 (hF (show (5 : Int) ≠ 0 from by decide) _ fl_45 fl_46 frW_fl)
/-- what the other side holds of a new family -/
def myR (A A' : tD) (T : Int → Int) (s e kd f q : Int) : Prop := (A' 1980 (8 + f) = kd ∧ A' 1982 (8 + f) = e - s ∧ A' 1984 (8 + f) = 0 ∧ A' 1986 (8 + f) = 0 ∧ A' 1988 (8 + f) = 0 ∧ A' 1991 (8 + f) = 0) ∧ (∀ j, 0 ≤ j → j < e - s → A' 1981 (24 * (8 + f) + j) = T (s + j)) ∧ A' 1979 1 = f + 1 ∧ (A' 1977 47 = q ∧ A' 1977 48 = 8 + f ∧ A' 1977 49 = 1 ∧ A' 1977 50 = -1 ∧ A' 1977 51 = 0 ∧ A' 1977 52 = 0) ∧ (∀ x j, x = 1980 ∨ x = 1982 ∨ x = 1984 ∨ x = 1986 ∨ x = 1988 ∨ x = 1991 ∨ x = 1992 → j ≠ 8 + f → A' x j = A x j) ∧ (∀ j, ¬ (24 * (8 + f) ≤ j ∧ j < 24 * (8 + f) + 24) → A' 1981 j = A 1981 j) ∧ (∀ j, j ≠ 1 → A' 1979 j = A 1979 j) ∧ (∀ j, j < 47 ∨ 52 < j → A' 1977 j = A 1977 j) ∧ ∀ x j, x ≠ 1977 → x ≠ 1979 → x ≠ 1980 → x ≠ 1981 → x ≠ 1982 → x ≠ 1984 → x ≠ 1986 → x ≠ 1988 → x ≠ 1991 → x ≠ 1992 → A' x j = A x j
theorem u_run87 {x2 x3 x4 : Int} : ∀ (m : Nat) (b : Int) (A : tD), n - b = (m : Int) → mu A T n b → WP sc 261 116 (wr A 1977 47 (ru 1 T n b)) [(0, (1211, 1977)), (2, (0, x2)), (3, (0, x3)), (4, (0, x4)), (5, (0, (-1))), (6, (0, 0))] [] K E → WP sc 261 87 A [(0, (1211, 1977)), (2, (0, x2)), (3, (0, x3)), (4, (0, x4))] [] K E := by
  intro m
  induction m with
  | zero =>
    intro b A hm h hK
    refine v261_87 (u_peek h (m_small (fun e => ?_) (fun e => ?_)))
    · rw [srt_pb] at e; omega
    · rw [if_pos rfl]
      rw [ru_stop (fun w => by omega), wr_id h.1.1] at hK
      exact hK
  | succ m ih =>
    intro b A hm h hK
    have c := h.2
    refine v261_87 (u_peek h (m_small (fun e => ?_) (fun e => ?_)))
    · rw [srt_pb] at e
      rw [if_neg (by omega), h.1.1, w32_id (by omega) (by omega)]
      have h1 := mu_wr h (b := b + 1) ⟨by omega, by omega⟩
      refine ih (b + 1) _ (by omega) h1 ?_
      rw [wr_wr, ← ru_go e]
      exact hK
    · rw [if_pos rfl]
      rw [srt_pb] at e
      rw [ru_stop e, wr_id h.1.1] at hK
      exact hK
theorem u_kind116 {x2 x3 x4 b : Int} (hb : 0 ≤ x4 ∧ x4 ≤ b ∧ b ≤ n) (h : mu A T n b) (hK : if kdT T x4 b < 0 then (WP sc 251 0 A [(0, (1211, 1977)), (1, (0, 3)), (2, (0, x4))] [] (fun D4 r5 => tbl r5 (K D4 r5)) E) else (((0 : Int) ≤ 1 ∧ (1 : Int) < ln 1979) ∧ (WP sc 208 0 (wr A 1977 48 (w32 (8 + (A 1979 1)))) [(0, (1211, 1977)), (1, (0, (wr A 1977 48 (w32 (8 + (A 1979 1)))) 1977 48)), (2, (0, kdT T x4 b)), (3, (0, x2)), (4, (0, x3))] [] (fun D7 _ => WP sc 261 195 D7 [(0, (1211, 1977)), (2, (0, x2)), (6, (0, 0)), (7, (0, 8))] [] K E) E))) : ∀ (m : Nat) (k x5 : Int), 5 - k = (m : Int) → 0 ≤ k → ((x5 = -1 ∧ ∀ i, 0 ≤ i → i < k → ¬ wdT T (7 + i) x4 b) ∨ (0 ≤ x5 ∧ x5 ≤ 4 ∧ wdT T (7 + x5) x4 b)) → WP sc 261 116 A [(0, (1211, 1977)), (2, (0, x2)), (3, (0, x3)), (4, (0, x4)), (5, (0, x5)), (6, (0, k))] [] K E := by
  have c := h.2
  intro m
  induction m with
  | zero =>
    intro k x5 hm hk hx
    refine v261_116 ?_
    rw [if_neg (by omega)]
    have e : kdT T x4 b = x5 := by
      rcases hx with ⟨e1, e2⟩ | ⟨e1, e2, e3⟩
      · exact kdT_of (Or.inr ⟨e1, fun i u v => e2 i u (by omega)⟩)
      · exact kdT_of (Or.inl ⟨e1, e2, e3⟩)
    rw [e] at hK
    exact hK
  | succ m ih =>
    intro k x5 hm hk hx
    refine v261_116 ?_
    rw [if_pos (by omega), h.1.1, w32_id (x := 7 + k) (by omega) (by omega), w32_id (x := k + 1) (by omega) (by omega)]
    refine u_word (by omega) hb ⟨_, h⟩ (fun e => ?_) (fun e => ?_)
    · rw [if_neg (by omega)]
      exact ih (k + 1) k (by omega) (by omega) (Or.inr ⟨hk, by omega, e⟩)
    · rw [if_pos rfl]
      refine ih (k + 1) x5 (by omega) (by omega) ?_
      rcases hx with ⟨e1, e2⟩ | hx
      · refine Or.inl ⟨e1, fun i u v => ?_⟩
        by_cases z : i = k
        · rw [z]; exact e
        · exact e2 i u (by omega)
      · exact Or.inr hx
theorem u_clash195 {x2 f : Int} (h48 : A 1977 48 = 8 + f) (hf : 0 ≤ f ∧ f ≤ 7) (hn : ∀ k, 0 ≤ k → k ≤ f → nzP A (8 + k)) (hK : ∀ x : Int, ((x = 1 ∧ ∃ k, (0 ≤ k ∧ k < f) ∧ clF (nmf A (8 + f)) (A 1982 (8 + f)) (A 1980 (8 + f)) (nmf A (8 + k)) (A 1982 (8 + k)) (A 1980 (8 + k))) ∨ (x = 0 ∧ ¬ ∃ k, (0 ≤ k ∧ k < f) ∧ clF (nmf A (8 + f)) (A 1982 (8 + f)) (A 1980 (8 + f)) (nmf A (8 + k)) (A 1982 (8 + k)) (A 1980 (8 + k)))) → (if x = 0 then (((0 : Int) ≤ 1 ∧ (1 : Int) < ln 1979) ∧ (((0 : Int) ≤ 1 ∧ (1 : Int) < ln 1979) ∧ (WP sc 253 0 (wr (wr (wr (wr (wr A 1979 1 (w32 ((A 1979 1) + 1))) 1977 49 1) 1977 50 (-1)) 1977 51 0) 1977 52 0) [(0, (1211, 1977)), (1, (0, 10))] [] (fun D4 r5 => tbl r5 (K D4 r5)) E))) else (WP sc 251 0 A [(0, (1211, 1977)), (1, (0, 4)), (2, (0, x2))] [] (fun D7 r8 => tbl r8 (K D7 r8)) E))) : ∀ (m : Nat) (k x6 : Int), f - k = (m : Int) → 0 ≤ k → ((x6 = 1 ∧ ∃ k, (0 ≤ k ∧ k < f) ∧ clF (nmf A (8 + f)) (A 1982 (8 + f)) (A 1980 (8 + f)) (nmf A (8 + k)) (A 1982 (8 + k)) (A 1980 (8 + k))) ∨ (x6 = 0 ∧ ∀ i, 0 ≤ i → i < k → ¬ clF (nmf A (8 + f)) (A 1982 (8 + f)) (A 1980 (8 + f)) (nmf A (8 + i)) (A 1982 (8 + i)) (A 1980 (8 + i)))) → WP sc 261 195 A [(0, (1211, 1977)), (2, (0, x2)), (6, (0, x6)), (7, (0, 8 + k))] [] K E := by
  intro m
  induction m with
  | zero =>
    intro k x6 hm hk hx
    refine v261_195 ?_
    rw [h48, if_neg (by omega)]
    refine hK x6 ?_
    rcases hx with hx | ⟨e1, e2⟩
    · exact Or.inl hx
    · exact Or.inr ⟨e1, fun ⟨i, u, v⟩ => e2 i u.1 (by omega) v⟩
  | succ m ih =>
    intro k x6 hm hk hx
    refine v261_195 ?_
    rw [h48, if_pos (by omega), w32_id (x := 8 + k + 1) (by omega) (by omega), show 8 + k + 1 = 8 + (k + 1) from by omega]
    rcases hx with ⟨e1, e2⟩ | ⟨e1, e2⟩
    · rw [if_neg (by omega)]
      exact ih (k + 1) 1 (by omega) (by omega) (Or.inl ⟨rfl, e2⟩)
    · rw [if_pos e1]
      refine m_clash (hn f hf.1 (by omega)) (hn k hk (by omega)) (fun q => ?_) (fun q => ?_)
      · rw [if_neg (by omega)]
        exact ih (k + 1) 1 (by omega) (by omega) (Or.inl ⟨rfl, k, ⟨hk, by omega⟩, q⟩)
      · rw [if_pos rfl]
        refine ih (k + 1) 0 (by omega) (by omega) (Or.inr ⟨rfl, fun i u v => ?_⟩)
        by_cases z : i = k
        · rw [z]; exact q
        · exact e2 i u (by omega)
theorem u_type {h p : Int} (hc : mu A T n p) (hw : A 1977 51 = 0 ↔ D 1956 11 ≠ 0) (hf : A 1979 1 = D 980 4 ∧ 0 ≤ D 980 4 ∧ D 980 4 ≤ 8) (hn : ∀ k, 0 ≤ k → k < D 980 4 → nzP A (8 + k)) (hX : ∀ s e kd, (∃ k, (0 ≤ k ∧ k < D 980 4) ∧ clF (fun j => T (s + j)) (e - s) kd (nmf A (8 + k)) (A 1982 (8 + k)) (A 1980 (8 + k))) ↔ tyX D T s e kd) (hT : (tyO D T n h p).1 = 0 → ∀ A', myR A A' T (p + 1) (tyN T n p) (kdT T (tyN T n p + 1) (tyK T n p)) (D 980 4) (tyK T n p + 1) → frW A A' → fnamT T (p + 1) (tyN T n p) → 0 ≤ kdT T (tyN T n p + 1) (tyK T n p) ∧ kdT T (tyN T n p + 1) (tyK T n p) ≤ 4 → pb T n (tyK T n p) = 10 → D 980 4 < 8 → K A' 1) (hF : (tyO D T n h p).1 ≠ 0 → ∀ A', A' 1977 45 = (tyO D T n h p).1 → A' 1977 46 = (tyO D T n h p).2 → frW A A' → K A' 0) : WP sc 261 0 A [(0, (1211, 1977)), (1, (0, h))] [] K E := by
  have c := hc.2
  refine v261_0 (v258_0 ?_)
  unfold tyO at hT hF
  by_cases z : A 1977 51 = 0
  rotate_left
  · rw [if_neg z, if_pos rfl]
    have w0 : D 1956 11 = 0 := by
      by_cases y : D 1956 11 = 0
      · exact y
      · exact absurd (hw.mpr y) z
    rw [if_pos w0] at hF
    exact u_fails hc.1.2.2 (hF (show (5 : Int) ≠ 0 from by decide) _ fl_45 fl_46 frW_fl)
  rw [if_pos z, if_neg (by omega)]
  rw [if_neg (hw.mp z)] at hT hF
  refine u_expects hc (fun e => ?_) (fun e => ?_)
  rotate_left
  · rw [if_pos rfl]
    rw [if_pos e] at hF
    exact hF (show (1 : Int) ≠ 0 from by decide) _ fl_45 fl_46 frW_fl
  rw [if_neg (by omega)]
  rw [if_neg (fun w => w e)] at hT hF
  have pn := pb_lt e (by omega)
  have h1 := mu_wr hc (b := p + 1) ⟨by omega, by omega⟩
  refine u_names h1 ?_
  rw [wr_wr]
  have eN : ru 5 T n (p + 1) = tyN T n p := rfl
  rw [eN]
  have rb := ru_b (s := 5) (T := T) (n := n) (a := p + 1) (by omega)
  rw [eN] at rb
  have h2 := mu_wr hc (b := tyN T n p) ⟨by omega, by omega⟩
  rw [wr_self]
  have f2 : frW A (wr A 1977 47 (tyN T n p)) := frW_wr (by omega)
  have key : fnamT ((wr A 1977 47 (tyN T n p)) 1978) (p + 1) (tyN T n p) ↔ fnamT T (p + 1) (tyN T n p) := by
    have t1 : ∀ j, 0 ≤ j → j < n → (wr A 1977 47 (tyN T n p)) 1978 j = T j := fun j u v => (h2.2.2 j u v).1
    unfold fnamT
    refine ⟨fun ⟨q1, q2, q3, q4⟩ => ⟨q1, q2, ?_, fun j u v => ?_⟩, fun ⟨q1, q2, q3, q4⟩ => ⟨q1, q2, ?_, fun j u v => ?_⟩⟩
    · rw [← t1 (p + 1) (by omega) (by omega)]; exact q3
    · rw [← t1 j (by omega) (by omega)]; exact q4 j u v
    · rw [t1 (p + 1) (by omega) (by omega)]; exact q3
    · rw [t1 j (by omega) (by omega)]; exact q4 j u v
  refine m_fname ⟨by omega, by omega⟩ ⟨by omega, by omega⟩ (fun e2 => ?_) (fun e2 => ?_)
  rotate_left
  · rw [if_pos rfl]
    rw [key] at e2
    rw [cif_pos e2] at hF
    exact u_fails h2.1.2.2 (hF (show (2 : Int) ≠ 0 from by decide) _ fl_45 fl_46 (frW_tr f2 frW_fl))
  rw [if_neg (by omega), wr_ne (by omega), hf.1]
  rw [key] at e2
  rw [cif_neg (fun w => w e2)] at hT hF
  have e24 := e2.2.1
  refine ⟨⟨by omega, by decide⟩, ?_⟩
  by_cases z8 : D 980 4 < 8
  rotate_left
  · rw [if_pos (by omega)]
    rw [if_pos z8] at hF
    exact u_fails h2.1.2.2 (hF (show (14 : Int) ≠ 0 from by decide) _ fl_45 fl_46 (frW_tr f2 frW_fl))
  rw [if_neg (by omega)]
  rw [if_neg (fun w => w z8)] at hT hF
  refine u_expects h2 (fun e3 => ?_) (fun e3 => ?_)
  rotate_left
  · rw [if_pos rfl]
    rw [if_pos e3] at hF
    exact hF (show (1 : Int) ≠ 0 from by decide) _ fl_45 fl_46 (frW_tr f2 frW_fl)
  rw [if_neg (by omega), wr_wr, wr_self]
  rw [if_neg (fun w => w e3)] at hT hF
  have nn := pb_lt e3 (by omega)
  have h4 := mu_wr hc (b := tyN T n p + 1) ⟨by omega, by omega⟩
  refine u_run87 (n - (tyN T n p + 1)).toNat (tyN T n p + 1) _ (by omega) h4 ?_
  have eK : ru 1 T n (tyN T n p + 1) = tyK T n p := rfl
  have rk := ru_b (s := 1) (T := T) (n := n) (a := tyN T n p + 1) (by omega)
  rw [eK] at rk ⊢
  rw [wr_wr]
  have h5 := mu_wr hc (b := tyK T n p) ⟨by omega, by omega⟩
  refine u_kind116 ⟨by omega, rk.1, rk.2⟩ h5 ?_ 5 0 (-1) (by omega) (by omega) (Or.inl ⟨rfl, fun i u v => by omega⟩)
  have f5 : frW A (wr A 1977 47 (tyK T n p)) := frW_wr (by omega)
  by_cases zk : kdT T (tyN T n p + 1) (tyK T n p) < 0
  · rw [if_pos zk] at hF ⊢
    exact u_fails h5.1.2.2 (hF (show (3 : Int) ≠ 0 from by decide) _ fl_45 fl_46 (frW_tr f5 frW_fl))
  rw [if_neg zk] at hT hF ⊢
  have kd4 : 0 ≤ kdT T (tyN T n p + 1) (tyK T n p) ∧ kdT T (tyN T n p + 1) (tyK T n p) ≤ 4 := by
    rcases kdT_P (T := T) (a := tyN T n p + 1) (b := tyK T n p) with ⟨q1, q2, _⟩ | ⟨q1, _⟩
    · exact ⟨q1, q2⟩
    · omega
  refine ⟨⟨by omega, by decide⟩, ?_⟩
  have d79 : (wr A 1977 47 (tyK T n p)) 1979 1 = D 980 4 := by rw [wr_ne (by omega)]; exact hf.1
  rw [d79, w32_id (x := 8 + D 980 4) (by omega) (by omega), wr_self]
  refine m_kfam ⟨by omega, by omega⟩ ⟨by omega, rb.1, by omega, e24⟩ (fun A6 hk => ?_)
  obtain ⟨k1, k2, k3, k4, k5⟩ := hk
  generalize hkd : kdT T (tyN T n p + 1) (tyK T n p) = kd at *
  generalize hff : D 980 4 = f at *
  have o6 : ∀ x j, x ≠ 1977 → x ≠ 1980 → x ≠ 1981 → x ≠ 1982 → x ≠ 1984 → x ≠ 1986 → x ≠ 1988 → x ≠ 1991 → x ≠ 1992 → A6 x j = A x j := fun x j u0 u1 u2 u3 u4 u5 u6 u7 u8 => by rw [k5 x j u1 u2 u3 u4 u5 u6 u7 u8, wr_ne u0, wr_ne u0]
  have c6 : ∀ j, j ≠ 47 → j ≠ 48 → A6 1977 j = A 1977 j := fun j u v => by rw [k5 _ _ (by omega) (by omega) (by omega) (by omega) (by omega) (by omega) (by omega) (by omega), wr_ni v, wr_ni u]
  have c48 : A6 1977 48 = 8 + f := by rw [k5 _ _ (by omega) (by omega) (by omega) (by omega) (by omega) (by omega) (by omega) (by omega), wr_self]
  have c47 : A6 1977 47 = tyK T n p := by rw [k5 _ _ (by omega) (by omega) (by omega) (by omega) (by omega) (by omega) (by omega) (by omega), wr_ni (by omega), wr_self]
  have o6b : ∀ x j, x = 1980 ∨ x = 1982 ∨ x = 1984 ∨ x = 1986 ∨ x = 1988 ∨ x = 1991 ∨ x = 1992 → j ≠ 8 + f → A6 x j = A x j := fun x j u v => by rw [k4 x j u v, wr_ne (by omega), wr_ne (by omega)]
  have o6c : ∀ j, ¬ (24 * (8 + f) ≤ j ∧ j < 24 * (8 + f) + 24) → A6 1981 j = A 1981 j := fun j u => by rw [k3 j (by omega), wr_ne (by omega), wr_ne (by omega)]
  have nm6 : ∀ j, 0 ≤ j → j < tyN T n p - (p + 1) → A6 1981 (24 * (8 + f) + j) = T (p + 1 + j) := fun j u v => by
    rw [k2 j u v, wr_ne (by omega), wr_ne (by omega)]
    exact (c.2 _ (by omega) (by omega)).1
  have f6 : frW A A6 := fun x j u => by
    by_cases y : x = 1977
    · subst y; exact c6 j (by omega) (by omega)
    by_cases y1 : x = 1981
    · subst y1
      have e1 : cap0 1981 = 192 := rfl
      exact o6c j (by omega)
    by_cases y2 : x = 1980 ∨ x = 1982 ∨ x = 1984 ∨ x = 1986 ∨ x = 1988 ∨ x = 1991 ∨ x = 1992
    · have e1 : cap0 x = 8 := by rcases y2 with y | y | y | y | y | y | y <;> rw [y] <;> rfl
      exact o6b x j y2 (by omega)
    · exact o6 x j y (by omega) y1 (by omega) (by omega) (by omega) (by omega) (by omega) (by omega)
  have hn6 : ∀ k, 0 ≤ k → k ≤ f → nzP A6 (8 + k) := fun k u v => by
    by_cases y : k = f
    · rw [y]
      exact ⟨by omega, by rw [k1.2.1]; omega, by rw [k1.2.1]; omega⟩
    · have q := hn k u (by omega)
      exact ⟨q.1, by rw [o6b _ _ (by omega) (by omega)]; exact q.2.1, by rw [o6b _ _ (by omega) (by omega)]; exact q.2.2⟩
  have kx : (∃ k, (0 ≤ k ∧ k < f) ∧ clF (nmf A6 (8 + f)) (A6 1982 (8 + f)) (A6 1980 (8 + f)) (nmf A6 (8 + k)) (A6 1982 (8 + k)) (A6 1980 (8 + k))) ↔ tyX D T (p + 1) (tyN T n p) kd := by
    rw [← hX (p + 1) (tyN T n p) kd, k1.1, k1.2.1]
    have ext : ∀ k, 0 ≤ k → k < f → (clF (nmf A6 (8 + f)) (tyN T n p - (p + 1)) kd (nmf A6 (8 + k)) (A6 1982 (8 + k)) (A6 1980 (8 + k)) ↔ clF (fun j => T (p + 1 + j)) (tyN T n p - (p + 1)) kd (nmf A (8 + k)) (A 1982 (8 + k)) (A 1980 (8 + k))) := fun k u v => by
      rw [o6b 1982 _ (by omega) (by omega), o6b 1980 _ (by omega) (by omega)]
      have q := hn k u v
      exact clF_ext (fun j a b => nm6 j a b) (fun j a b => o6c _ (by have := q.2.2; omega))
    exact ⟨fun ⟨k, u, v⟩ => ⟨k, u, (ext k u.1 u.2).mp v⟩, fun ⟨k, u, v⟩ => ⟨k, u, (ext k u.1 u.2).mpr v⟩⟩
  refine u_clash195 (f := f) c48 ⟨by omega, by omega⟩ hn6 (fun x hx => ?_) f.toNat 0 0 (by omega) (by omega) (Or.inr ⟨rfl, fun i u v => by omega⟩)
  have d45 : A6 1977 45 = 0 := by rw [c6 _ (by omega) (by omega)]; exact hc.1.2.2
  rcases hx with ⟨x1, ex⟩ | ⟨x0, ex⟩
  · rw [if_neg (by omega)]
    rw [cif_pos (kx.mp ex)] at hF
    exact u_fails d45 (hF (show (4 : Int) ≠ 0 from by decide) _ fl_45 fl_46 (frW_tr f6 frW_fl))
  · rw [if_pos x0]
    rw [cif_neg (fun w => ex (kx.mpr w))] at hT hF
    refine ⟨⟨by omega, by decide⟩, ⟨by omega, by decide⟩, ?_⟩
    have d79b : A6 1979 1 = f := by rw [o6 _ _ (by omega) (by omega) (by omega) (by omega) (by omega) (by omega) (by omega) (by omega) (by omega)]; exact hf.1
    rw [d79b, w32_id (x := f + 1) (by omega) (by omega)]
    generalize eA7 : wr (wr (wr (wr (wr A6 1979 1 (f + 1)) 1977 49 1) 1977 50 (-1)) 1977 51 0) 1977 52 0 = A7
    have o7 : ∀ x j, x ≠ 1979 → x ≠ 1977 → A7 x j = A6 x j := fun x j u v => by rw [← eA7, wr_ne v, wr_ne v, wr_ne v, wr_ne v, wr_ne u]
    have c7 : ∀ j, j < 49 ∨ 52 < j → A7 1977 j = A6 1977 j := fun j u => by rw [← eA7, wr_ni (by omega), wr_ni (by omega), wr_ni (by omega), wr_ni (by omega), wr_ne (by omega)]
    have s7 : ∀ j, j ≠ 1 → A7 1979 j = A6 1979 j := fun j u => by rw [← eA7, wr_ne (by omega), wr_ne (by omega), wr_ne (by omega), wr_ne (by omega), wr_ni u]
    have f7 : frW A A7 := frW_tr f6 (by rw [← eA7]; exact frW_tr (frW_wr (by omega)) (frW_tr (frW_wr (by omega)) (frW_tr (frW_wr (by omega)) (frW_tr (frW_wr (by omega)) (frW_wr (by omega))))))
    have h7 : mu A7 T n (tyK T n p) := mu_to hc ⟨by omega, by omega⟩ (by rw [c7 _ (by omega)]; exact c47) (f7 _ _ (by omega)) (by rw [c7 _ (by omega), c6 _ (by omega) (by omega)]) (fun j => f7 _ _ (by omega))
    refine u_expects h7 (fun e7 => ?_) (fun e7 => ?_)
    · rw [if_neg (fun w => w e7)] at hT
      have w7 : ∀ x j, x ≠ 1977 → (wr A7 1977 47 (tyK T n p + 1)) x j = A7 x j := fun x j u => wr_ne u
      refine tbl_of (Or.inr rfl) (hT rfl _ ⟨⟨?_, ?_, ?_, ?_, ?_, ?_⟩, fun j u v => ?_, ?_, ⟨wr_self, ?_, ?_, ?_, ?_, ?_⟩, fun x j u v => ?_, fun j u => ?_, fun j u => ?_, fun j u => ?_, fun x j u0 u1 u2 u3 u4 u5 u6 u7 u8 u9 => ?_⟩ (frW_tr f7 (frW_wr (by omega))) e2 kd4 e7 z8)
      · rw [w7 _ _ (by omega), o7 _ _ (by omega) (by omega)]; exact k1.1
      · rw [w7 _ _ (by omega), o7 _ _ (by omega) (by omega)]; exact k1.2.1
      · rw [w7 _ _ (by omega), o7 _ _ (by omega) (by omega)]; exact k1.2.2.1
      · rw [w7 _ _ (by omega), o7 _ _ (by omega) (by omega)]; exact k1.2.2.2.1
      · rw [w7 _ _ (by omega), o7 _ _ (by omega) (by omega)]; exact k1.2.2.2.2.1
      · rw [w7 _ _ (by omega), o7 _ _ (by omega) (by omega)]; exact k1.2.2.2.2.2.1
      · rw [w7 _ _ (by omega), o7 _ _ (by omega) (by omega)]; exact nm6 j u v
      · rw [w7 _ _ (by omega), ← eA7, wr_ne (by omega), wr_ne (by omega), wr_ne (by omega), wr_ne (by omega), wr_self]
      · rw [wr_ni (by omega), c7 _ (by omega)]; exact c48
      · rw [wr_ni (by omega), ← eA7, wr_ni (by omega), wr_ni (by omega), wr_ni (by omega), wr_self]
      · rw [wr_ni (by omega), ← eA7, wr_ni (by omega), wr_ni (by omega), wr_self]
      · rw [wr_ni (by omega), ← eA7, wr_ni (by omega), wr_self]
      · rw [wr_ni (by omega), ← eA7, wr_self]
      · rw [w7 _ _ (by omega), o7 _ _ (by omega) (by omega)]; exact o6b x j u v
      · rw [w7 _ _ (by omega), o7 _ _ (by omega) (by omega)]; exact o6c j u
      · rw [w7 _ _ (by omega), s7 j u, o6 _ _ (by omega) (by omega) (by omega) (by omega) (by omega) (by omega) (by omega) (by omega) (by omega)]
      · rw [wr_ni (by omega), c7 _ (by omega), c6 _ (by omega) (by omega)]
      · rw [w7 _ _ u0, o7 _ _ u1 u0, o6 _ _ u0 u2 u3 u4 u5 u6 u7 u8 u9]
    · rw [if_pos e7] at hF
      exact tbl_of (Or.inl rfl) (hF (show (1 : Int) ≠ 0 from by decide) _ fl_45 fl_46 (frW_tr f7 frW_fl))
end HDM
