/-! the typed machine is sound: what it asks for, the plain machine runs -/
section TSO
variable {sc : Nat × (Nat → Int32)} {y pc : Nat} {D : tD} {lv : List (Nat × tV)} {st : List tV} {K : tD → Int → Prop} {E : tD → Nat → Prop} {i : Instr}
variable {fr lo : Nat} {h : List pv_E} {lv' : List (Nat × Value)} {st' : List Value}
theorem pr_succ (n : Nat) : pr sc (n + 1) fr lo h y pc lv' st' = pv_body pv_G pv_S pv_P pv_N pv_M sc 601024 7293034 pt_ar pt_nw pt_fty pt_cox pt_ax pt_nL pt_cst pt_rt pt_hs pt_rc (pt_xtA pv_G pv_S) (pr sc n) fr lo h y pc lv' st' := rfl
theorem p_s2 (hco : pt_cox y pc = some i) {lv2 : List (Nat × Value)} {st2 : List Value} (h1 : pv_s2 (pt_nL y) i lv' st' = some (lv2, st2)) (n : Nat) : pr sc (n + 1) fr lo h y pc lv' st' = pr sc n fr lo h y (pc + pv_len i) lv2 st2 := by
  rw [pr_succ]; unfold pv_body; rw [hco]; dsimp only; rw [h1]
theorem p_s1 (hco : pt_cox y pc = some i) {st2 : List Value} (h0 : pv_s2 (pt_nL y) i lv' st' = none) (h1 : pv_s1 i st' = some st2) (n : Nat) : pr sc (n + 1) fr lo h y pc lv' st' = pr sc n fr lo h y (pc + pv_len i) lv' st2 := by
  rw [pr_succ]; unfold pv_body; rw [hco]; dsimp only; rw [h0]; dsimp only; rw [h1]
theorem p_j (hco : pt_cox y pc = some i) {tk : Bool} {off : Int} {st2 : List Value} (h0 : pv_s2 (pt_nL y) i lv' st' = none) (h1 : pv_s1 i st' = none) (h2 : pv_j i st' = some (tk, off, st2)) (h3 : 0 ≤ (pc : Int) + off) (n : Nat) : pr sc (n + 1) fr lo h y pc lv' st' = if tk = true then pr sc n fr lo h y ((pc : Int) + off).toNat lv' st2 else pr sc n fr lo h y (pc + 3) lv' st2 := by
  rw [pr_succ]; unfold pv_body; rw [hco]; dsimp only; rw [h0]; dsimp only; rw [h1]; dsimp only; rw [h2]; dsimp only; rw [if_pos h3]
theorem p_h (hco : pt_cox y pc = some i) {h2 : List pv_E} {st2 : List Value} (h0 : pv_s2 (pt_nL y) i lv' st' = none) (h1 : pv_s1 i st' = none) (h3 : pv_j i st' = none) (h4 : pv_h pv_G pv_S pv_P pv_N pv_M sc 601024 7293034 pt_ar pt_nw pt_fty i (pt_ax y i).1 (pt_ax y i).2.1 h st' = some (h2, st2)) (n : Nat) : pr sc (n + 1) fr lo h y pc lv' st' = pr sc n fr lo h2 y (pc + pv_len i) lv' st2 := by
  rw [pr_succ]; unfold pv_body; rw [hco]; dsimp only; rw [h0]; dsimp only; rw [h1]; dsimp only; rw [h3]; dsimp only; rw [h4]
theorem p_ret (hco : pt_cox y pc = some i) {v : Option Value} (h0 : pv_s2 (pt_nL y) i lv' st' = none) (h1 : pv_s1 i st' = none) (h3 : pv_j i st' = none) (h4 : pv_h pv_G pv_S pv_P pv_N pv_M sc 601024 7293034 pt_ar pt_nw pt_fty i (pt_ax y i).1 (pt_ax y i).2.1 h st' = none) (h5 : pv_ret (pt_rt y) i st' = some v) (n : Nat) : pr sc (n + 1) fr lo h y pc lv' st' = some (h, .inl v) := by
  rw [pr_succ]; unfold pv_body; rw [hco]; dsimp only; rw [h0]; dsimp only; rw [h1]; dsimp only; rw [h3]; dsimp only; rw [h4]; dsimp only; rw [h5]
theorem p_ld (hco : pt_cox y pc = some i) {v : Value} (h0 : pv_s2 (pt_nL y) i lv' st' = none) (h1 : pv_s1 i st' = none) (h3 : pv_j i st' = none) (h4 : pv_h pv_G pv_S pv_P pv_N pv_M sc 601024 7293034 pt_ar pt_nw pt_fty i (pt_ax y i).1 (pt_ax y i).2.1 h st' = none) (h5 : pv_ret (pt_rt y) i st' = none) (h6 : pv_isld i = true) (h7 : pt_cst y i = some v) (n : Nat) : pr sc (n + 1) fr lo h y pc lv' st' = pr sc n fr lo h y (pc + pv_len i) lv' (v :: st') := by
  rw [pr_succ]; unfold pv_body; rw [hco]; dsimp only; rw [h0]; dsimp only; rw [h1]; dsimp only; rw [h3]; dsimp only; rw [h4]; dsimp only; rw [h5]; dsimp only; rw [h6]; dsimp only; rw [h7]
theorem p_xt (hco : pt_cox y pc = some i) {h2 : List pv_E} {st2 : List Value} (hi : pv_isiv i = true) (hk : 3 ≤ (pt_ax y i).1) (hx : pt_xtA pv_G pv_S (pt_ax y i).1 (pt_ax y i).2.1 fr lo h st' = some (h2, st2)) (n : Nat) : pr sc (n + 1) fr lo h y pc lv' st' = pr sc n fr lo h2 y (pc + 3) lv' st2 := by
  have e1 : pv_s2 (pt_nL y) i lv' st' = none := by cases i <;> first | rfl | cases hi
  have e2 : pv_s1 i st' = none := by cases i <;> first | rfl | cases hi
  have e3 : pv_j i st' = none := by cases i <;> first | rfl | cases hi
  have e5 : pv_ret (pt_rt y) i st' = none := by cases i <;> first | rfl | cases hi
  have e6 : pv_isld i = false := by cases i <;> first | rfl | cases hi
  have e7 : pv_isth i (pt_ax y i).1 = false := by cases i <;> first | rfl | cases hi
  have e4 := ph_no3 (G2 := pv_G) (S2 := pv_S) (P2 := pv_P) (N2 := pv_N) (M2 := pv_M) (sc := sc) (capC := 601024) (capS := 7293034) (ar := pt_ar) (nw := pt_nw) (b := h) (st := st') (fty := pt_fty) (a1 := (pt_ax y i).1) (a2 := (pt_ax y i).2.1) hi
  rw [pr_succ]; unfold pv_body; rw [hco]; dsimp only; rw [e1]; dsimp only; rw [e2]; dsimp only; rw [e3]; dsimp only; rw [e4]; dsimp only; rw [e5]; dsimp only; rw [e6]; dsimp only; rw [e7]; dsimp only; rw [hi]; dsimp only
  rw [if_pos hk, hx]
/-- a call that throws -/
theorem p_ix {n : Nat} (hco : pt_cox y pc = some i) (hi : pv_isiv i = true) (hkd : (pt_ax y i).1 < 3) (hlen : ¬ st'.length < (pt_ax y i).2.2)
    (hc : pv_recv pv_G pt_rc (pt_ax y i).1 (pt_ax y i).2.1 h (st'.take (pt_ax y i).2.2).reverse = true ∧ ((st'.drop (pt_ax y i).2.2).map Value.category).sum + (pt_nL (pt_ax y i).2.1 + 11) ≤ lo ∧ (lg_sl (st'.take (pt_ax y i).2.2).reverse).length ≤ pt_nL (pt_ax y i).2.1) {h1 : List pv_E} {a x : Nat}
    (hcal : pr sc n fr (lo - (((st'.drop (pt_ax y i).2.2).map Value.category).sum + (pt_nL (pt_ax y i).2.1 + 11))) h (pt_ax y i).2.1 0 (lv_args 0 (st'.take (pt_ax y i).2.2).reverse) [] = some (h1, .inr a)) (hx : pv_exc pv_G h1 a = some x) :
    pr sc (n + 1) (fr + 1) lo h y pc lv' st' = (match pv_catch (pt_hs y) pc x with
      | some pc' => pr sc n (fr + 1) lo h1 y pc' lv' [.ref a]
      | none => match pt_hs y with
        | [] => some (h1, .inr a)
        | _ => none) := by
  have e1 : pv_s2 (pt_nL y) i lv' st' = none := by cases i <;> first | rfl | cases hi
  have e2 : pv_s1 i st' = none := by cases i <;> first | rfl | cases hi
  have e3 : pv_j i st' = none := by cases i <;> first | rfl | cases hi
  have e5 : pv_ret (pt_rt y) i st' = none := by cases i <;> first | rfl | cases hi
  have e6 : pv_isld i = false := by cases i <;> first | rfl | cases hi
  have e7 : pv_isth i (pt_ax y i).1 = false := by cases i <;> first | rfl | cases hi
  have e4 := ph_no3 (G2 := pv_G) (S2 := pv_S) (P2 := pv_P) (N2 := pv_N) (M2 := pv_M) (sc := sc) (capC := 601024) (capS := 7293034) (ar := pt_ar) (nw := pt_nw) (b := h) (st := st') (fty := pt_fty) (a1 := (pt_ax y i).1) (a2 := (pt_ax y i).2.1) hi
  rw [pr_succ]; unfold pv_body; rw [hco]; dsimp only; rw [e1]; dsimp only; rw [e2]; dsimp only; rw [e3]; dsimp only; rw [e4]; dsimp only; rw [e5]; dsimp only; rw [e6]; dsimp only; rw [e7]; dsimp only; rw [hi]; dsimp only
  rw [if_neg (by omega), if_neg hlen, if_pos hc]
  try dsimp only
  rw [hcal]
  try dsimp only
  rw [hx]
  try dsimp only
  cases pv_catch (pt_hs y) pc x with
  | some p => rfl
  | none => cases pt_hs y <;> rfl
theorem p_th (hco : pt_cox y pc = some i) (h0 : pv_s2 (pt_nL y) i lv' st' = none) (h1 : pv_s1 i st' = none) (h3 : pv_j i st' = none) (h5 : pv_ret (pt_rt y) i st' = none) (h6 : pv_isld i = false) (h7 : pv_isth i (pt_ax y i).1 = true) (h8 : pt_hs y = []) (h9 : pv_N h < 601024 ∧ pv_M h + (pt_nw (pt_ax y i).1).length ≤ 7293034 ∧ 6 ≤ fr ∧ (st'.map Value.category).sum + 82 ≤ lo) (n : Nat) : pr sc (n + 1) fr lo h y pc lv' st' = some (pv_P h (.inr ((pt_ax y i).1, pt_nw (pt_ax y i).1)), .inr (pv_N h)) := by
  have e4 := ph_no4 (G2 := pv_G) (S2 := pv_S) (P2 := pv_P) (N2 := pv_N) (M2 := pv_M) (sc := sc) (capC := 601024) (capS := 7293034) (ar := pt_ar) (nw := pt_nw) (b := h) (st := st') (fty := pt_fty) (a1 := (pt_ax y i).1) (a2 := (pt_ax y i).2.1) h7
  rw [pr_succ]; unfold pv_body; rw [hco]; dsimp only; rw [h0]; dsimp only; rw [h1]; dsimp only; rw [h3]; dsimp only; rw [e4]; dsimp only; rw [h5]; dsimp only; rw [h6]; dsimp only; rw [h7]; dsimp only; rw [h8]; dsimp only; rw [if_pos h9]
/-- a straight step, and what holds behind it -/
theorem wp_go {pc2 : Nat} {D2 : tD} {lv2 : List (Nat × tV)} {st2 : List tV}
    (hs : sc.1 ≤ 2560 → ∀ (fr lo : Nat) (h : List pv_E) (lv' : List (Nat × Value)) (st' : List Value), tnf y ≤ fr → tnl y ≤ lo → hr h D → lr lv lv' → sr st st' → ∃ (h2 : List pv_E) (lvb : List (Nat × Value)) (stb : List Value), (∀ n, pr sc (n + 1) fr lo h y pc lv' st' = pr sc n fr lo h2 y pc2 lvb stb) ∧ hr h2 D2 ∧ lr lv2 lvb ∧ sr st2 stb)
    (hk : WP sc y pc2 D2 lv2 st2 K E) : WP sc y pc D lv st K E := by
  intro hsc fr lo h lv' st' hf hl hh h1 h2
  obtain ⟨h2, lvb, stb, e, hh2, hl2, hs2⟩ := hs hsc fr lo h lv' st' hf hl hh h1 h2
  obtain ⟨n, h3, o, D', e3, hh3, hp⟩ := hk hsc fr lo h2 lvb stb hf hl hh2 hl2 hs2
  exact ⟨n + 1, h3, o, D', (e n).trans e3, hh3, hp⟩
theorem wp_sub {lv2 : List (Nat × tV)} (hs : ∀ i t, tget lv2 i = some t → tget lv i = some t) (hk : WP sc y pc D lv2 st K E) : WP sc y pc D lv st K E := fun hsc fr lo h lv' st' hf hl hh h1 h2 => hk hsc fr lo h lv' st' hf hl hh (lr_sub hs h1) h2
theorem tpost_mono {h' : List pv_E} {o : pv_O} {K1 K2 : Int → Prop} {E1 E2 : Nat → Prop} (hK : ∀ x, K1 x → K2 x) (hE : ∀ e, E1 e → E2 e) (hp : tpost y h' o K1 E1) : tpost y h' o K2 E2 := by
  unfold tpost at hp ⊢
  split at hp
  · obtain ⟨x, h1, h2⟩ := hp; exact ⟨x, h1, hK x h2⟩
  · obtain ⟨x, h1, h2⟩ := hp; exact ⟨x, h1, hE x h2⟩
theorem WP_mono {K2 : tD → Int → Prop} {E2 : tD → Nat → Prop} (hK : ∀ D x, K D x → K2 D x) (hE : ∀ D e, E D e → E2 D e) (hk : WP sc y pc D lv st K E) : WP sc y pc D lv st K2 E2 := by
  intro hsc fr lo h lv' st' hf hl hh h1 h2
  obtain ⟨n, h3, o, D', e3, hh3, hp⟩ := hk hsc fr lo h lv' st' hf hl hh h1 h2
  exact ⟨n, h3, o, D', e3, hh3, tpost_mono (hK D') (hE D') hp⟩
/-! instructions of the stack -/
theorem k_ii {f : Int → Int → Int} {F : Int32 → Int32 → Int32} (hco : pt_cox y pc = some i) (h2 : ∀ a b, pv_s2 (pt_nL y) i a b = none) (h1 : ∀ s, pv_s1 i s = pv_ii F s) (hf : ∀ X Y : Int32, (F X Y).toInt = f X.toInt Y.toInt) {k : List tV → Prop} (hk : ∀ s, k s → WP sc y (pc + pv_len i) D lv s K E) (H : t_ii f st k) : WP sc y pc D lv st K E := by
  unfold t_ii at H
  split at H
  · refine wp_go (fun _ fr lo h lv' st' _ _ hh hl hs => ?_) (hk _ H)
    obtain ⟨v1, s1, rfl, e1, hs1⟩ := sr_cons hs
    obtain ⟨v2, s2, rfl, e2, hs2⟩ := sr_cons hs1
    obtain ⟨Y, rfl, hY⟩ := vi e1
    obtain ⟨X, rfl, hX⟩ := vi e2
    exact ⟨h, lv', .int (F X Y) :: s2, fun n => p_s1 hco (h2 _ _) ((h1 _).trans rfl) n, hh, hl, ⟨vi' (by rw [hf, hX, hY]), hs2⟩⟩
  · exact H.elim
theorem k_iid {f : Int → Int → Int} {F : Int32 → Int32 → Int32} (hco : pt_cox y pc = some i) (h2 : ∀ a b, pv_s2 (pt_nL y) i a b = none) (h1 : ∀ s, pv_s1 i s = pv_iid F s) (hf : ∀ X Y : Int32, (F X Y).toInt = f X.toInt Y.toInt) {k : List tV → Prop} (hk : ∀ s, k s → WP sc y (pc + pv_len i) D lv s K E) (H : t_iid f st k) : WP sc y pc D lv st K E := by
  unfold t_iid at H
  split at H
  · split at H
    · exact H.elim
    rename_i hz
    refine wp_go (fun _ fr lo h lv' st' _ _ hh hl hs => ?_) (hk _ H)
    obtain ⟨v1, s1, rfl, e1, hs1⟩ := sr_cons hs
    obtain ⟨v2, s2, rfl, e2, hs2⟩ := sr_cons hs1
    obtain ⟨Y, rfl, hY⟩ := vi e1
    obtain ⟨X, rfl, hX⟩ := vi e2
    have hY0 : ¬ Y = 0 := fun e => hz (by rw [← hY, e]; rfl)
    exact ⟨h, lv', .int (F X Y) :: s2, fun n => p_s1 hco (h2 _ _) (by rw [h1]; exact if_neg hY0) n, hh, hl, ⟨vi' (by rw [hf, hX, hY]), hs2⟩⟩
  · exact H.elim
theorem k_ll {f : Int → Int → Int} {F : Int64 → Int64 → Int64} (hco : pt_cox y pc = some i) (h2 : ∀ a b, pv_s2 (pt_nL y) i a b = none) (h1 : ∀ s, pv_s1 i s = pv_ll F s) (hf : ∀ X Y : Int64, (F X Y).toInt = f X.toInt Y.toInt) {k : List tV → Prop} (hk : ∀ s, k s → WP sc y (pc + pv_len i) D lv s K E) (H : t_ll f st k) : WP sc y pc D lv st K E := by
  unfold t_ll at H
  split at H
  · refine wp_go (fun _ fr lo h lv' st' _ _ hh hl hs => ?_) (hk _ H)
    obtain ⟨v1, s1, rfl, e1, hs1⟩ := sr_cons hs
    obtain ⟨v2, s2, rfl, e2, hs2⟩ := sr_cons hs1
    obtain ⟨Y, rfl, hY⟩ := vl e1
    obtain ⟨X, rfl, hX⟩ := vl e2
    exact ⟨h, lv', .long (F X Y) :: s2, fun n => p_s1 hco (h2 _ _) ((h1 _).trans rfl) n, hh, hl, ⟨vl' (by rw [hf, hX, hY]), hs2⟩⟩
  · exact H.elim
theorem k_lld {f : Int → Int → Int} {F : Int64 → Int64 → Int64} (hco : pt_cox y pc = some i) (h2 : ∀ a b, pv_s2 (pt_nL y) i a b = none) (h1 : ∀ s, pv_s1 i s = pv_lld F s) (hf : ∀ X Y : Int64, (F X Y).toInt = f X.toInt Y.toInt) {k : List tV → Prop} (hk : ∀ s, k s → WP sc y (pc + pv_len i) D lv s K E) (H : t_lld f st k) : WP sc y pc D lv st K E := by
  unfold t_lld at H
  split at H
  · split at H
    · exact H.elim
    rename_i hz
    refine wp_go (fun _ fr lo h lv' st' _ _ hh hl hs => ?_) (hk _ H)
    obtain ⟨v1, s1, rfl, e1, hs1⟩ := sr_cons hs
    obtain ⟨v2, s2, rfl, e2, hs2⟩ := sr_cons hs1
    obtain ⟨Y, rfl, hY⟩ := vl e1
    obtain ⟨X, rfl, hX⟩ := vl e2
    have hY0 : ¬ Y = 0 := fun e => hz (by rw [← hY, e]; rfl)
    exact ⟨h, lv', .long (F X Y) :: s2, fun n => p_s1 hco (h2 _ _) (by rw [h1]; exact if_neg hY0) n, hh, hl, ⟨vl' (by rw [hf, hX, hY]), hs2⟩⟩
  · exact H.elim
theorem k_il {f : Int → Int → Int} {F : Int64 → Int32 → Int64} (hco : pt_cox y pc = some i) (h2 : ∀ a b, pv_s2 (pt_nL y) i a b = none) (h1 : ∀ s, pv_s1 i s = pv_il F s) (hf : ∀ (X : Int64) (Y : Int32), (F X Y).toInt = f X.toInt Y.toInt) {k : List tV → Prop} (hk : ∀ s, k s → WP sc y (pc + pv_len i) D lv s K E) (H : t_il f st k) : WP sc y pc D lv st K E := by
  unfold t_il at H
  split at H
  · refine wp_go (fun _ fr lo h lv' st' _ _ hh hl hs => ?_) (hk _ H)
    obtain ⟨v1, s1, rfl, e1, hs1⟩ := sr_cons hs
    obtain ⟨v2, s2, rfl, e2, hs2⟩ := sr_cons hs1
    obtain ⟨Y, rfl, hY⟩ := vi e1
    obtain ⟨X, rfl, hX⟩ := vl e2
    exact ⟨h, lv', .long (F X Y) :: s2, fun n => p_s1 hco (h2 _ _) ((h1 _).trans rfl) n, hh, hl, ⟨vl' (by rw [hf, hX, hY]), hs2⟩⟩
  · exact H.elim
theorem k_lc (hco : pt_cox y pc = some i) (h2 : ∀ a b, pv_s2 (pt_nL y) i a b = none) {F : Int64 → Int64 → Int32} (h1 : ∀ s, pv_s1 i s = pv_llc F s) (hf : ∀ X Y : Int64, (F X Y).toInt = tlc X.toInt Y.toInt) {k : List tV → Prop} (hk : ∀ s, k s → WP sc y (pc + pv_len i) D lv s K E) (H : t_lcm st k) : WP sc y pc D lv st K E := by
  unfold t_lcm at H
  split at H
  · refine wp_go (fun _ fr lo h lv' st' _ _ hh hl hs => ?_) (hk _ H)
    obtain ⟨v1, s1, rfl, e1, hs1⟩ := sr_cons hs
    obtain ⟨v2, s2, rfl, e2, hs2⟩ := sr_cons hs1
    obtain ⟨Y, rfl, hY⟩ := vl e1
    obtain ⟨X, rfl, hX⟩ := vl e2
    exact ⟨h, lv', .int (F X Y) :: s2, fun n => p_s1 hco (h2 _ _) ((h1 _).trans rfl) n, hh, hl, ⟨vi' (by rw [hf, hX, hY]), hs2⟩⟩
  · exact H.elim
theorem k_1i {t : Nat} {f : Int → Int} {F : Int32 → Value} (hco : pt_cox y pc = some i) (h2 : ∀ a b, pv_s2 (pt_nL y) i a b = none) (h1 : ∀ s, pv_s1 i s = pv_1i F s) (hf : ∀ X : Int32, vr (t, f X.toInt) (F X)) {k : List tV → Prop} (hk : ∀ s, k s → WP sc y (pc + pv_len i) D lv s K E) (H : t_1i t f st k) : WP sc y pc D lv st K E := by
  unfold t_1i at H
  split at H
  · refine wp_go (fun _ fr lo h lv' st' _ _ hh hl hs => ?_) (hk _ H)
    obtain ⟨v1, s1, rfl, e1, hs1⟩ := sr_cons hs
    obtain ⟨X, rfl, hX⟩ := vi e1
    exact ⟨h, lv', F X :: s1, fun n => p_s1 hco (h2 _ _) ((h1 _).trans rfl) n, hh, hl, ⟨hX ▸ hf X, hs1⟩⟩
  · exact H.elim
theorem k_1l {t : Nat} {f : Int → Int} {F : Int64 → Value} (hco : pt_cox y pc = some i) (h2 : ∀ a b, pv_s2 (pt_nL y) i a b = none) (h1 : ∀ s, pv_s1 i s = pv_1l F s) (hf : ∀ X : Int64, vr (t, f X.toInt) (F X)) {k : List tV → Prop} (hk : ∀ s, k s → WP sc y (pc + pv_len i) D lv s K E) (H : t_1l t f st k) : WP sc y pc D lv st K E := by
  unfold t_1l at H
  split at H
  · refine wp_go (fun _ fr lo h lv' st' _ _ hh hl hs => ?_) (hk _ H)
    obtain ⟨v1, s1, rfl, e1, hs1⟩ := sr_cons hs
    obtain ⟨X, rfl, hX⟩ := vl e1
    exact ⟨h, lv', F X :: s1, fun n => p_s1 hco (h2 _ _) ((h1 _).trans rfl) n, hh, hl, ⟨hX ▸ hf X, hs1⟩⟩
  · exact H.elim
theorem k_push {t : tV} {v : Value} (hco : pt_cox y pc = some i) (h2 : ∀ a b, pv_s2 (pt_nL y) i a b = none) (h1 : ∀ s, pv_s1 i s = some (v :: s)) (hv : vr t v) (hk : WP sc y (pc + pv_len i) D lv (t :: st) K E) : WP sc y pc D lv st K E :=
  wp_go (st2 := t :: st) (fun _ _ _ h lv' st' _ _ hh hl hs => ⟨h, lv', v :: st', fun n => p_s1 hco (h2 _ _) (h1 _) n, hh, hl, ⟨hv, hs⟩⟩) hk
theorem k_dup (hco : pt_cox y pc = some .dup) {k : List tV → Prop} (hk : ∀ s, k s → WP sc y (pc + 1) D lv s K E) (H : t_dup st k) : WP sc y pc D lv st K E := by
  unfold t_dup at H
  split at H
  · rename_i t r
    cases hb : Nat.beq t.1 1 with
    | true => rw [hb] at H; exact H.elim
    | false =>
      rw [hb] at H
      refine wp_go (fun _ fr lo h lv' st' _ _ hh hl hs => ?_) (hk _ H)
      obtain ⟨v1, s1, rfl, e1, hs1⟩ := sr_cons hs
      have hc := vcat e1
      rw [hb] at hc
      exact ⟨h, lv', v1 :: v1 :: s1, fun n => p_s1 (i := .dup) hco rfl (by exact if_pos hc) n, hh, hl, ⟨e1, e1, hs1⟩⟩
  · exact H.elim
theorem k_pop (hco : pt_cox y pc = some .pop) {k : List tV → Prop} (hk : ∀ s, k s → WP sc y (pc + 1) D lv s K E) (H : t_pop st k) : WP sc y pc D lv st K E := by
  unfold t_pop at H
  split at H
  · rename_i t r
    cases hb : Nat.beq t.1 1 with
    | true => rw [hb] at H; exact H.elim
    | false =>
      rw [hb] at H
      refine wp_go (fun _ fr lo h lv' st' _ _ hh hl hs => ?_) (hk _ H)
      obtain ⟨v1, s1, rfl, e1, hs1⟩ := sr_cons hs
      have hc := vcat e1
      rw [hb] at hc
      exact ⟨h, lv', s1, fun n => p_s1 (i := .pop) hco rfl (by exact if_pos hc) n, hh, hl, hs1⟩
  · exact H.elim
theorem k_dup2 (hco : pt_cox y pc = some .dup2) {k : List tV → Prop} (hk : ∀ s, k s → WP sc y (pc + 1) D lv s K E) (H : t_dup2 st k) : WP sc y pc D lv st K E := by
  unfold t_dup2 at H
  split at H
  · rename_i t u r
    cases hb : Nat.beq t.1 1 with
    | true =>
      rw [hb] at H
      refine wp_go (fun _ fr lo h lv' st' _ _ hh hl hs => ?_) (hk _ H)
      obtain ⟨v1, s1, rfl, e1, hs1⟩ := sr_cons hs
      obtain ⟨v2, s2, rfl, e2, hs2⟩ := sr_cons hs1
      have hc := vcat e1
      rw [hb] at hc
      exact ⟨h, lv', v1 :: v1 :: v2 :: s2, fun n => p_s1 (i := .dup2) hco rfl (by exact if_pos hc) n, hh, hl, ⟨e1, e1, e2, hs2⟩⟩
    | false =>
      rw [hb] at H
      cases hb2 : Nat.beq u.1 1 with
      | true => rw [hb2] at H; exact H.elim
      | false =>
        rw [hb2] at H
        refine wp_go (fun _ fr lo h lv' st' _ _ hh hl hs => ?_) (hk _ H)
        obtain ⟨v1, s1, rfl, e1, hs1⟩ := sr_cons hs
        obtain ⟨v2, s2, rfl, e2, hs2⟩ := sr_cons hs1
        have hc := vcat e1
        have hc2 := vcat e2
        rw [hb] at hc
        rw [hb2] at hc2
        have hn : ¬ v1.category = 2 := by rw [hc]; decide
        exact ⟨h, lv', v1 :: v2 :: v1 :: v2 :: s2, fun n => p_s1 (i := .dup2) hco rfl (by exact (if_neg hn).trans (if_pos hc2)) n, hh, hl, ⟨e1, e2, e1, e2, hs2⟩⟩
  · exact H.elim
/-! instructions of the locals -/
theorem k_ldi {q : Nat} (hco : pt_cox y pc = some i) (h1 : ∀ a b, pv_s2 (pt_nL y) i a b = pv_ldi a q b) {k : tV → Prop} (hk : ∀ t, k t → WP sc y (pc + pv_len i) D lv (t :: st) K E) (H : t_ldi lv q k) : WP sc y pc D lv st K E := by
  unfold t_ldi at H
  split at H
  · rename_i x hx
    refine wp_go (fun _ fr lo h lv' st' _ _ hh hl hs => ?_) (hk _ H)
    obtain ⟨v, hv, hr1⟩ := hl _ _ hx
    obtain ⟨X, rfl, hX⟩ := vi hr1
    refine ⟨h, lv', .int X :: st', fun n => p_s2 hco ?_ n, hh, hl, ⟨hr1, hs⟩⟩
    rw [h1]; unfold pv_ldi; rw [hv]
  · exact H.elim
theorem k_ldl {q : Nat} (hco : pt_cox y pc = some i) (h1 : ∀ a b, pv_s2 (pt_nL y) i a b = pv_ldl a q b) {k : tV → Prop} (hk : ∀ t, k t → WP sc y (pc + pv_len i) D lv (t :: st) K E) (H : t_ldl lv q k) : WP sc y pc D lv st K E := by
  unfold t_ldl at H
  split at H
  · rename_i x hx
    refine wp_go (fun _ fr lo h lv' st' _ _ hh hl hs => ?_) (hk _ H)
    obtain ⟨v, hv, hr1⟩ := hl _ _ hx
    obtain ⟨X, rfl, hX⟩ := vl hr1
    refine ⟨h, lv', .long X :: st', fun n => p_s2 hco ?_ n, hh, hl, ⟨hr1, hs⟩⟩
    rw [h1]; unfold pv_ldl; rw [hv]
  · exact H.elim
theorem vref {t : Nat} {x : Int} {v : Value} (ht : 1 < t) (h : vr (t, x) v) : v = .null ∨ (∃ a, v = .ref a) ∨ ∃ a, v = .retAddr a := by
  unfold vr at h
  dsimp only at h
  split at h
  · omega
  · omega
  · exact Or.inl h
  · exact Or.inr (Or.inr ⟨_, h⟩)
  · exact Or.inr (Or.inr ⟨_, h.2.2⟩)
  · obtain ⟨b, h⟩ := h; exact Or.inr (Or.inl ⟨_, h⟩)
  · exact Or.inr (Or.inl ⟨_, h.2.2.1⟩)
theorem k_lda {q : Nat} (hco : pt_cox y pc = some i) (h1 : ∀ a b, pv_s2 (pt_nL y) i a b = pv_lda a q b) {k : tV → Prop} (hk : ∀ t, k t → WP sc y (pc + pv_len i) D lv (t :: st) K E) (H : t_lda lv q k) : WP sc y pc D lv st K E := by
  unfold t_lda at H
  split at H
  · rename_i t x hx
    cases hb : Nat.blt 1 t with
    | false => rw [hb] at H; exact H.elim
    | true =>
      rw [hb] at H
      refine wp_go (fun _ fr lo h lv' st' _ _ hh hl hs => ?_) (hk _ H)
      obtain ⟨v, hv, hr1⟩ := hl _ _ hx
      refine ⟨h, lv', v :: st', fun n => p_s2 hco ?_ n, hh, hl, ⟨hr1, hs⟩⟩
      rw [h1]; unfold pv_lda; rw [hv]
      rcases vref (nblt.mp hb) hr1 with rfl | ⟨a, rfl⟩ | ⟨a, rfl⟩ <;> rfl
  · exact H.elim
theorem k_sti {q : Nat} (hco : pt_cox y pc = some i) (h1 : ∀ a b, pv_s2 (pt_nL y) i a b = pv_sti (pt_nL y) a q b) {k : List (Nat × tV) → List tV → Prop} (hk : ∀ l s, k l s → WP sc y (pc + pv_len i) D l s K E) (H : t_sti (pt_nL y) lv q st k) : WP sc y pc D lv st K E := by
  unfold t_sti at H
  split at H
  · cases hb : Nat.blt q (pt_nL y) with
    | false => rw [hb] at H; exact H.elim
    | true =>
      rw [hb] at H
      refine wp_go (fun _ fr lo h lv' st' _ _ hh hl hs => ?_) (hk _ _ H)
      obtain ⟨v1, s1, rfl, e1, hs1⟩ := sr_cons hs
      obtain ⟨X, rfl, hX⟩ := vi e1
      exact ⟨h, _, s1, fun n => p_s2 hco (by rw [h1]; exact if_pos (nblt.mp hb)) n, hh, lr_put1 hl e1, hs1⟩
  · exact H.elim
theorem k_stl {q : Nat} (hco : pt_cox y pc = some i) (h1 : ∀ a b, pv_s2 (pt_nL y) i a b = pv_stl (pt_nL y) a q b) {k : List (Nat × tV) → List tV → Prop} (hk : ∀ l s, k l s → WP sc y (pc + pv_len i) D l s K E) (H : t_stl (pt_nL y) lv q st k) : WP sc y pc D lv st K E := by
  unfold t_stl at H
  split at H
  · cases hb : Nat.blt (q + 1) (pt_nL y) with
    | false => rw [hb] at H; exact H.elim
    | true =>
      rw [hb] at H
      refine wp_go (fun _ fr lo h lv' st' _ _ hh hl hs => ?_) (hk _ _ H)
      obtain ⟨v1, s1, rfl, e1, hs1⟩ := sr_cons hs
      obtain ⟨X, rfl, hX⟩ := vl e1
      exact ⟨h, _, s1, fun n => p_s2 hco (by rw [h1]; exact if_pos (nblt.mp hb)) n, hh, lr_put2 hl e1, hs1⟩
  · exact H.elim
theorem k_sta {q : Nat} (hco : pt_cox y pc = some i) (h1 : ∀ a b, pv_s2 (pt_nL y) i a b = pv_sta (pt_nL y) a q b) {k : List (Nat × tV) → List tV → Prop} (hk : ∀ l s, k l s → WP sc y (pc + pv_len i) D l s K E) (H : t_sta (pt_nL y) lv q st k) : WP sc y pc D lv st K E := by
  unfold t_sta at H
  split at H
  · rename_i t x r
    cases hb : (Nat.blt 1 t && Nat.blt q (pt_nL y)) with
    | false => rw [hb] at H; exact H.elim
    | true =>
      rw [hb] at H
      have hb2 := (Bool.and_eq_true _ _).mp hb
      refine wp_go (fun _ fr lo h lv' st' _ _ hh hl hs => ?_) (hk _ _ H)
      obtain ⟨v1, s1, rfl, e1, hs1⟩ := sr_cons hs
      refine ⟨h, pv_put1 lv' q v1, s1, fun n => p_s2 hco ?_ n, hh, lr_put1 hl e1, hs1⟩
      rw [h1]
      rcases vref (nblt.mp hb2.1) e1 with rfl | ⟨a, rfl⟩ | ⟨a, rfl⟩ <;> exact if_pos (nblt.mp hb2.2)
  · exact H.elim
theorem k_inc {q : Nat} {m : Int} (hm : -32768 ≤ m ∧ m ≤ 32767) (hco : pt_cox y pc = some (.iinc q m)) {k : List (Nat × tV) → Prop} (hk : ∀ l, k l → WP sc y (pc + 3) D l st K E) (H : t_inc (pt_nL y) lv q m k) : WP sc y pc D lv st K E := by
  unfold t_inc at H
  split at H
  · rename_i x hx
    cases hb : Nat.blt q (pt_nL y) with
    | false => rw [hb] at H; exact H.elim
    | true =>
      rw [hb] at H
      refine wp_go (fun _ fr lo h lv' st' _ _ hh hl hs => ?_) (hk _ H)
      obtain ⟨v, hv, hr1⟩ := hl _ _ hx
      obtain ⟨X, rfl, hX⟩ := vi hr1
      refine ⟨h, pv_put1 lv' q (.int (X + Int32.ofInt m)), st', fun n => p_s2 (i := .iinc q m) hco ?_ n, hh, lr_put1 hl (vi' ?_), hs⟩
      · show pv_inc (pt_nL y) lv' q m st' = _
        unfold pv_inc; rw [hv]
        exact if_pos (nblt.mp hb)
      · rw [Int32.toInt_add, bm32, hX, Int32.toInt_ofInt_of_le (by omega) (by omega)]
  · exact H.elim
end TSO
