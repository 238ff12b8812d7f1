/-! the typed machine is sound: jumps, the heap, calls -/
section TSP
variable {sc : Nat × (Nat → Int32)} {y pc : Nat} {D : tD} {lv : List (Nat × tV)} {st : List tV} {K : tD → Int → Prop} {E : tD → Nat → Prop} {i : Instr}
theorem tk0_spec {off : Int} {P : Prop} (H : tk0 pc off P) : 0 ≤ (pc : Int) + off ∧ P := by
  unfold tk0 at H
  cases hb : decide (0 ≤ (pc : Int) + off) with
  | false => rw [hb] at H; exact H.elim
  | true => rw [hb] at H; exact ⟨of_decide_eq_true hb, H⟩
theorem tk_spec {a b n : Int} {P : Prop} (H : tk a b n P) : (a ≤ n ∧ n ≤ b) ∧ P := by
  unfold tk at H
  cases hb : (decide (a ≤ n) && decide (n ≤ b)) with
  | false => rw [hb] at H; exact H.elim
  | true =>
    rw [hb] at H
    have h2 := (Bool.and_eq_true _ _).mp hb
    exact ⟨⟨of_decide_eq_true h2.1, of_decide_eq_true h2.2⟩, H⟩
theorem jmp_spec {off : Int} {ih : tD → Nat → List (Nat × tV) → List tV → Prop} (hih : ∀ D pc lv st, ih D pc lv st → WP sc y pc D lv st K E) (H : t_jmp pc off D lv ih st) : 0 ≤ (pc : Int) + off ∧ WP sc y ((pc : Int) + off).toNat D lv st K E := by
  unfold t_jmp at H
  cases hb : decide (0 ≤ (pc : Int) + off) with
  | false => rw [hb] at H; exact H.elim
  | true => rw [hb] at H; exact ⟨of_decide_eq_true hb, hih _ _ _ _ H⟩
theorem cmp_spec {c : ClassFile.Cond} {X Y : Int32} {A B : Prop} (H : tif c X.toInt Y.toInt A B) : (pv_cmp c X Y = true ∧ A) ∨ (pv_cmp c X Y = false ∧ B) := by
  have he : X.toInt = Y.toInt ↔ X = Y := Int32.toInt_inj
  have hl : X.toInt < Y.toInt ↔ X < Y := Int32.lt_iff_toInt_lt.symm
  have hg : Y.toInt < X.toInt ↔ Y < X := Int32.lt_iff_toInt_lt.symm
  have hle : X ≤ Y ↔ ¬ Y < X := by rw [Int32.le_iff_toInt_le, Int32.lt_iff_toInt_lt]; omega
  have hle2 : Y ≤ X ↔ ¬ X < Y := by rw [Int32.le_iff_toInt_le, Int32.lt_iff_toInt_lt]; omega
  unfold tif at H
  cases c with
  | eq =>
    dsimp only at H
    split at H
    · exact Or.inl ⟨decide_eq_true (he.mp ‹_›), H⟩
    · exact Or.inr ⟨decide_eq_false (fun e => ‹¬ _› (he.mpr e)), H⟩
  | ne =>
    dsimp only at H
    split at H
    · exact Or.inr ⟨by show (!decide (X = Y)) = false; rw [decide_eq_true (he.mp ‹_›)]; rfl, H⟩
    · exact Or.inl ⟨by show (!decide (X = Y)) = true; rw [decide_eq_false (fun e => ‹¬ _› (he.mpr e))]; rfl, H⟩
  | lt =>
    dsimp only at H
    split at H
    · exact Or.inl ⟨decide_eq_true (hl.mp ‹_›), H⟩
    · exact Or.inr ⟨decide_eq_false (fun e => ‹¬ _› (hl.mpr e)), H⟩
  | ge =>
    dsimp only at H
    split at H
    · exact Or.inr ⟨decide_eq_false (fun e => (hle2.mp e) (hl.mp ‹_›)), H⟩
    · exact Or.inl ⟨decide_eq_true (hle2.mpr (fun e => ‹¬ _› (hl.mpr e))), H⟩
  | gt =>
    dsimp only at H
    split at H
    · exact Or.inl ⟨decide_eq_true (hg.mp ‹_›), H⟩
    · exact Or.inr ⟨decide_eq_false (fun e => ‹¬ _› (hg.mpr e)), H⟩
  | le =>
    dsimp only at H
    split at H
    · exact Or.inr ⟨decide_eq_false (fun e => (hle.mp e) (hg.mp ‹_›)), H⟩
    · exact Or.inl ⟨decide_eq_true (hle.mpr (fun e => ‹¬ _› (hg.mpr e))), H⟩
theorem k_if {c : ClassFile.Cond} {off : Int} (hco : pt_cox y pc = some (.ifCond c off)) (h0 : 0 ≤ (pc : Int) + off) {J F : List tV → Prop} (hJ : ∀ s, J s → WP sc y ((pc : Int) + off).toNat D lv s K E) (hF : ∀ s, F s → WP sc y (pc + 3) D lv s K E) (H : t_if c st J F) : WP sc y pc D lv st K E := by
  unfold t_if at H
  split at H
  · rename_i x r
    intro hsc fr lo h lv' st' hf hl hh h1 hs
    obtain ⟨v1, s1, rfl, e1, hs1⟩ := sr_cons hs
    obtain ⟨X, rfl, hX⟩ := vi e1
    have H2 : tif c X.toInt (0 : Int32).toInt (J r) (F r) := by rw [hX]; exact H
    have hstep : ∀ n, pr sc (n + 1) fr lo h y pc lv' (.int X :: s1) = if pv_cmp c X 0 = true then pr sc n fr lo h y ((pc : Int) + off).toNat lv' s1 else pr sc n fr lo h y (pc + 3) lv' s1 := fun n => p_j (i := .ifCond c off) hco rfl rfl rfl h0 n
    rcases cmp_spec H2 with ⟨hc, hA⟩ | ⟨hc, hA⟩
    · obtain ⟨n, h3, o, D', e3, hh3, hp⟩ := hJ _ hA hsc fr lo h lv' s1 hf hl hh h1 hs1
      exact ⟨n + 1, h3, o, D', by rw [hstep, if_pos hc]; exact e3, hh3, hp⟩
    · obtain ⟨n, h3, o, D', e3, hh3, hp⟩ := hF _ hA hsc fr lo h lv' s1 hf hl hh h1 hs1
      exact ⟨n + 1, h3, o, D', by rw [hstep, hc]; exact e3, hh3, hp⟩
  · exact H.elim
theorem k_icmp {c : ClassFile.Cond} {off : Int} (hco : pt_cox y pc = some (.if_icmp c off)) (h0 : 0 ≤ (pc : Int) + off) {J F : List tV → Prop} (hJ : ∀ s, J s → WP sc y ((pc : Int) + off).toNat D lv s K E) (hF : ∀ s, F s → WP sc y (pc + 3) D lv s K E) (H : t_icmp c st J F) : WP sc y pc D lv st K E := by
  unfold t_icmp at H
  split at H
  · intro hsc fr lo h lv' st' hf hl hh h1 hs
    obtain ⟨v1, s1, rfl, e1, hs1⟩ := sr_cons hs
    obtain ⟨v2, s2, rfl, e2, hs2⟩ := sr_cons hs1
    obtain ⟨Y, rfl, hY⟩ := vi e1
    obtain ⟨X, rfl, hX⟩ := vi e2
    rw [← hX, ← hY] at H
    have hstep : ∀ n, pr sc (n + 1) fr lo h y pc lv' (.int Y :: .int X :: s2) = if pv_cmp c X Y = true then pr sc n fr lo h y ((pc : Int) + off).toNat lv' s2 else pr sc n fr lo h y (pc + 3) lv' s2 := fun n => p_j (i := .if_icmp c off) hco rfl rfl rfl h0 n
    rcases cmp_spec H with ⟨hc, hA⟩ | ⟨hc, hA⟩
    · obtain ⟨n, h3, o, D', e3, hh3, hp⟩ := hJ _ hA hsc fr lo h lv' s2 hf hl hh h1 hs2
      exact ⟨n + 1, h3, o, D', by rw [hstep, if_pos hc]; exact e3, hh3, hp⟩
    · obtain ⟨n, h3, o, D', e3, hh3, hp⟩ := hF _ hA hsc fr lo h lv' s2 hf hl hh h1 hs2
      exact ⟨n + 1, h3, o, D', by rw [hstep, hc]; exact e3, hh3, hp⟩
  · exact H.elim
theorem vref2 {t : Nat} {x : Int} {v : Value} (ht : 2 < t) (h : vr (t, x) v) : (∃ a, v = .ref a) ∨ ∃ a, v = .retAddr a := by
  unfold vr at h
  dsimp only at h
  split at h
  · omega
  · omega
  · omega
  · exact Or.inr ⟨_, h⟩
  · exact Or.inr ⟨_, h.2.2⟩
  · obtain ⟨b, h⟩ := h; exact Or.inl ⟨_, h⟩
  · exact Or.inl ⟨_, h.2.2.1⟩
theorem k_null {off : Int} {nn : Bool} (hi : i = (if nn = true then .ifnonnull off else .ifnull off)) (hco : pt_cox y pc = some i) (h0 : 0 ≤ (pc : Int) + off) {J F : List tV → Prop} (hJ : ∀ s, J s → WP sc y (if nn = true then pc + 3 else ((pc : Int) + off).toNat) D lv s K E) (hF : ∀ s, F s → WP sc y (if nn = true then ((pc : Int) + off).toNat else pc + 3) D lv s K E) (H : t_null st J F) : WP sc y pc D lv st K E := by
  unfold t_null at H
  split at H
  · rename_i t x r
    cases hb : Nat.beq t 2 with
    | true =>
      rw [hb] at H
      refine wp_go (fun _ fr lo h lv' st' _ _ hh hl hs => ?_) (hJ _ H)
      obtain ⟨v1, s1, rfl, e1, hs1⟩ := sr_cons hs
      have et := nbeq.mp hb
      subst et
      have e2 : v1 = .null := e1
      subst e2
      refine ⟨h, lv', s1, fun n => ?_, hh, hl, hs1⟩
      cases nn with
      | true => subst hi; exact p_j (i := .ifnonnull off) (tk := false) hco rfl rfl rfl h0 n
      | false => subst hi; exact p_j (i := .ifnull off) (tk := true) hco rfl rfl rfl h0 n
    | false =>
      rw [hb] at H
      cases hb2 : Nat.blt 2 t with
      | false => rw [hb2] at H; exact H.elim
      | true =>
        rw [hb2] at H
        refine wp_go (fun _ fr lo h lv' st' _ _ hh hl hs => ?_) (hF _ H)
        obtain ⟨v1, s1, rfl, e1, hs1⟩ := sr_cons hs
        refine ⟨h, lv', s1, fun n => ?_, hh, hl, hs1⟩
        rcases vref2 (nblt.mp hb2) e1 with ⟨a, rfl⟩ | ⟨a, rfl⟩
        · cases nn with
          | true => subst hi; exact p_j (i := .ifnonnull off) (tk := true) hco rfl rfl rfl h0 n
          | false => subst hi; exact p_j (i := .ifnull off) (tk := false) hco rfl rfl rfl h0 n
        · cases nn with
          | true => subst hi; exact p_j (i := .ifnonnull off) (tk := true) hco rfl rfl rfl h0 n
          | false => subst hi; exact p_j (i := .ifnull off) (tk := false) hco rfl rfl rfl h0 n
  · exact H.elim
theorem sw_spec {x : Int} {J : Int → Prop} {z : Prop} : ∀ {l : List Int} {k : Int}, t_sw x k l J z → (∃ off, k ≤ x ∧ l[(x - k).toNat]? = some off ∧ J off) ∨ ((x < k ∨ k + (l.length : Nat) - 1 < x) ∧ z) := by
  intro l
  induction l with
  | nil =>
    intro k H
    refine Or.inr ⟨?_, H⟩
    show x < k ∨ k + ((0 : Nat) : Int) - 1 < x
    omega
  | cons off t ih =>
    intro k H
    unfold t_sw at H
    split at H
    · rename_i e
      subst e
      exact Or.inl ⟨off, Int.le_refl _, by simp, H⟩
    · rename_i hne
      rcases ih H with ⟨o, h1, h2, h3⟩ | ⟨h1, h2⟩
      · refine Or.inl ⟨o, by omega, ?_, h3⟩
        have e : (x - k).toNat = (x - (k + 1)).toNat + 1 := by omega
        rw [e, List.getElem?_cons_succ]
        exact h2
      · refine Or.inr ⟨?_, h2⟩
        rw [List.length_cons]
        omega
theorem k_tsw {d a b : Int} {offs : Array Int} (hco : pt_cox y pc = some (.tableswitch d a b offs)) {J : Int → List tV → Prop} (hJ : ∀ off s, J off s → 0 ≤ (pc : Int) + off ∧ WP sc y ((pc : Int) + off).toNat D lv s K E) {x : Int} {r : List tV} (hb : b = a + (offs.toList.length : Nat) - 1) (H : t_sw x a offs.toList (fun off => J off r) (J d r)) : WP sc y pc D lv ((0, x) :: r) K E := by
  intro hsc fr lo h lv' st' hf hl hh h1 hs
  obtain ⟨v1, s1, rfl, e1, hs1⟩ := sr_cons hs
  obtain ⟨X, rfl, hX⟩ := vi e1
  rcases sw_spec H with ⟨off, q1, q2, q3⟩ | ⟨q1, q2⟩
  · obtain ⟨j0, j1⟩ := hJ _ _ q3
    obtain ⟨n, h3, o, D', e3, hh3, hp⟩ := j1 hsc fr lo h lv' s1 hf hl hh h1 hs1
    have hlen : (x - a).toNat < offs.toList.length := (List.getElem?_eq_some_iff.mp q2).1
    have q4 : offs[(X.toInt - a).toNat]? = some off := by rw [hX, ← Array.getElem?_toList]; exact q2
    have hj : pv_j (.tableswitch d a b offs) (.int X :: s1) = some (true, off, s1) := by
      show (if X.toInt < a ∨ b < X.toInt then _ else _) = _
      rw [if_neg (by omega), q4]
    refine ⟨n + 1, h3, o, D', ?_, hh3, hp⟩
    rw [p_j (i := .tableswitch d a b offs) hco rfl rfl hj j0 n, if_pos rfl]
    exact e3
  · obtain ⟨j0, j1⟩ := hJ _ _ q2
    obtain ⟨n, h3, o, D', e3, hh3, hp⟩ := j1 hsc fr lo h lv' s1 hf hl hh h1 hs1
    have hj : pv_j (.tableswitch d a b offs) (.int X :: s1) = some (true, d, s1) := by
      show (if X.toInt < a ∨ b < X.toInt then _ else _) = _
      rw [if_pos (by omega)]
    refine ⟨n + 1, h3, o, D', ?_, hh3, hp⟩
    rw [p_j (i := .tableswitch d a b offs) hco rfl rfl hj j0 n, if_pos rfl]
    exact e3
theorem lk_spec {x : Int} {J : Int → Prop} {d : Int} : ∀ {l : List (Int × Int)}, t_lk x l J (J d) → J (Op.lookupswitch.offset l d x) := by
  intro l
  induction l with
  | nil => intro H; exact H
  | cons q t ih =>
    intro H
    obtain ⟨a, o⟩ := q
    unfold t_lk at H
    rw [Op.lookupswitch.offset_cons]
    split at H
    · rename_i e
      rw [if_pos e.symm]; exact H
    · rename_i e
      rw [if_neg (fun e2 => e e2.symm)]; exact ih H
theorem k_lsw {d : Int} {ps : Array (Int × Int)} (hco : pt_cox y pc = some (.lookupswitch d ps)) {J : Int → List tV → Prop} (hJ : ∀ off s, J off s → 0 ≤ (pc : Int) + off ∧ WP sc y ((pc : Int) + off).toNat D lv s K E) {x : Int} {r : List tV} (hb : (ps.toList.zip (ps.toList.drop 1)).all (fun (a, next) => a.1 < next.1) = true) (H : t_lk x ps.toList (fun off => J off r) (J d r)) : WP sc y pc D lv ((0, x) :: r) K E := by
  intro hsc fr lo h lv' st' hf hl hh h1 hs
  obtain ⟨v1, s1, rfl, e1, hs1⟩ := sr_cons hs
  obtain ⟨X, rfl, hX⟩ := vi e1
  obtain ⟨j0, j1⟩ := hJ _ _ (lk_spec (J := fun off => J off r) H)
  obtain ⟨n, h3, o, D', e3, hh3, hp⟩ := j1 hsc fr lo h lv' s1 hf hl hh h1 hs1
  have hj : pv_j (.lookupswitch d ps) (.int X :: s1) = some (true, Op.lookupswitch.offset ps.toList d x, s1) := by
    show (if _ then some (true, Op.lookupswitch.offset ps.toList d X.toInt, s1) else none) = _
    rw [if_pos hb, hX]
  refine ⟨n + 1, h3, o, D', ?_, hh3, hp⟩
  rw [p_j (i := .lookupswitch d ps) hco rfl rfl hj j0 n, if_pos rfl]
  exact e3
/-! the heap -/
theorem cer_obj {x : Option pv_E} {a c : Nat} (hk : tkd a = 200 + c) : cer x D a ↔ ∃ fs, x = some (.inr (c, fs)) ∧ fs.length = (pt_nw c).length ∧ c < 90 ∧ ∀ i v, fs[i]? = some v → fdr (tfm c i) a (D a (i : Nat)) v := by
  unfold cer
  rw [hk, show 200 + c = (196 + c) + 4 from by omega]
  dsimp only
  rw [if_neg (by omega), show 196 + c + 4 - 200 = c from by omega]
theorem cer_0 {x : Option pv_E} {a : Nat} (hk : tkd a = 0) : cer x D a ↔ ∃ f, x = some (.inl (0, tln a, .inl f)) ∧ ∀ j, j < tln a → vr (0, D a j) (.int (f j)) := by
  unfold cer; rw [hk]
theorem cer_1 {x : Option pv_E} {a : Nat} (hk : tkd a = 1) : cer x D a ↔ ∃ f, x = some (.inl (1, tln a, .inr (.inl f))) ∧ ∀ j, j < tln a → vr (1, D a j) (.long (f j)) := by
  unfold cer; rw [hk]
theorem cer_2 {x : Option pv_E} {a : Nat} (hk : tkd a = 2) : cer x D a ↔ ∃ f, x = some (.inl (2, tln a, .inl f)) ∧ ∀ j, j < tln a → vr (0, D a j) (.int (f j)) ∧ -128 ≤ D a j ∧ D a j ≤ 127 := by
  unfold cer; rw [hk]
theorem cer_3 {x : Option pv_E} {a : Nat} (hk : tkd a = 3) : cer x D a ↔ ∃ f, x = some (.inl (3, tln a, .inl f)) ∧ ∀ j, j < tln a → vr (0, D a j) (.int (f j)) ∧ 0 ≤ D a j ∧ D a j ≤ 1 := by
  unfold cer; rw [hk]
theorem cer_r {x : Option pv_E} {a c : Nat} (hk : tkd a = 10 + c) (hc : c < 190) : cer x D a ↔ (∃ f, x = some (.inl (10 + c, tln a, .inr (.inr (.inr (.inr f))))) ∧ 10 ≤ 10 + c ∧ pt_ar c = true ∧ ∀ j, j < tln a → vr (1200 + c, a + 1 + tsd c * (j : Nat)) (va_rf (f j))) := by
  unfold cer
  rw [hk, show 10 + c = (6 + c) + 4 from by omega]
  dsimp only
  rw [if_pos (by omega), show 6 + c + 4 - 10 = c from by omega, show 1190 + (6 + c + 4) = 1200 + c from by omega]
theorem hr_upd {h : List pv_E} {D D' : tD} {a : Nat} {e e' : pv_E} (hh : hr h D) (ha : a < 2018) (hg : pv_G h a = some e) (hs : pv_sz e' = pv_sz e) (hD : ∀ b j, b ≠ (a : Int) → D' b j = D b j) (hc : cer (some e') D' a) : hr (pv_S h a e') D' := by
  obtain ⟨⟨h0, h1, h2⟩, h3⟩ := hh
  have hm : D' (-1) 0 = D (-1) 0 := hD _ _ (by omega)
  refine ⟨⟨by rw [hm]; exact h0, ?_, ?_⟩, fun b hb => ?_⟩
  · rw [hm, ← h1]; exact List.length_set
  · rw [hm, ← h2]; exact pv_M_set hg hs
  · by_cases hba : b = a
    · subst hba
      have hlt : b < h.length := (List.getElem?_eq_some_iff.mp hg).1
      have e1 : pv_G (pv_S h b e') b = some e' := by
        show (h.set b e')[b]? = _
        rw [List.getElem?_set]; simp [hlt]
      rw [e1]; exact hc
    · have e1 : pv_G (pv_S h a e') b = pv_G h b := List.getElem?_set_ne (Ne.symm hba)
      rw [e1]
      have e2 : D' (b : Int) = D (b : Int) := funext fun j => hD _ _ (by omega)
      have h4 := h3 b hb
      unfold cer at h4 ⊢
      rw [e2]
      exact h4
theorem wr_ne {D : tD} {a i v b j : Int} (h : b ≠ a) : wr D a i v b j = D b j := if_neg (fun e => h e.1)
theorem tfn_ok : ((List.range 12).all fun c => Nat.beq (tfn c) (pt_nw c).length) = true := by decide +kernel
theorem tfn_len {c : Nat} (hc : c < 12) : tfn c = (pt_nw c).length := nbeq.mp (List.all_eq_true.mp tfn_ok c (List.mem_range.mpr hc))
noncomputable def tfyb (c i : Nat) : Bool := match (tfm c i).1 with
  | 0 => decide (pt_fty c i = .int)
  | 1 => decide (pt_fty c i = .boolean)
  | 2 => decide (pt_fty c i = .long)
  | 3 => true
  | 4 => match pt_fty c i with
    | .object _ => true
    | .array _ => true
    | _ => false
  | 5 => true
  | _ => false
theorem tfy_ok : ((List.range 12).all fun c => (List.range (tfn c)).all fun i => tfyb c i) = true := by decide +kernel
theorem tfy_at {c i : Nat} (hc : c < 12) (hi : i < tfn c) : tfyb c i = true := List.all_eq_true.mp (List.all_eq_true.mp tfy_ok c (List.mem_range.mpr hc)) i (List.mem_range.mpr hi)
/-- an object's field, as the memory says -/
theorem obj_at {h : List pv_E} {c i : Nat} {a : Int} {v : Value} (hh : hr h D) (hc : c < 12) (hi : i < tfn c) (hv : vr (1200 + c, a) v) : 0 ≤ a ∧ a < 2018 ∧ v = .ref a.toNat ∧ tkd a.toNat = 200 + c ∧ ∃ fs w, pv_G h a.toNat = some (.inr (c, fs)) ∧ fs.length = (pt_nw c).length ∧ fs[i]? = some w ∧ fdr (tfm c i) a (D a (i : Nat)) w ∧ ∀ i v, fs[i]? = some v → fdr (tfm c i) a (D a (i : Nat)) v := by
  obtain ⟨h1, h2, h3, h4⟩ := vnp (by omega) hv
  have hk : tkd a.toNat = 200 + c := by omega
  have h5 := hh.2 a.toNat (by omega)
  rw [cer_obj hk] at h5
  obtain ⟨fs, e1, e2, e3, e4⟩ := h5
  have ea : ((a.toNat : Nat) : Int) = a := Int.toNat_of_nonneg h1
  rw [ea] at e4
  have hlt : i < fs.length := by rw [e2, ← tfn_len hc]; exact hi
  exact ⟨h1, h2, h3, hk, fs, fs[i], e1, e2, List.getElem?_eq_getElem hlt, e4 i _ (List.getElem?_eq_getElem hlt), e4⟩
theorem k_get {q : Nat} (hco : pt_cox y pc = some (.getfield q)) {k : List tV → Prop} (hk : ∀ s, k s → WP sc y (pc + 3) D lv s K E) (H : t_get (tfm (pt_ax y (.getfield q)).1 (pt_ax y (.getfield q)).2.1) (pt_ax y (.getfield q)).1 (pt_ax y (.getfield q)).2.1 D st k) : WP sc y pc D lv st K E := by
  generalize hc : (pt_ax y (.getfield q)).1 = c at H
  generalize hi : (pt_ax y (.getfield q)).2.1 = i at H
  unfold t_get at H
  split at H
  · rename_i t a r
    cases hb : (Nat.beq t (1200 + c) && Nat.blt c 12 && Nat.blt i (tfn c)) with
    | false => rw [hb] at H; exact H.elim
    | true =>
      rw [hb] at H
      obtain ⟨hb1, hb3⟩ := (Bool.and_eq_true _ _).mp hb
      obtain ⟨hb1, hb2⟩ := (Bool.and_eq_true _ _).mp hb1
      have et := nbeq.mp hb1
      subst et
      have hc12 := nblt.mp hb2
      have hin := nblt.mp hb3
      intro hsc fr lo h lv' st' hf hl hh h1 hs
      obtain ⟨v1, s1, rfl, e1, hs1⟩ := sr_cons hs
      obtain ⟨a1, a2, rfl, hkd, fs, w, g1, g2, g3, g4, g5⟩ := obj_at hh hc12 hin e1
      have hstep : ∀ n, pr sc (n + 1) fr lo h y pc lv' (.ref a.toNat :: s1) = pr sc n fr lo h y (pc + 3) lv' (w :: s1) := fun n => by
        refine p_h (i := .getfield q) hco rfl rfl rfl ?_ n
        have e0 : ∀ a1 a2, pv_h pv_G pv_S pv_P pv_N pv_M sc 601024 7293034 pt_ar pt_nw pt_fty (.getfield q) a1 a2 h (.ref a.toNat :: s1) = pv_getf pv_G a1 a2 h (.ref a.toNat :: s1) := fun _ _ => rfl
        rw [e0, hc, hi]
        show (match pv_G h a.toNat with | some (.inr (ci, fs)) => if ci = c then match fs[i]? with | some v => some (h, v :: s1) | none => none else none | _ => none) = _
        rw [g1]
        show (if c = c then _ else _) = _
        rw [if_pos rfl, g3]
      have fin : ∀ t2, vr t2 w → k (t2 :: r) → ∃ (n : Nat) (h' : List pv_E) (o : pv_O) (D' : tD), pr sc n fr lo h y pc lv' (.ref a.toNat :: s1) = some (h', o) ∧ hr h' D' ∧ tpost y h' o (K D') (E D') := fun t2 hv hk2 => by
        obtain ⟨n, h3, o, D', e3, hh3, hp⟩ := hk _ hk2 hsc fr lo h lv' (w :: s1) hf hl hh h1 ⟨hv, hs1⟩
        exact ⟨n + 1, h3, o, D', (hstep n).trans e3, hh3, hp⟩
      unfold fdr at g4
      generalize tfm c i = m at H g4
      obtain ⟨m1, m2, m3⟩ := m
      rcases m1 with _ | _ | _ | _ | _ | _ | m1
      · exact fin (0, D a i) g4 H
      · exact fin (0, D a i) g4.1 (H g4.2)
      · exact fin (1, D a i) g4 H
      · exact fin (m3, a + m2) g4.1 H
      · rcases g4.1 with ⟨d1, d2⟩ | d2
        · have H2 : k ((2, 0) :: r) := by
            have H3 : (if D a i = -1 then k ((2, 0) :: r) else k ((m3, D a i) :: r)) := H
            rw [if_pos d1] at H3
            exact H3
          exact fin (2, 0) d2 H2
        · have hm : 1000 ≤ m3 := g4.2
          have d3 : vr (m3, D a i) w := d2
          have hpos := (vnp (by omega) d3).1
          have H2 : k ((m3, D a i) :: r) := by
            have H3 : (if D a i = -1 then k ((2, 0) :: r) else k ((m3, D a i) :: r)) := H
            rw [if_neg (by omega)] at H3
            exact H3
          exact fin (m3, D a i) d2 H2
      · exact fin (m3, D a i) g4.1 H
      · exact False.elim H
  · exact H.elim
end TSP
