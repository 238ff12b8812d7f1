/-! the typed machine is sound: stores, arrays -/
section TSQ
variable {sc : Nat × (Nat → Int32)} {y pc : Nat} {D : tD} {lv : List (Nat × tV)} {st : List tV} {K : tD → Int → Prop} {E : tD → Nat → Prop} {i : Instr}
theorem tbl_spec {x : Int} {P : Prop} (H : tbl x P) : (x = 0 ∨ x = 1) ∧ P := by
  unfold tbl at H
  split at H
  · exact ⟨Or.inl ‹_›, H⟩
  split at H
  · exact ⟨Or.inr ‹_›, H⟩
  · exact H.elim
theorem wr_self {D : tD} {a i v : Int} : wr D a i v a i = v := if_pos ⟨rfl, rfl⟩
theorem wr_ni {D : tD} {a i v b j : Int} (h : j ≠ i) : wr D a i v b j = D b j := if_neg (fun e => h e.2)
/-- a field set -/
theorem hr_put {h : List pv_E} {c i : Nat} {a x : Int} {w : Value} (hh : hr h D) (hc : c < 12) (hi : i < tfn c) {v : Value} (hv : vr (1200 + c, a) v) (hw : fdr (tfm c i) a x w) : ∃ fs, pv_G h a.toNat = some (.inr (c, fs)) ∧ i < fs.length ∧ fs.length = (pt_nw c).length ∧ hr (pv_S h a.toNat (.inr (c, fs.set i w))) (wr D a (i : Nat) x) := by
  obtain ⟨a1, a2, rfl, hkd, fs, w0, g1, g2, g3, g4, g5⟩ := obj_at hh hc hi hv
  have hlt : i < fs.length := by rw [g2, ← tfn_len hc]; exact hi
  have ea : ((a.toNat : Nat) : Int) = a := Int.toNat_of_nonneg a1
  refine ⟨fs, g1, hlt, g2, hr_upd hh (by omega) g1 ?_ (fun b j hb => wr_ne (by rw [ea] at hb; exact hb)) ?_⟩
  · show (fs.set i w).length = fs.length
    rw [List.length_set]
  · rw [cer_obj hkd]
    refine ⟨_, rfl, by rw [List.length_set]; exact g2, by omega, fun j u hj => ?_⟩
    rw [ea]
    by_cases hji : j = i
    · subst hji
      rw [List.getElem?_set] at hj
      simp only [if_true, hlt] at hj
      rw [← Option.some.inj hj, wr_self]
      exact hw
    · rw [List.getElem?_set_ne (Ne.symm hji)] at hj
      rw [wr_ni (by omega)]
      exact g5 j u hj
theorem k_put {q : Nat} (hco : pt_cox y pc = some (.putfield q)) {k : tD → List tV → Prop} (hk : ∀ d s, k d s → WP sc y (pc + 3) d lv s K E) (H : t_put (tfm (pt_ax y (.putfield q)).1 (pt_ax y (.putfield q)).2.1) (pt_ax y (.putfield q)).1 (pt_ax y (.putfield q)).2.1 D st k) : WP sc y pc D lv st K E := by
  generalize hc : (pt_ax y (.putfield q)).1 = c at H
  generalize hi : (pt_ax y (.putfield q)).2.1 = i at H
  unfold t_put at H
  split at H
  · rename_i u x t a r
    cases hb : (Nat.beq t (1200 + c) && Nat.blt c 12 && Nat.blt i (tfn c)) with
    | false => rw [hb] at H; exact H.elim
    | true =>
      rw [hb] at H
      obtain ⟨hb1, hb3⟩ := (Bool.and_eq_true _ _).mp hb
      obtain ⟨hb1, hb2⟩ := (Bool.and_eq_true _ _).mp hb1
      have et := nbeq.mp hb1
      subst et
      have hc12 := nblt.mp hb2
      have hin := nblt.mp hb3
      intro hsc fr lo h lv' st' hf hl hh h1 hs
      obtain ⟨v0, s0, rfl, e0, hs0⟩ := sr_cons hs
      obtain ⟨v1, s1, rfl, e1, hs1⟩ := sr_cons hs0
      have ev1 := (vnp (by omega) e1).2.2.1
      have hty := tfy_at hc12 hin
      have hex : ∃ w, fdr (tfm c i) a (D a (i : Nat)) w := by
        obtain ⟨_, _, _, _, fs, w, g1, g2, g3, g4, g5⟩ := obj_at hh hc12 hin e1
        exact ⟨w, g4⟩
      have fin : ∀ x2, fdr (tfm c i) a x2 v0 → narrow (pt_fty c i) v0 = v0 → fits (pt_fty c i) v0 = true → k (wr D a i x2) r → ∃ (n : Nat) (h' : List pv_E) (o : pv_O) (D' : tD), pr sc n fr lo h y pc lv' (v0 :: v1 :: s1) = some (h', o) ∧ hr h' D' ∧ tpost y h' o (K D') (E D') := fun x2 hw hn hft hk2 => by
        obtain ⟨fs, g1, g2, g3, g4⟩ := hr_put hh hc12 hin e1 hw
        obtain ⟨n, h3, o, D', e3, hh3, hp⟩ := hk _ _ hk2 hsc fr lo _ lv' s1 hf hl g4 h1 hs1
        refine ⟨n + 1, h3, o, D', ?_, hh3, hp⟩
        refine Eq.trans ?_ e3
        refine p_h (i := .putfield q) hco rfl rfl rfl ?_ n
        have e5 : ∀ a1 a2, pv_h pv_G pv_S pv_P pv_N pv_M sc 601024 7293034 pt_ar pt_nw pt_fty (.putfield q) a1 a2 h (v0 :: v1 :: s1) = pv_putf pv_G pv_S pt_nw (pt_fty a1 a2) a1 a2 h (v0 :: v1 :: s1) := fun _ _ => rfl
        rw [e5, hc, hi, ev1]
        unfold pv_putf
        dsimp only
        rw [g1]
        dsimp only
        rw [if_pos ⟨rfl, g2, g3, hn, hft⟩]
      unfold tfyb at hty
      generalize hfd : fdr (tfm c i) = fd at fin hex
      unfold fdr at hfd
      generalize tfm c i = m at H hfd hty
      obtain ⟨m1, m2, m3⟩ := m
      rcases m1 with _ | _ | _ | _ | _ | _ | m1
      · have hT : pt_fty c i = .int := of_decide_eq_true hty
        have H2 : (bif Nat.beq u 0 then k (wr D a i x) r else False) := H
        cases hu : Nat.beq u 0 with
        | false => rw [hu] at H2; exact H2.elim
        | true =>
          rw [hu] at H2
          have eu := nbeq.mp hu
          subst eu
          obtain ⟨X, rfl, hX⟩ := vi e0
          exact fin x (by rw [← hfd]; exact e0) (by rw [hT]; rfl) (by rw [hT]; rfl) H2
      · have hT : pt_fty c i = .boolean := of_decide_eq_true hty
        have H2 : (bif Nat.beq u 0 then tbl x (k (wr D a i x) r) else False) := H
        cases hu : Nat.beq u 0 with
        | false => rw [hu] at H2; exact H2.elim
        | true =>
          rw [hu] at H2
          have eu := nbeq.mp hu
          subst eu
          obtain ⟨hx, H3⟩ := tbl_spec H2
          obtain ⟨X, rfl, hX⟩ := vi e0
          have hX2 : X = 0 ∨ X = 1 := by
            rcases hx with hx | hx
            · exact Or.inl (Int32.toInt_inj.mp (by rw [hX, hx]; rfl))
            · exact Or.inr (Int32.toInt_inj.mp (by rw [hX, hx]; rfl))
          refine fin x (by rw [← hfd]; exact ⟨e0, by omega, by omega⟩) ?_ ?_ H3
          · rw [hT]; rcases hX2 with rfl | rfl <;> rfl
          · rw [hT]; rcases hX2 with rfl | rfl <;> rfl
      · have hT : pt_fty c i = .long := of_decide_eq_true hty
        have H2 : (bif Nat.beq u 1 then k (wr D a i x) r else False) := H
        cases hu : Nat.beq u 1 with
        | false => rw [hu] at H2; exact H2.elim
        | true =>
          rw [hu] at H2
          have eu := nbeq.mp hu
          subst eu
          obtain ⟨X, rfl, hX⟩ := vl e0
          exact fin x (by rw [← hfd]; exact e0) (by rw [hT]; rfl) (by rw [hT]; rfl) H2
      · exact False.elim H
      · have H2 : (bif Nat.beq u 2 then k (wr D a i (-1)) r else bif Nat.beq u m3 then k (wr D a i x) r else False) := H
        have hT : (∃ nm, pt_fty c i = .object nm) ∨ ∃ ty, pt_fty c i = .array ty := by
          have h8 : (match pt_fty c i with | .object _ => true | .array _ => true | _ => false) = true := hty
          split at h8
          · exact Or.inl ⟨_, ‹_›⟩
          · exact Or.inr ⟨_, ‹_›⟩
          · cases h8
        cases hu : Nat.beq u 2 with
        | true =>
          rw [hu] at H2
          have eu := nbeq.mp hu
          subst eu
          have e9 : v0 = .null := e0
          subst e9
          have hm3 : 1000 ≤ m3 := by
            obtain ⟨w, g4⟩ := hex
            rw [← hfd] at g4
            exact g4.2
          refine fin (-1) (by rw [← hfd]; exact ⟨Or.inl ⟨rfl, rfl⟩, hm3⟩) ?_ ?_ H2
          · rcases hT with ⟨nm, hT⟩ | ⟨ty, hT⟩ <;> rw [hT] <;> rfl
          · rcases hT with ⟨nm, hT⟩ | ⟨ty, hT⟩ <;> rw [hT] <;> rfl
        | false =>
          rw [hu] at H2
          cases hu3 : Nat.beq u m3 with
          | false => rw [hu3] at H2; exact H2.elim
          | true =>
            rw [hu3] at H2
            have eu := nbeq.mp hu3
            subst eu
            have hm3 : 1000 ≤ u := by
              obtain ⟨w, g4⟩ := hex
              rw [← hfd] at g4
              exact g4.2
            have e9 := (vnp (by omega) e0).2.2.1
            refine fin x (by rw [← hfd]; exact ⟨Or.inr e0, hm3⟩) ?_ ?_ H2
            · rw [e9]; rcases hT with ⟨nm, hT⟩ | ⟨ty, hT⟩ <;> rw [hT] <;> rfl
            · rw [e9]; rcases hT with ⟨nm, hT⟩ | ⟨ty, hT⟩ <;> rw [hT] <;> rfl
      · exact False.elim H
      · exact False.elim H
  · exact H.elim
/-! arrays -/
theorem idx_ok {X : Int32} {x : Int} {n : Nat} (hX : X.toInt = x) (h0 : 0 ≤ x) (h1 : x < (n : Nat)) : pv_idx X n = some x.toNat := by
  have e : X.toNatClampNeg = x.toNat := by
    show X.toInt.toNat = _
    rw [hX]
  unfold pv_idx
  rw [if_neg, e]
  intro h
  rcases h with h | h
  · have := Int32.lt_iff_toInt_lt.mp h
    rw [hX] at this
    have h2 : (0 : Int32).toInt = 0 := rfl
    omega
  · rw [e] at h; omega
theorem k_ild (hco : pt_cox y pc = some .iaload) {k : List tV → Prop} (hk : ∀ s, k s → WP sc y (pc + 1) D lv s K E) (H : t_ild sc D st k) : WP sc y pc D lv st K E := by
  unfold t_ild at H
  split at H
  · rename_i x t a r
    cases hb : Nat.beq t 1000 with
    | true =>
      rw [hb] at H
      have et := nbeq.mp hb
      subst et
      obtain ⟨⟨hx0, hx1⟩, H2⟩ := H
      refine wp_go (fun _ fr lo h lv' st' _ _ hh hl hs => ?_) (hk _ H2)
      obtain ⟨v0, s0, rfl, e0, hs0⟩ := sr_cons hs
      obtain ⟨v1, s1, rfl, e1, hs1⟩ := sr_cons hs0
      obtain ⟨X, rfl, hX⟩ := vi e0
      obtain ⟨a1, a2, rfl, a4⟩ := vnp (by omega) e1
      have h5 := hh.2 a.toNat (by omega)
      rw [cer_0 (by omega)] at h5
      obtain ⟨f, g1, g2⟩ := h5
      have hlt : x.toNat < tln a.toNat := by unfold ln at hx1; omega
      have g3 := g2 x.toNat hlt
      rw [Int.toNat_of_nonneg a1, Int.toNat_of_nonneg hx0] at g3
      refine ⟨h, lv', .int (f x.toNat) :: s1, fun n => p_h (i := .iaload) hco rfl rfl rfl ?_ n, hh, hl, ⟨g3, hs1⟩⟩
      show pv_aldi pv_G sc 0 h (.int X :: .ref a.toNat :: s1) = _
      unfold pv_aldi
      dsimp only
      rw [g1]
      dsimp only
      rw [if_pos rfl, idx_ok hX hx0 hx1]
    | false =>
      rw [hb] at H
      cases hb3 : Nat.beq t 3 with
      | false => rw [hb3] at H; exact H.elim
      | true =>
        rw [hb3] at H
        have et := nbeq.mp hb3
        subst et
        obtain ⟨⟨hx0, hx1⟩, H2⟩ := H
        have hrg := i32r (sc.2 x.toNat)
        refine wp_go (fun _ fr lo h lv' st' _ _ hh hl hs => ?_) (hk _ (H2 hrg))
        obtain ⟨v0, s0, rfl, e0, hs0⟩ := sr_cons hs
        obtain ⟨v1, s1, rfl, e1, hs1⟩ := sr_cons hs0
        obtain ⟨X, rfl, hX⟩ := vi e0
        have e2 : v1 = .retAddr 0 := e1
        subst e2
        refine ⟨h, lv', .int (sc.2 x.toNat) :: s1, fun n => p_h (i := .iaload) hco rfl rfl rfl ?_ n, hh, hl, ⟨vi' rfl, hs1⟩⟩
        show (if (0 : Nat) = 0 then (match pv_idx X sc.1 with | some q => some (h, .int (sc.2 q) :: s1) | none => none) else none) = _
        rw [if_pos rfl, idx_ok hX hx0 hx1]
  · exact H.elim
theorem k_bld (hco : pt_cox y pc = some .baload) {k : List tV → Prop} (hk : ∀ s, k s → WP sc y (pc + 1) D lv s K E) (H : t_bld D st k) : WP sc y pc D lv st K E := by
  unfold t_bld at H
  split at H
  · rename_i x t a r
    intro hsc fr lo h lv' st' hf hl hh h1 hs
    obtain ⟨v0, s0, rfl, e0, hs0⟩ := sr_cons hs
    obtain ⟨v1, s1, rfl, e1, hs1⟩ := sr_cons hs0
    obtain ⟨X, rfl, hX⟩ := vi e0
    cases hb : Nat.beq t 1002 with
    | true =>
      rw [hb] at H
      have et := nbeq.mp hb
      subst et
      obtain ⟨⟨hx0, hx1⟩, H2⟩ := H
      obtain ⟨a1, a2, rfl, a4⟩ := vnp (by omega) e1
      have h5 := hh.2 a.toNat (by omega)
      rw [cer_2 (by omega)] at h5
      obtain ⟨f, g1, g2⟩ := h5
      have hlt : x.toNat < tln a.toNat := by unfold ln at hx1; omega
      have g3 := g2 x.toNat hlt
      rw [Int.toNat_of_nonneg a1, Int.toNat_of_nonneg hx0] at g3
      obtain ⟨n, h3, o, D', e3, hh3, hp⟩ := hk _ (H2 g3.2) hsc fr lo h lv' (.int (f x.toNat) :: s1) hf hl hh h1 ⟨g3.1, hs1⟩
      refine ⟨n + 1, h3, o, D', Eq.trans (p_h (i := .baload) hco rfl rfl rfl ?_ n) e3, hh3, hp⟩
      show pv_aldb pv_G h (.int X :: .ref a.toNat :: s1) = _
      unfold pv_aldb
      dsimp only
      rw [g1]
      dsimp only
      rw [if_pos (Or.inl rfl), idx_ok hX hx0 hx1]
    | false =>
      rw [hb] at H
      cases hb3 : Nat.beq t 1003 with
      | false => rw [hb3] at H; exact H.elim
      | true =>
        rw [hb3] at H
        have et := nbeq.mp hb3
        subst et
        obtain ⟨⟨hx0, hx1⟩, H2⟩ := H
        obtain ⟨a1, a2, rfl, a4⟩ := vnp (by omega) e1
        have h5 := hh.2 a.toNat (by omega)
        rw [cer_3 (by omega)] at h5
        obtain ⟨f, g1, g2⟩ := h5
        have hlt : x.toNat < tln a.toNat := by unfold ln at hx1; omega
        have g3 := g2 x.toNat hlt
        rw [Int.toNat_of_nonneg a1, Int.toNat_of_nonneg hx0] at g3
        obtain ⟨n, h3, o, D', e3, hh3, hp⟩ := hk _ (H2 g3.2) hsc fr lo h lv' (.int (f x.toNat) :: s1) hf hl hh h1 ⟨g3.1, hs1⟩
        refine ⟨n + 1, h3, o, D', Eq.trans (p_h (i := .baload) hco rfl rfl rfl ?_ n) e3, hh3, hp⟩
        show pv_aldb pv_G h (.int X :: .ref a.toNat :: s1) = _
        unfold pv_aldb
        dsimp only
        rw [g1]
        dsimp only
        rw [if_pos (Or.inr rfl), idx_ok hX hx0 hx1]
  · exact H.elim
theorem k_lld8 (hco : pt_cox y pc = some .laload) {k : List tV → Prop} (hk : ∀ s, k s → WP sc y (pc + 1) D lv s K E) (H : t_lld8 D st k) : WP sc y pc D lv st K E := by
  unfold t_lld8 at H
  split at H
  · rename_i x t a r
    cases hb : Nat.beq t 1001 with
    | false => rw [hb] at H; exact H.elim
    | true =>
      rw [hb] at H
      have et := nbeq.mp hb
      subst et
      obtain ⟨⟨hx0, hx1⟩, H2⟩ := H
      refine wp_go (fun _ fr lo h lv' st' _ _ hh hl hs => ?_) (hk _ H2)
      obtain ⟨v0, s0, rfl, e0, hs0⟩ := sr_cons hs
      obtain ⟨v1, s1, rfl, e1, hs1⟩ := sr_cons hs0
      obtain ⟨X, rfl, hX⟩ := vi e0
      obtain ⟨a1, a2, rfl, a4⟩ := vnp (by omega) e1
      have h5 := hh.2 a.toNat (by omega)
      rw [cer_1 (by omega)] at h5
      obtain ⟨f, g1, g2⟩ := h5
      have hlt : x.toNat < tln a.toNat := by unfold ln at hx1; omega
      have g3 := g2 x.toNat hlt
      rw [Int.toNat_of_nonneg a1, Int.toNat_of_nonneg hx0] at g3
      refine ⟨h, lv', .long (f x.toNat) :: s1, fun n => p_h (i := .laload) hco rfl rfl rfl ?_ n, hh, hl, ⟨g3, hs1⟩⟩
      show pv_aldl pv_G h (.int X :: .ref a.toNat :: s1) = _
      unfold pv_aldl
      dsimp only
      rw [g1]
      dsimp only
      rw [if_pos rfl, idx_ok hX hx0 hx1]
  · exact H.elim
set_option maxRecDepth 8000 in
theorem k_ald (hco : pt_cox y pc = some .aaload) {k : List tV → Prop} (hk : ∀ s, k s → WP sc y (pc + 1) D lv s K E) (H : t_ald D st k) : WP sc y pc D lv st K E := by
  unfold t_ald at H
  split at H
  · rename_i x t a r
    cases hb : (Nat.ble 1010 t && Nat.blt t 1200) with
    | false => rw [hb] at H; exact H.elim
    | true =>
      rw [hb] at H
      obtain ⟨hb1, hb2⟩ := (Bool.and_eq_true _ _).mp hb
      have ht1 := Nat.le_of_ble_eq_true hb1
      have ht2 := nblt.mp hb2
      obtain ⟨⟨hx0, hx1⟩, H2⟩ := H
      refine wp_go (fun _ fr lo h lv' st' _ _ hh hl hs => ?_) (hk _ H2)
      obtain ⟨v0, s0, rfl, e0, hs0⟩ := sr_cons hs
      obtain ⟨v1, s1, rfl, e1, hs1⟩ := sr_cons hs0
      obtain ⟨X, rfl, hX⟩ := vi e0
      obtain ⟨a1, a2, rfl, a4⟩ := vnp (by omega) e1
      have h5 := hh.2 a.toNat (by omega)
      rw [cer_r (c := t - 1010) (by omega) (by omega)] at h5
      obtain ⟨f, g1, g2, g3, g4⟩ := h5
      have hlt : x.toNat < tln a.toNat := by unfold ln at hx1; omega
      have g5 := g4 x.toNat hlt
      rw [Int.toNat_of_nonneg a1, Int.toNat_of_nonneg hx0, show 1200 + (t - 1010) = t + 190 from by omega] at g5
      refine ⟨h, lv', va_rf (f x.toNat) :: s1, fun n => p_h (i := .aaload) hco rfl rfl rfl ?_ n, hh, hl, ⟨g5, hs1⟩⟩
      show pv_alda pv_G pt_ar h (.int X :: .ref a.toNat :: s1) = _
      unfold pv_alda
      dsimp only
      rw [g1]
      dsimp only
      rw [if_pos ⟨g2, by rw [show 10 + (t - 1010) - 10 = t - 1010 from by omega]; exact g3⟩, idx_ok hX hx0 hx1]
  · exact H.elim
theorem k_len (hco : pt_cox y pc = some .arraylength) {k : List tV → Prop} (hk : ∀ s, k s → WP sc y (pc + 1) D lv s K E) (H : t_len sc st k) (hln : ∀ a, a < 2018 → tln a < 20000) : WP sc y pc D lv st K E := by
  unfold t_len at H
  split at H
  · rename_i t a r
    cases hb : (Nat.ble 1000 t && Nat.blt t 1200) with
    | true =>
      rw [hb] at H
      obtain ⟨hb1, hb2⟩ := (Bool.and_eq_true _ _).mp hb
      have ht1 := Nat.le_of_ble_eq_true hb1
      have ht2 := nblt.mp hb2
      refine wp_go (fun _ fr lo h lv' st' _ _ hh hl hs => ?_) (hk _ H)
      obtain ⟨v1, s1, rfl, e1, hs1⟩ := sr_cons hs
      obtain ⟨a1, a2, rfl, a4⟩ := vnp (by omega) e1
      have hl2 := hln a.toNat (by omega)
      have hv : vr (0, ln a) (.int (Int32.ofNat (tln a.toNat))) := by
        refine vi' ?_
        rw [← Int32.ofInt_eq_ofNat]
        exact Int32.toInt_ofInt_of_le (by omega) (by omega)
      refine ⟨h, lv', .int (Int32.ofNat (tln a.toNat)) :: s1, fun n => p_h (i := .arraylength) hco rfl rfl rfl ?_ n, hh, hl, ⟨hv, hs1⟩⟩
      show pv_alen pv_G sc pt_ar h (.ref a.toNat :: s1) = _
      have h5 := hh.2 a.toNat (by omega)
      have fin : ∀ kk z, pv_G h a.toNat = some (.inl (kk, tln a.toNat, z)) → (kk < 4 ∨ (10 ≤ kk ∧ pt_ar (kk - 10) = true)) → pv_alen pv_G sc pt_ar h (.ref a.toNat :: s1) = some (h, .int (Int32.ofNat (tln a.toNat)) :: s1) := fun kk z g hkk => by
        unfold pv_alen
        dsimp only
        rw [g]
        dsimp only
        rw [if_pos hkk]
      have hcase : tkd a.toNat = 0 ∨ tkd a.toNat = 1 ∨ tkd a.toNat = 2 ∨ tkd a.toNat = 3 ∨ 4 ≤ tkd a.toNat := by omega
      rcases hcase with q | q | q | q | q
      · rw [cer_0 q] at h5; obtain ⟨f, g1, -⟩ := h5; exact fin _ _ g1 (Or.inl (by omega))
      · rw [cer_1 q] at h5; obtain ⟨f, g1, -⟩ := h5; exact fin _ _ g1 (Or.inl (by omega))
      · rw [cer_2 q] at h5; obtain ⟨f, g1, -⟩ := h5; exact fin _ _ g1 (Or.inl (by omega))
      · rw [cer_3 q] at h5; obtain ⟨f, g1, -⟩ := h5; exact fin _ _ g1 (Or.inl (by omega))
      · have h6 := h5
        unfold cer at h6
        obtain ⟨k4, hk4⟩ : ∃ k4, tkd a.toNat = k4 + 4 := ⟨tkd a.toNat - 4, by omega⟩
        rw [hk4] at h6
        dsimp only at h6
        rw [if_pos (by omega)] at h6
        obtain ⟨f, g1, g2, g3, -⟩ := h6
        exact fin _ _ g1 (Or.inr ⟨g2, g3⟩)
    | false =>
      rw [hb] at H
      cases hb3 : Nat.beq t 3 with
      | false => rw [hb3] at H; exact H.elim
      | true =>
        rw [hb3] at H
        have et := nbeq.mp hb3
        subst et
        refine wp_go (fun hsc fr lo h lv' st' _ _ hh hl hs => ?_) (hk _ H)
        obtain ⟨v1, s1, rfl, e1, hs1⟩ := sr_cons hs
        have e2 : v1 = .retAddr 0 := e1
        subst e2
        have hv : vr (0, (sc.1 : Nat)) (.int (Int32.ofNat sc.1)) := by
          refine vi' ?_
          rw [← Int32.ofInt_eq_ofNat, Int32.toInt_ofInt_of_le (by omega) (by omega)]
        exact ⟨h, lv', .int (Int32.ofNat sc.1) :: s1, fun n => p_h (i := .arraylength) hco rfl rfl rfl rfl n, hh, hl, ⟨hv, hs1⟩⟩
  · exact H.elim
end TSQ
