/-! reading labels: the other side, the loop -/
section LBR
variable {sc : Nat × (Nat → Int32)} {D D' : tD} {K : tD → Int → Prop} {E : tD → Nat → Prop} {T : Int → Int} {n : Int}
/-- which extra label a word asks for -/
def wmd (D : tD) (x1 kd : Int) (nF : List Int) : Prop := (x1 = 3 ∧ kd = 2) ∨ (x1 = 0 ∧ (0 ≤ D 1977 48 ∧ D 1977 48 < 16) ∧ ((D 1980 (D 1977 48) = 4 ∧ kd = 4 ∧ nmM D (D 1977 48) nF) ∨ (D 1980 (D 1977 48) ≠ 4 ∧ kd = 0))) ∨ (x1 ≠ 3 ∧ x1 ≠ 0 ∧ kd = 0)
theorem wmd_fr {x1 kd : Int} {nF : List Int} (h : wmd D x1 kd nF) (hf : ∀ x j, x = 1980 ∨ x = 1981 ∨ x = 1982 ∨ (x = 1977 ∧ j = 48) → D' x j = D x j) : wmd D' x1 kd nF := by
  rcases h with h | ⟨h1, h2, h3⟩ | h
  · exact Or.inl h
  · have e : D' 1977 48 = D 1977 48 := hf _ _ (by omega)
    refine Or.inr (Or.inl ⟨h1, by rw [e]; exact h2, ?_⟩)
    rw [e, hf 1980 _ (by omega)]
    rcases h3 with ⟨g1, g2, g3⟩ | g
    · refine Or.inl ⟨g1, g2, ?_⟩
      rcases g3 with g3 | ⟨k1, k2, k3, k4, k5, k6⟩
      · exact Or.inl g3
      · exact Or.inr ⟨k1, k2, by rw [hf 1982 _ (by omega)]; exact k3, k4, atL_fr (fun j _ _ => hf 1981 _ (by omega)) k5, k6⟩
    · exact Or.inr g
  · exact Or.inr (Or.inr h)
theorem wd17 {a b : Int} (h : a ≤ b) : wdT T 17 a b ↔ lbL T a b = [108, 101] := by
  have l0 : ltr 17 0 = 108 := by decide +kernel
  have l1 : ltr 17 1 = 101 := by decide +kernel
  have l2 : ltn 17 = 2 := by decide
  unfold wdT lbL
  rw [l2]
  refine ⟨fun ⟨h1, h2⟩ => ?_, fun h1 => ?_⟩
  · rw [show (b - a).toNat = 2 from by omega]
    show [T a, T (a + 1)] = _
    have q0 := h2 a (by omega) (by omega)
    have q1 := h2 (a + 1) (by omega) (by omega)
    rw [show a - a = 0 from by omega, l0] at q0
    rw [show a + 1 - a = 1 from by omega, l1] at q1
    rw [q0, q1]
  · have hl := congrArg List.length h1
    rw [spn_len] at hl
    have hl2 : (b - a).toNat = 2 := hl
    rw [hl2] at h1
    have h3 : [T a, T (a + 1)] = [108, 101] := h1
    injection h3 with q0 q
    injection q with q1 _
    refine ⟨by omega, fun j u v => ?_⟩
    have : j = a ∨ j = a + 1 := by omega
    rcases this with e | e
    · rw [e, show a - a = 0 from by omega, l0]; exact q0
    · rw [e, show a + 1 - a = 1 from by omega, l1]; exact q1
theorem atL_spn {a : Int} : ∀ {l : List Int} {o : Int}, atL D a o l → l = spn (D a) o l.length := by
  intro l
  induction l with
  | nil => intro o _; rfl
  | cons x r ih =>
    intro o h
    show x :: r = D a o :: spn (D a) (o + 1) r.length
    rw [h.1, ← ih h.2]
theorem ms_lbL {a b f : Int} {nF : List Int} (h : ∃ p, mu D T n p) (ha : 0 ≤ a ∧ a ≤ b ∧ b ≤ n) (hF : D 1982 f = (nF.length : Int) ∧ atL D 1981 (24 * f) nF) : msmP D 1981 (24 * f) (D 1982 f) a b ↔ lbL T a b = nF := by
  obtain ⟨p, hp⟩ := h
  have t1 : ∀ j, 0 ≤ j → j < n → D 1978 j = T j := fun j u v => (hp.2.2 j u v).1
  unfold msmP
  rw [hF.1]
  refine ⟨fun ⟨h1, h2⟩ => ?_, fun h1 => ?_⟩
  · have e : nF = spn (D 1981) (24 * f) nF.length := (atL_spn hF.2)
    rw [e]
    unfold lbL
    rw [show (b - a).toNat = nF.length from by omega]
    refine spn_ext (fun j u v => ?_)
    rw [h2 j u v, t1 (a + j) (by omega) (by omega)]
  · have hl := congrArg List.length h1
    rw [lbL_len] at hl
    refine ⟨by omega, fun j u v => ?_⟩
    rw [t1 (a + j) (by omega) (by omega)]
    have q : atL D 1978 a nF := by
      rw [← h1]
      exact spn_at (fun j u v => t1 (a + j) (by omega) (by omega))
    have := atL_eq hF.2 q j u v
    rw [this, t1 (a + j) (by omega) (by omega)]
theorem u_lab {a x1 kd most : Int} {nF : List Int} {S : List (List Int)} {ex : Option (Int × List Int)} (h : lrM D T n a S ex) (hw : wmd D x1 kd nF) (hx : (x1 < 0 ∧ most = 2) ∨ (0 ≤ x1 ∧ most = 3)) (hso : lsO most S ex) (hT : (lb1 T n kd nF most a S ex).1 = 0 → ∀ D', lrM D' T n (lb1 T n kd nF most a S ex).2.1 (lb1 T n kd nF most a S ex).2.2.1 (lb1 T n kd nF most a S ex).2.2.2 → frX D D' → K D' 1) (hF : (lb1 T n kd nF most a S ex).1 ≠ 0 → ∀ D', D' 1977 45 = (lb1 T n kd nF most a S ex).1 → D' 1977 46 = (lb1 T n kd nF most a S ex).2.1 → frXf D D' → K D' 0) : WP sc 265 0 D [(0, (1211, 1977)), (1, (0, x1))] [] K E := by
  have c := h.1.2
  have rb := ru_b (s := 5) (T := T) (n := n) (a := a) (by omega)
  have eb : ru 5 T n a = lbE T n a := rfl
  refine v265_0 (u_names h.1 ?_)
  rw [eb] at rb ⊢
  rw [wr_self]
  have h1 := lrM_wr h (b := lbE T n a) ⟨by omega, rb.2⟩
  have f1 : frX D (wr D 1977 47 (lbE T n a)) := frX_wr (by omega)
  by_cases z : a = lbE T n a
  · rw [if_pos z]
    have en : lb1 T n kd nF most a S ex = (1, a, S, ex) := by
      have e : lbN T n a = (1, a) := by unfold lbN; rw [if_pos z.symm]
      unfold lb1
      rw [e, if_pos (show (1 : Int) ≠ 0 from by decide)]
    rw [en] at hF
    exact u_fails h1.1.1.2.2 (hF (show (1 : Int) ≠ 0 from by decide) _ fl_45 fl_46 (frXf_tr f1 frXf_fl))
  rw [if_neg z]
  have hT1 : (lb1 T n kd nF most a S ex).1 = 0 → ∀ D', lrM D' T n (lb1 T n kd nF most a S ex).2.1 (lb1 T n kd nF most a S ex).2.2.1 (lb1 T n kd nF most a S ex).2.2.2 → frX (wr D 1977 47 (lbE T n a)) D' → K D' 1 := fun e D' q1 q2 => hT e D' q1 (frX_tr f1 q2)
  have hF1 : (lb1 T n kd nF most a S ex).1 ≠ 0 → ∀ D', D' 1977 45 = (lb1 T n kd nF most a S ex).1 → D' 1977 46 = (lb1 T n kd nF most a S ex).2.1 → frXf (wr D 1977 47 (lbE T n a)) D' → K D' 0 := fun e D' q1 q2 q3 => hF e D' q1 q2 (frXf_tr f1 q3)
  have no : ∀ x4, ¬ xq kd nF (lbL T a (lbE T n a)) → WP sc 265 119 (wr D 1977 47 (lbE T n a)) [(0, (1211, 1977)), (1, (0, x1)), (2, (0, a)), (3, (0, lbE T n a)), (4, (0, x4))] [] K E := fun x4 nq => u_l119 h1 ⟨c.1.1, by omega⟩ (fun w => nq w.2) hx hso hT1 hF1
  have yes : ∀ x4, xq kd nF (lbL T a (lbE T n a)) → ((x4 = 0 ∧ kd ≠ 2) ∨ (x4 = 1 ∧ kd = 2)) → WP sc 265 108 (wr D 1977 47 (lbE T n a)) [(0, (1211, 1977)), (1, (0, x1)), (2, (0, a)), (3, (0, lbE T n a)), (4, (0, x4))] [] K E := fun x4 hq h4 => u_l108 h1 ⟨c.1.1, by omega⟩ hq h4 hx hso hT1 hF1
  have d48 : (wr D 1977 47 (lbE T n a)) 1977 48 = D 1977 48 := wr_ni (by omega)
  have d80 : ∀ j, (wr D 1977 47 (lbE T n a)) 1980 j = D 1980 j := fun j => wr_ne (by omega)
  have d82 : ∀ j, (wr D 1977 47 (lbE T n a)) 1982 j = D 1982 j := fun j => wr_ne (by omega)
  rcases hw with ⟨w1, w2⟩ | ⟨w1, w2, w3⟩ | ⟨w1, w2, w3⟩
  · rw [if_pos w1]
    refine u_word (by omega) ⟨c.1.1, rb.1, rb.2⟩ ⟨_, h1.1⟩ (fun e => ?_) (fun e => ?_)
    · rw [if_neg (by omega), if_neg (by omega)]
      rw [wd17 rb.1] at e
      exact yes 1 (Or.inl ⟨w2, e⟩) (Or.inr ⟨rfl, w2⟩)
    · rw [if_pos rfl, if_neg (by omega)]
      rw [wd17 rb.1] at e
      refine no 0 (fun w => ?_)
      rcases w with w | w
      · exact e w.2
      · omega
  · rw [if_neg (by omega), if_pos w1, d48, d80, d82]
    refine ⟨w2, ?_⟩
    rcases w3 with ⟨k4, kd4, hnm⟩ | ⟨k4, kd0⟩
    · rw [if_pos k4]
      refine ⟨w2, ?_⟩
      have hn : D 1982 (D 1977 48) = (nF.length : Int) ∧ nF.length ≤ 24 ∧ atL D 1981 (24 * D 1977 48) nF := by
        rcases hnm with ⟨g, _⟩ | ⟨_, _, g3, g4, g5, _⟩
        · omega
        · exact ⟨g3, g4, g5⟩
      rw [w32_id (x := 24 * D 1977 48) (by omega) (by omega)]
      have key := ms_lbL (D := wr D 1977 47 (lbE T n a)) (f := D 1977 48) (nF := nF) ⟨_, h1.1⟩ ⟨c.1.1, rb.1, rb.2⟩ ⟨by rw [d82]; exact hn.1, atL_fr (fun j _ _ => wr_ne (by omega)) hn.2.2⟩
      rw [d82] at key
      refine m_same ⟨by omega, by rw [hn.1]; show _ ≤ (384 : Int); omega, by omega⟩ (by rw [hn.1]; omega) ⟨by omega, by omega⟩ ⟨by omega, by omega⟩ (fun e => ?_) (fun e => ?_)
      · rw [if_neg (by omega)]
        exact yes 0 (Or.inr ⟨kd4, key.mp e⟩) (Or.inl ⟨rfl, by omega⟩)
      · rw [if_pos rfl]
        refine no 0 (fun w => ?_)
        rcases w with w | w
        · omega
        · exact e (key.mpr w.2)
    · rw [if_neg k4]
      refine no 0 (fun w => ?_)
      rcases w with w | w
      · omega
      · omega
  · rw [if_neg w1, if_neg w2]
    refine no 0 (fun w => ?_)
    rcases w with w | w
    · omega
    · omega
theorem u_labs1 {x1 kd most : Int} {nF : List Int} {D0 : tD} (hw : wmd D0 x1 kd nF) (hx : (x1 < 0 ∧ most = 2) ∨ (0 ≤ x1 ∧ most = 3)) : ∀ (k : Nat) (a : Int) (S : List (List Int)) (ex : Option (Int × List Int)) (D : tD), lrM D T n a S ex → lsO most S ex → frX D0 D → lcn S ex + (k : Int) = most + 2 → ((lbs T n kd nF most k a S ex).1 = 0 → ∀ D', lrM D' T n (lbs T n kd nF most k a S ex).2.1 (lbs T n kd nF most k a S ex).2.2.1 (lbs T n kd nF most k a S ex).2.2.2 → frX D0 D' → K D' 1) → ((lbs T n kd nF most k a S ex).1 ≠ 0 → ∀ D', D' 1977 45 = (lbs T n kd nF most k a S ex).1 → D' 1977 46 = (lbs T n kd nF most k a S ex).2.1 → frXf D0 D' → K D' 0) → WP sc 267 2 D [(0, (1211, 1977)), (1, (0, x1)), (2, (0, 1))] [] K E := by
  intro k
  induction k with
  | zero => intro a S ex D h hS hf hk; exact absurd (lcn_le hS).2 (by omega)
  | succ k ih =>
    intro a S ex D h hS hf hk hT hF
    have c := h.1.2
    refine v267_2 ?_
    rw [if_neg (by omega)]
    unfold lbs at hT hF
    refine u_lab (kd := kd) (nF := nF) (S := S) (ex := ex) (a := a) h (wmd_fr hw (fun x j u => hf x j (by omega) (by omega) (by omega) (by omega))) hx hS (fun e0 D1 h1 f1 => ?_) (fun e0 D1 g1 g2 g3 => ?_)
    · rw [if_neg (by omega)]
      rw [if_neg (fun w => w e0)] at hT hF
      obtain ⟨l1, l2, l3⟩ := lb1_ok e0 ⟨c.1.1, c.1.2.1⟩ hS
      refine u_peek h1.1 ?_
      rw [h1.1.1.1]
      by_cases e1 : pb T n (lb1 T n kd nF most a S ex).2.1 = 44
      · rw [if_pos e1]
        rw [if_pos e1] at hT hF
        have := pb_lt e1 (by omega)
        rw [w32_id (by omega) (by omega)]
        exact ih _ _ _ _ (lrM_wr h1 ⟨by omega, by omega⟩) l3 (frX_tr hf (frX_tr f1 (frX_wr (by omega)))) (by omega) hT hF
      · rw [if_neg e1]
        rw [if_neg e1] at hT hF
        refine v267_2 ?_
        rw [if_pos rfl]
        refine u_expects h1.1 (fun e2 => ?_) (fun e2 => ?_)
        · rw [if_pos e2] at hT
          have := pb_lt e2 (by omega)
          exact tbl_of (Or.inr rfl) (hT rfl _ (lrM_wr h1 ⟨by omega, by omega⟩) (frX_tr hf (frX_tr f1 (frX_wr (by omega)))))
        · rw [if_neg e2] at hF
          exact tbl_of (Or.inl rfl) (hF (show (1 : Int) ≠ 0 from by decide) _ fl_45 fl_46 (frXf_tr hf (frXf_tr f1 frXf_fl)))
    · rw [if_pos rfl]
      rw [if_pos e0] at hF
      exact hF e0 D1 g1 g2 (frXf_tr hf g3)
theorem u_labs {x1 kd most a : Int} {nF : List Int} (hw : wmd D x1 kd nF) (hx : (x1 < 0 ∧ most = 2) ∨ (0 ≤ x1 ∧ most = 3)) (h : lrM D T n a [] none) (hT : (lbs T n kd nF most (most + 2).toNat a [] none).1 = 0 → ∀ D', lrM D' T n (lbs T n kd nF most (most + 2).toNat a [] none).2.1 (lbs T n kd nF most (most + 2).toNat a [] none).2.2.1 (lbs T n kd nF most (most + 2).toNat a [] none).2.2.2 → frX D D' → K D' 1) (hF : (lbs T n kd nF most (most + 2).toNat a [] none).1 ≠ 0 → ∀ D', D' 1977 45 = (lbs T n kd nF most (most + 2).toNat a [] none).1 → D' 1977 46 = (lbs T n kd nF most (most + 2).toNat a [] none).2.1 → frXf D D' → K D' 0) : WP sc 267 0 D [(0, (1211, 1977)), (1, (0, x1))] [] K E := by
  refine v267_0 ?_
  have e : lcn [] none = 0 := rfl
  exact u_labs1 hw hx (most + 2).toNat a [] none D h (lsO_nil (by omega)) frX_rf (by rw [e]; omega) hT hF
end LBR
