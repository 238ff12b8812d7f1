/-! reading a sample: its exemplar, the numbers, each side -/
section EXM
variable {sc : Nat × (Nat → Int32)} {D D' A A' A0 D0 : tD} {K : tD → Int → Prop} {E : tD → Nat → Prop} {T : Int → Int} {n c : Int}
/-- the numbers of an exemplar: fault and place -/
def xeV (T : Int → Int) (n s : Int) : Int := (nmb T n (s + 1)).2.1
def xeE (T : Int → Int) (n s : Int) : Int := (nmb T n (s + 1)).2.2
def xeT (T : Int → Int) (n s : Int) : Int := (nmb T n (xeE T n s + 1)).2.1
def xeF (T : Int → Int) (n s : Int) : Int := (nmb T n (xeE T n s + 1)).2.2
noncomputable def xeN (T : Int → Int) (n s : Int) (G : Int → Prop) : Int × Int := if pb T n s ≠ 32 then (1, s) else if (nmb T n (s + 1)).1 ≠ 0 then ((nmb T n (s + 1)).1, xeE T n s) else cif (G (xeV T n s)) (if pb T n (xeE T n s) ≠ 32 then (1, xeE T n s) else if (nmb T n (xeE T n s + 1)).1 ≠ 0 then ((nmb T n (xeE T n s + 1)).1, xeF T n s) else if xeT T n s < 0 then (11, xeE T n s + 1) else (0, xeF T n s)) (13, s + 1)
theorem xeN_pos {s : Int} {G : Int → Prop} : 0 ≤ (xeN T n s G).1 := by
  unfold xeN
  split
  · simp
  split
  · exact nmb_pos
  refine cif_P (P := fun x : Int × Int => 0 ≤ x.1) ?_ (by simp)
  split
  · simp
  split
  · exact nmb_pos
  split <;> simp
/-- may the exemplar's number stand here -/
def xeG (w f k : Int) (D : tD) (v : Int) : Prop := (w = 1 ∧ 0 ≤ v) ∨ (w ≠ 1 ∧ (D 1956 15 = 0 ∨ D (aF 1 f + 7) (D 1956 15 - 1) < v) ∧ (D (aF 1 f) 6 ≤ D 1956 15 ∨ v ≤ D (aF 1 f + 7) (D 1956 15)) ∧ 0 < D (aC 1 k + 4) (D 1956 15))
theorem t_148 {f k w v : Int} (h9 : D 1956 9 = w) (hw : w = 1 ∨ w = 3) (h5 : D 1956 5 = aF 1 f) (hf : 0 ≤ f ∧ f < 8) (h6 : D 1956 6 = aC 1 k) (hk : 0 ≤ k ∧ k < 24) (h15 : w = 3 → 0 ≤ D 1956 15 ∧ D 1956 15 ≤ D (aF 1 f) 6 ∧ D (aF 1 f) 6 ≤ 6) (hT : xeG w f k D v → K D 1) (hF : ¬ xeG w f k D v → K D 0) : WP sc 148 0 D [(0, (1209, 1956)), (1, (1, v))] [] K E := by
  have aCb := aC1 k
  have aFb := aF1 f
  refine v148_0 ?_
  rw [h9, h5, h6]
  by_cases w1 : w = 1
  · rw [if_pos w1]
    by_cases z : v < 0
    · rw [if_pos (tlc_n.mpr z)]
      exact hF (fun y => by rcases y with y | y <;> omega)
    · rw [if_neg (fun y => z (tlc_n.mp y))]
      exact hT (Or.inl ⟨w1, by omega⟩)
  rw [if_neg w1]
  obtain ⟨s0, s1, s2⟩ := h15 (by omega)
  have l7 := ln_bnd (s := 1) (Or.inr rfl) (f := f) ⟨hf.1, by omega⟩
  have l4 := ln_cnt (s := 1) (Or.inr rfl) hk
  have cnt : (D 1956 15 = 0 ∨ D (aF 1 f + 7) (D 1956 15 - 1) < v) → (D (aF 1 f) 6 ≤ D 1956 15 ∨ v ≤ D (aF 1 f + 7) (D 1956 15)) → WP sc 34 0 D [(0, (1201, aC 1 k)), (1, (0, D 1956 15))] [] (fun D7 r8 => if 0 < tlc r8 0 then (K D7 1) else (K D7 0)) E := fun g1 g2 => by
    refine v34_0 ?_
    rw [if_neg (by omega), l4, if_pos (by omega)]
    refine ⟨⟨by omega, by omega⟩, ?_⟩
    by_cases z : 0 < D (aC 1 k + 4) (D 1956 15)
    · rw [if_pos (tlc_p.mpr z)]
      exact hT (Or.inr ⟨w1, g1, g2, z⟩)
    · rw [if_neg (fun y => z (tlc_p.mp y))]
      exact hF (fun y => by rcases y with y | y; exact w1 y.1; exact z y.2.2.2)
  have bnd : ∀ {Q : tD → Int → Prop}, D 1956 15 < D (aF 1 f) 6 → Q D (D (aF 1 f + 7) (D 1956 15)) → WP sc 74 0 D [(0, (1204, aF 1 f)), (1, (0, D 1956 15))] [] Q E := fun {Q} lt h => by
    refine v74_0 ?_
    rw [if_neg (by omega), if_pos lt, if_pos (by omega), l7]
    exact ⟨⟨by omega, by omega⟩, h⟩
  by_cases z0 : D 1956 15 = 0
  · rw [if_pos z0, if_neg (by omega)]
    by_cases lt : D 1956 15 < D (aF 1 f) 6
    · rw [if_pos lt, if_neg (by omega)]
      refine bnd lt ?_
      by_cases z : D (aF 1 f + 7) (D 1956 15) < v
      · rw [if_pos (tlc_p.mpr z)]
        exact hF (fun y => by rcases y with y | y; exact w1 y.1; have := y.2.2.1; omega)
      · rw [if_neg (fun y => z (tlc_p.mp y)), h6, if_neg (by omega)]
        exact cnt (Or.inl z0) (Or.inr (by omega))
    · rw [if_neg lt, if_neg (by omega)]
      exact cnt (Or.inl z0) (Or.inl (by omega))
  · rw [if_neg z0, if_neg (by omega), w32_id (x := D 1956 15 - 1) (by omega) (by omega)]
    refine v74_0 ?_
    rw [if_neg (by omega), if_pos (by omega), if_pos (by omega), l7]
    refine ⟨⟨by omega, by omega⟩, ?_⟩
    rw [h5, h6]
    by_cases z : D (aF 1 f + 7) (D 1956 15 - 1) < v
    · rw [if_pos (tlc_p.mpr z), if_neg (by omega)]
      by_cases lt : D 1956 15 < D (aF 1 f) 6
      · rw [if_pos lt, if_neg (by omega)]
        refine bnd lt ?_
        by_cases z2 : D (aF 1 f + 7) (D 1956 15) < v
        · rw [if_pos (tlc_p.mpr z2)]
          exact hF (fun y => by rcases y with y | y; exact w1 y.1; have := y.2.2.1; omega)
        · rw [if_neg (fun y => z2 (tlc_p.mp y)), h6, if_neg (by omega)]
          exact cnt (Or.inr z) (Or.inr (by omega))
      · rw [if_neg lt, if_neg (by omega)]
        exact cnt (Or.inr z) (Or.inl (by omega))
    · rw [if_neg (fun y => z (tlc_p.mp y)), if_neg (by omega)]
      have no : ¬ xeG w f k D v := fun y => by rcases y with y | y; exact w1 y.1; have := y.2.1; omega
      by_cases lt : D 1956 15 < D (aF 1 f) 6
      · rw [if_pos lt, if_neg (by omega)]
        refine bnd lt ?_
        split
        · exact hF no
        · exact hF no
      · rw [if_neg lt]; exact hF no
/-- the class's exemplar has become so -/
def xbP (e v t : Int) (S : List (List Int)) (D D' : tD) : Prop := (D' e 1 = 1 ∧ D' e 2 = v ∧ D' e 3 = t ∧ lsIs D' (e + 1) S) ∧ ∀ x i, x < e ∨ e + 3 < x → D' x i = D x i
theorem t_ex2 {f k w s b : Int} {S : List (List Int)} (hc : cu D 1957 1 T n s) (hS : lsIs D 1959 S) (hl : S.flatten.length ≤ 44) (h9 : D 1956 9 = w) (hw : w = 1 ∨ w = 3) (h5 : D 1956 5 = aF 1 f) (hf : 0 ≤ f ∧ f < 8) (h6 : D 1956 6 = aC 1 k) (hk : 0 ≤ k ∧ k < 24) (hb : 0 ≤ b ∧ b < 7) (h15 : w = 3 → 0 ≤ D 1956 15 ∧ D 1956 15 ≤ D (aF 1 f) 6 ∧ D (aF 1 f) 6 ≤ 6) (hT : (xeN T n s (xeG w f k D)).1 = 0 → ∀ D1 D', (∀ x i, x ≠ 1957 → D1 x i = D x i) → (D1 1957 0 = D 1957 0 ∧ D1 1957 1 = xeF T n s ∧ D1 1957 2 = D 1957 2 ∧ D1 1957 3 = D 1957 3) → xbP (aX 1 k b) (xeV T n s) (xeT T n s) S D1 D' → K D' 1) (hN : (xeN T n s (xeG w f k D)).1 ≠ 0 → ∀ D', D' 1957 2 = (xeN T n s (xeG w f k D)).1 → D' 1957 3 = (xeN T n s (xeG w f k D)).2 → frZ D D' → K D' 0) : WP sc 147 0 D [(0, (1209, 1956)), (1, (1203, aX 1 k b))] [] K E := by
  have cc := hc.2
  have aCb := aC1 k
  have aFb := aF1 f
  have eX : aX 1 k b = aC 1 k + 6 + 4 * b := by unfold aX aC; omega
  unfold xeN at hT hN
  refine v147_0 (t_expect hc (fun e1 => ?_) (fun e1 => ?_))
  rotate_left
  · rw [if_pos rfl]
    rw [if_pos e1] at hN
    exact hN (show (1 : Int) ≠ 0 from by decide) _ fc_2 fc_3 frZ_fc
  rw [if_neg (show ¬ (1 : Int) = 0 by decide)]
  rw [if_neg (fun y => y e1)] at hT hN
  have sn := pb_lt e1 (by omega)
  have hc1 := cu_wr hc (b := s + 1) ⟨by omega, by omega⟩
  refine t_num hc1 (fun e2 => ?_) (fun e2 D' d1 d2 d3 => ?_)
  rotate_left
  · rw [if_pos rfl]
    rw [if_pos e2] at hN
    refine hN e2 D' d1 d2 (fun x j u => ?_)
    rw [d3 x j (by omega)]; exact frZ_wr (by omega) x j u
  rw [if_neg (show ¬ (1 : Int) = 0 by decide)]
  rw [if_neg (fun y => y e2)] at hT hN
  obtain ⟨q1, q2⟩ := nmb_end2 e2 ⟨by omega, by omega⟩
  have ee : (nmb T n (s + 1)).2.2 = xeE T n s := rfl
  have ev : (nmb T n (s + 1)).2.1 = xeV T n s := rfl
  rw [ee] at q1 q2 ⊢
  rw [ev]
  rw [wr_wr]
  have e14 : (wr (wr D 1957 1 (xeE T n s)) 1957 4 (xeV T n s)) 1957 4 = xeV T n s := wr_self
  rw [e14, show (wr D 1957 1 (s + 1)) 1957 1 = s + 1 from wr_self]
  generalize hD4 : wr (wr D 1957 1 (xeE T n s)) 1957 4 (xeV T n s) = D4
  have o4 : ∀ x i, x ≠ 1957 → D4 x i = D x i := fun x i u => by rw [← hD4, wr_ne u, wr_ne u]
  have o4c : ∀ i, i ≠ 1 → i ≠ 4 → D4 1957 i = D 1957 i := fun i u v => by rw [← hD4, wr_ni v, wr_ni u]
  have c4 : cu D4 1957 1 T n (xeE T n s) := cu_to hc ⟨by omega, q2⟩ (o4c _ (by omega) (by omega)) (by rw [← hD4, wr_ni (by omega), wr_self]) (fun x j u => o4 _ _ (by omega))
  have z4 : frZ D D4 := fun x j u => by
    by_cases y : x = 1957
    · subst y; exact o4c j (by omega) (by omega)
    · exact o4 x j y
  have eg : ∀ v, xeG w f k D4 v ↔ xeG w f k D v := fun v => by
    unfold xeG
    rw [o4 1956 15 (by omega), o4 (aF 1 f + 7) _ (by omega), o4 (aF 1 f + 7) _ (by omega), o4 (aF 1 f) 6 (by omega), o4 (aC 1 k + 4) _ (by omega)]
  refine t_148 (f := f) (k := k) (w := w) (by rw [o4 _ _ (by omega)]; exact h9) hw (by rw [o4 _ _ (by omega)]; exact h5) hf (by rw [o4 _ _ (by omega)]; exact h6) hk (fun y => by rw [o4 _ _ (by omega), o4 _ _ (by omega)]; exact h15 y) (fun g => ?_) (fun g => ?_)
  rotate_left
  · rw [if_pos rfl]
    rw [cif_neg (fun y => g ((eg _).mpr y))] at hN
    exact t_fc (hN (show (13 : Int) ≠ 0 from by decide) _ fc_2 fc_3 (frZ_tr z4 frZ_fc))
  rw [if_neg (show ¬ (1 : Int) = 0 by decide)]
  rw [cif_pos ((eg _).mp g)] at hT hN
  refine t_expect c4 (fun e3 => ?_) (fun e3 => ?_)
  rotate_left
  · rw [if_pos rfl]
    rw [if_pos e3] at hN
    exact hN (show (1 : Int) ≠ 0 from by decide) _ fc_2 fc_3 (frZ_tr z4 frZ_fc)
  rw [if_neg (show ¬ (1 : Int) = 0 by decide)]
  rw [if_neg (fun y => y e3)] at hT hN
  have en := pb_lt e3 (by omega)
  have c5 := cu_wr c4 (b := xeE T n s + 1) ⟨by omega, by omega⟩
  refine t_num c5 (fun e4 => ?_) (fun e4 D' d1 d2 d3 => ?_)
  rotate_left
  · rw [if_pos rfl]
    rw [if_pos e4] at hN
    refine hN e4 D' d1 d2 (frZ_tr z4 (fun x j u => ?_))
    rw [d3 x j (by omega)]; exact frZ_wr (by omega) x j u
  rw [if_neg (show ¬ (1 : Int) = 0 by decide)]
  rw [if_neg (fun y => y e4)] at hT hN
  obtain ⟨q3, q4⟩ := nmb_end2 e4 ⟨by omega, by omega⟩
  have ee2 : (nmb T n (xeE T n s + 1)).2.2 = xeF T n s := rfl
  have ev2 : (nmb T n (xeE T n s + 1)).2.1 = xeT T n s := rfl
  rw [ee2] at q3 q4 ⊢
  rw [ev2, wr_wr]
  have e24 : (wr (wr D4 1957 1 (xeF T n s)) 1957 4 (xeT T n s)) 1957 4 = xeT T n s := wr_self
  rw [e24, show (wr D4 1957 1 (xeE T n s + 1)) 1957 1 = xeE T n s + 1 from wr_self]
  generalize hD6 : wr (wr D4 1957 1 (xeF T n s)) 1957 4 (xeT T n s) = D6
  have o6 : ∀ x i, x ≠ 1957 → D6 x i = D x i := fun x i u => by rw [← hD6, wr_ne u, wr_ne u, o4 x i u]
  have o6c : ∀ i, i ≠ 1 → i ≠ 4 → D6 1957 i = D 1957 i := fun i u v => by rw [← hD6, wr_ni v, wr_ni u, o4c i u v]
  have o61 : D6 1957 1 = xeF T n s := by rw [← hD6, wr_ni (by omega), wr_self]
  have z6 : frZ D D6 := fun x j u => by
    by_cases y : x = 1957
    · subst y; exact o6c j (by omega) (by omega)
    · exact o6 x j y
  by_cases z : xeT T n s < 0
  · rw [if_pos (tlc_n.mpr z)]
    rw [if_pos z] at hN
    exact t_fc (hN (show (11 : Int) ≠ 0 from by decide) _ fc_2 fc_3 (frZ_tr z6 frZ_fc))
  rw [if_neg (fun y => z (tlc_n.mp y))]
  rw [if_neg z] at hT
  refine v53_0 ?_
  have l3 := ln_ex (s := 1) (Or.inr rfl) hk hb
  have hS6 : lsIs (wr D6 (aX 1 k b) 1 1) 1959 S := lsIs_fr2 hS (fun x j u => by rw [wr_ne (by omega), o6 x j (by omega)])
  refine c_lsbec (a0 := aX 1 k b + 1) hS6 ⟨by rw [show aX 1 k b + 1 + 2 = aX 1 k b + 3 from by omega, l3]; omega, by rw [show aX 1 k b + 1 + 2 = aX 1 k b + 3 from by omega, l3]; omega, by rw [show ln (1959 + 2) = 66 from rfl]; omega⟩ (by omega) (fun D7 g1 g2 g3 => ?_)
  refine hT rfl D6 _ o6 ⟨o6c _ (by omega) (by omega), o61, o6c _ (by omega) (by omega), o6c _ (by omega) (by omega)⟩ ⟨⟨?_, ?_, wr_self, ?_⟩, fun x i u => ?_⟩
  · rw [wr_ni (by omega), wr_ni (by omega), g2 _ _ (by omega), wr_self]
  · rw [wr_ni (by omega), wr_self]
  · exact lsIs_fr2 g1 (fun x j u => by rw [wr_ne (by omega), wr_ne (by omega)])
  · rw [wr_ne (by omega), wr_ne (by omega), g2 _ _ (by omega), wr_ne (by omega)]
/-- the other side's sample kept -/
def xkM (q v t : Int) (l : List Int) (A A' : tD) : Prop := (A' 2003 q = 1 ∧ A' 2004 q = v ∧ A' 2005 q = t ∧ A' 2007 q = (l.length : Int) ∧ atL A' 2006 (44 * q) l) ∧ (∀ a j, a = 2003 ∨ a = 2004 ∨ a = 2005 ∨ a = 2007 → j ≠ q → A' a j = A a j) ∧ (∀ j, ¬ (44 * q ≤ j ∧ j < 44 * q + 44) → A' 2006 j = A 2006 j) ∧ ∀ a j, a < 2003 ∨ 2007 < a → A' a j = A a j
theorem u_ex2 {k w s b br : Int} {l : List Int} {G : Int → Prop} (hm : mu A T n s) (hM : setIs A l) (h63 : A 1977 63 ≤ 40) (hl : l.length ≤ 44) (hw : w = 1 ∨ w = 3) (h50 : A 1977 50 = 24 + k) (hk : 0 ≤ k ∧ k < 24) (hb : (w = 1 ∧ b = 0) ∨ (w = 3 ∧ A 1977 53 = b + 1 ∧ 0 ≤ b ∧ b < 7)) (h67 : w = 3 → (A 1977 67 = 0 ∨ A 1977 67 = 1) ∧ (A 1977 71 = 0 ∨ A 1977 71 = 1)) (hG : ∀ v, G v ↔ ((w = 1 ∧ 0 ≤ v) ∨ (w = 3 ∧ A 1977 71 = 1 ∧ (A 1977 53 = 1 ∨ A 1977 69 < v) ∧ (A 1977 67 = 1 ∨ v ≤ A 1977 68)))) (hT : (xeN T n s G).1 = 0 → ∀ A1 A', (∀ x i, x ≠ 1977 → A1 x i = A x i) → (∀ i, i ≠ 47 → i ≠ 58 → A1 1977 i = A 1977 i) → A1 1977 47 = xeF T n s → xkM (7 * (24 + k) + b) (xeV T n s) (xeT T n s) l A1 A' → K A' 1) (hN : (xeN T n s G).1 ≠ 0 → ∀ A', A' 1977 45 = (xeN T n s G).1 → A' 1977 46 = (xeN T n s G).2 → frV A A' → A' 1977 22 = A 1977 22 → K A' 0) : WP sc 282 97 A [(0, (1211, 1977)), (1, (0, w)), (2, (0, br))] [] K E := by
  have cm := hm.2
  have m45 := hm.1.2.2
  have fl22' : ∀ (A1 : tD) cd q, (fl A1 cd q) 1977 22 = A1 1977 22 := fun A1 cd q => by
    unfold fl
    rw [wr_ni (by omega), wr_ni (by omega)]
  unfold xeN at hT hN
  refine v282_97 ?_
  rw [if_neg (by omega)]
  refine u_expects hm (fun e1 => ?_) (fun e1 => ?_)
  rotate_left
  · rw [if_pos rfl]
    rw [if_pos e1] at hN
    exact hN (show (1 : Int) ≠ 0 from by decide) _ fl_45 fl_46 frV_fl (fl22' _ _ _)
  rw [if_neg (show ¬ (1 : Int) = 0 by decide)]
  rw [if_neg (fun y => y e1)] at hT hN
  have sn := pb_lt e1 (by omega)
  have hm1 := mu_wr hm (b := s + 1) ⟨by omega, by omega⟩
  refine u_num hm1 (fun e2 => ?_) (fun e2 A' a1 a2 a3 => ?_)
  rotate_left
  · rw [if_pos rfl]
    rw [if_pos e2] at hN
    refine hN e2 A' a1 a2 (fun x j u => ?_) (by rw [a3 _ _ (by omega), wr_ni (by omega)])
    rw [a3 x j (by omega)]; exact frV_wr (by omega) x j u
  rw [if_neg (show ¬ (1 : Int) = 0 by decide)]
  rw [if_neg (fun y => y e2)] at hT hN
  obtain ⟨q1, q2⟩ := nmb_end2 e2 ⟨by omega, by omega⟩
  have ee : (nmb T n (s + 1)).2.2 = xeE T n s := rfl
  have ev : (nmb T n (s + 1)).2.1 = xeV T n s := rfl
  rw [ee] at q1 q2 ⊢
  rw [ev, wr_wr, show (wr A 1977 47 (s + 1)) 1977 47 = s + 1 from wr_self]
  have e58 : (wr (wr A 1977 47 (xeE T n s)) 1977 58 (xeV T n s)) 1977 58 = xeV T n s := wr_self
  rw [e58]
  generalize hA4 : wr (wr A 1977 47 (xeE T n s)) 1977 58 (xeV T n s) = A4
  have o4 : ∀ x i, x ≠ 1977 → A4 x i = A x i := fun x i u => by rw [← hA4, wr_ne u, wr_ne u]
  have o47 : ∀ i, i ≠ 47 → i ≠ 58 → A4 1977 i = A 1977 i := fun i u v => by rw [← hA4, wr_ni v, wr_ni u]
  have r47 : A4 1977 47 = xeE T n s := by rw [← hA4, wr_ni (by omega), wr_self]
  have m4 : mu A4 T n (xeE T n s) := mu_to hm ⟨by omega, q2⟩ r47 (o47 _ (by omega) (by omega)) (o47 _ (by omega) (by omega)) (fun j => o4 _ _ (by omega))
  have V4 : frV A A4 := fun x j u => by
    by_cases y : x = 1977
    · subst y; exact o47 j (by omega) (by omega)
    · exact o4 x j y
  have f45 : A4 1977 45 = 0 := m4.1.2.2
  have bad13 : ¬ G (xeV T n s) → WP sc 251 0 A4 [(0, (1211, 1977)), (1, (0, 13)), (2, (0, s + 1))] [] (fun D10 r11 => tbl r11 (K D10 r11)) E := fun g => by
    rw [cif_neg g] at hN
    exact u_fails f45 (hN (show (13 : Int) ≠ 0 from by decide) _ fl_45 fl_46 (frV_tr V4 frV_fl) (by rw [fl22']; exact o47 _ (by omega) (by omega)))
  have go : ∀ x6, x6 = 7 * (24 + k) + b → G (xeV T n s) → WP sc 253 0 A4 [(0, (1211, 1977)), (1, (0, 32))] [] (fun D4 r5 => if r5 = 0 then (K D4 0) else (WP sc 257 0 D4 [(0, (1211, 1977))] [] (fun D7 r8 => if r8 = 0 then (K D7 0) else (if tlc (D7 1977 58) 0 < 0 then (WP sc 251 0 D7 [(0, (1211, 1977)), (1, (0, 11)), (2, (0, D4 1977 47))] [] (fun D10 r11 => tbl r11 (K D10 r11)) E) else (WP sc 223 0 D7 [(0, (1211, 1977)), (1, (0, x6)), (2, (1, xeV T n s)), (4, (1, D7 1977 58))] [] (fun D13 _ => K D13 1) E))) E)) E := fun x6 hx6 g => by
    rw [cif_pos g] at hT hN
    refine u_expects m4 (fun e3 => ?_) (fun e3 => ?_)
    rotate_left
    · rw [if_pos rfl]
      rw [if_pos e3] at hN
      exact hN (show (1 : Int) ≠ 0 from by decide) _ fl_45 fl_46 (frV_tr V4 frV_fl) (by rw [fl22']; exact o47 _ (by omega) (by omega))
    rw [if_neg (show ¬ (1 : Int) = 0 by decide)]
    rw [if_neg (fun y => y e3)] at hT hN
    have en := pb_lt e3 (by omega)
    have m5 := mu_wr m4 (b := xeE T n s + 1) ⟨by omega, by omega⟩
    refine u_num m5 (fun e4 => ?_) (fun e4 A' a1 a2 a3 => ?_)
    rotate_left
    · rw [if_pos rfl]
      rw [if_pos e4] at hN
      refine hN e4 A' a1 a2 (frV_tr V4 (fun x j u => ?_)) (by rw [a3 _ _ (by omega), wr_ni (by omega)]; exact o47 _ (by omega) (by omega))
      rw [a3 x j (by omega)]; exact frV_wr (by omega) x j u
    rw [if_neg (show ¬ (1 : Int) = 0 by decide)]
    rw [if_neg (fun y => y e4)] at hT hN
    have ee2 : (nmb T n (xeE T n s + 1)).2.2 = xeF T n s := rfl
    have ev2 : (nmb T n (xeE T n s + 1)).2.1 = xeT T n s := rfl
    rw [ee2, ev2, wr_wr, show (wr A4 1977 47 (xeE T n s + 1)) 1977 47 = xeE T n s + 1 from wr_self]
    have e58 : (wr (wr A4 1977 47 (xeF T n s)) 1977 58 (xeT T n s)) 1977 58 = xeT T n s := wr_self
    rw [e58]
    generalize hA6 : wr (wr A4 1977 47 (xeF T n s)) 1977 58 (xeT T n s) = A6
    have o6 : ∀ x i, x ≠ 1977 → A6 x i = A x i := fun x i u => by rw [← hA6, wr_ne u, wr_ne u, o4 x i u]
    have o67 : ∀ i, i ≠ 47 → i ≠ 58 → A6 1977 i = A 1977 i := fun i u v => by rw [← hA6, wr_ni v, wr_ni u, o47 i u v]
    have s47 : A6 1977 47 = xeF T n s := by rw [← hA6, wr_ni (by omega), wr_self]
    have V6 : frV A A6 := fun x j u => by
      by_cases y : x = 1977
      · subst y; exact o67 j (by omega) (by omega)
      · exact o6 x j y
    by_cases z : xeT T n s < 0
    · rw [if_pos (tlc_n.mpr z)]
      rw [if_pos z] at hN
      exact u_fails (by rw [o67 _ (by omega) (by omega)]; exact m45) (hN (show (11 : Int) ≠ 0 from by decide) _ fl_45 fl_46 (frV_tr V6 frV_fl) (by rw [fl22']; exact o67 _ (by omega) (by omega)))
    rw [if_neg (fun y => z (tlc_n.mp y))]
    rw [if_neg z] at hT
    refine m_ksamp (l := l) (by omega) ⟨by rw [o67 _ (by omega) (by omega)]; exact hM.1, atL_fr (fun j _ _ => o6 _ _ (by omega)) hM.2⟩ hl (fun A7 g1 g2 g3 g4 g5 g6 g7 g8 => ?_)
    rw [hx6] at g1 g2 g3 g4 g5 g6 g7
    exact hT rfl A6 A7 o6 o67 s47 ⟨⟨g1, g2, g3, g4, g5⟩, g6, g7, g8⟩
  by_cases w1 : w = 1
  · rw [if_pos w1, if_pos w1]
    by_cases z : xeV T n s < 0
    · rw [if_pos (tlc_n.mpr z)]
      exact bad13 (fun y => by have := (hG _).mp y; omega)
    · rw [if_neg (fun y => z (tlc_n.mp y)), o47 50 (by omega) (by omega), h50, w32_id (x := 7 * (24 + k)) (by omega) (by omega)]
      exact go _ (by omega) ((hG _).mpr (Or.inl ⟨w1, by omega⟩))
  have w3 : w = 3 := by omega
  rw [if_neg w1, if_neg w1]
  obtain ⟨d67, d71⟩ := h67 w3
  intro _
  rw [o47 71 (by omega) (by omega), o47 53 (by omega) (by omega), o47 50 (by omega) (by omega), o47 69 (by omega) (by omega), h50]
  by_cases z7 : A 1977 71 = 0
  · rw [if_pos z7]
    exact bad13 (fun y => by have := (hG _).mp y; omega)
  rw [if_neg z7]
  have bb : A 1977 53 = b + 1 ∧ 0 ≤ b ∧ b < 7 := by omega
  have t221 : (A 1977 53 = 1 ∨ A 1977 69 < xeV T n s) → WP sc 282 221 A4 [(0, (1211, 1977)), (3, (0, s + 1)), (4, (1, xeV T n s)), (6, (0, 7 * (24 + k) + b))] [] K E := fun hb2 => by
    refine v282_221 (fun _ => ?_)
    rw [o47 67 (by omega) (by omega), o47 68 (by omega) (by omega)]
    by_cases y7 : A 1977 67 = 0
    · rw [if_pos y7]
      by_cases y8 : A 1977 68 < xeV T n s
      · rw [if_pos (tlc_p.mpr y8)]
        exact bad13 (fun y => by have := (hG _).mp y; omega)
      · rw [if_neg (fun y => y8 (tlc_p.mp y))]
        exact go _ rfl ((hG _).mpr (Or.inr ⟨w3, by omega, hb2, Or.inr (by omega)⟩))
    · rw [if_neg y7]
      exact go _ rfl ((hG _).mpr (Or.inr ⟨w3, by omega, hb2, Or.inl (by omega)⟩))
  rw [bb.1, w32_id (x := 7 * (24 + k)) (by omega) (by omega), w32_id (x := 7 * (24 + k) + (b + 1)) (by omega) (by omega), w32_id (x := 7 * (24 + k) + (b + 1) - 1) (by omega) (by omega), show 7 * (24 + k) + (b + 1) - 1 = 7 * (24 + k) + b from by omega]
  by_cases y1 : b + 1 = 1
  · rw [if_pos y1]; exact t221 (Or.inl (by omega))
  rw [if_neg y1]
  by_cases y2 : A 1977 69 < xeV T n s
  · rw [if_pos (tlc_p.mpr y2)]; exact t221 (Or.inr y2)
  · rw [if_neg (fun y => y2 (tlc_p.mp y))]
    exact bad13 (fun y => by have := (hG _).mp y; omega)
end EXM
