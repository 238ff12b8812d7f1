/-! reading a sample: its exemplar, both sides -/
section EXO
variable {sc : Nat × (Nat → Int32)} {D D' D1 A A' A1 A0 D0 : tD} {K : tD → Int → Prop} {E : tD → Nat → Prop} {T : Int → Int} {n c : Int}
theorem MS_ex {B f k b v t : Int} {S : List (List Int)} (h : MS c B f k D A) (hb : 0 ≤ b ∧ b < 7) (hD1 : ∀ x i, x < 1957 → D1 x i = D x i) (hx : xbP (aX 1 k b) v t S D1 D') (hA1 : ∀ x i, 1978 ≤ x → x ≤ 2008 → A1 x i = A x i) (hA7 : ∀ j, j = 22 ∨ j = 48 ∨ j = 50 → A1 1977 j = A 1977 j) (hm : xkM (7 * (24 + k) + b) v t S.flatten A1 A') (hs : srtL S) (hl : S.flatten.length ≤ 44) (hv : numP v) (ht : 0 ≤ t ∧ t ≤ 2000000000000000) : MS c B f k D' A' := by
  have aCb := aC1 k
  have aFb := aF1 f
  have f1 := h.2.1.1
  have kk := h.2.2.1.1
  have k3 := h.2.2.1.2.2.2.1
  have k4 := h.2.2.1.2.2.2.2
  have eX : ∀ b, aX 1 k b = aC 1 k + 6 + 4 * b := fun b => by unfold aX aC; omega
  have eb := eX b
  have e24 : (24 : Int) * 1 + k = 24 + k := by omega
  obtain ⟨⟨x1, x2, x3, x4⟩, xo⟩ := hx
  obtain ⟨⟨m1, m2, m3, m4, m5⟩, mo, m6, mr⟩ := hm
  have L : ∀ x i, x < 1957 → mx D' A' x i = D' x i := fun x i u => mx_lo (by omega)
  have H : ∀ x i, 1977 ≤ x → mx D' A' x i = A' x i := fun x i u => mx_hi u
  have oldL : ∀ x i, x < 1957 → mx D A x i = D x i := fun x i u => mx_lo (by omega)
  have oldH : ∀ x i, 1977 ≤ x → mx D A x i = A x i := fun x i u => mx_hi u
  have slo : ∀ x i, x < 1957 → x < aX 1 k b ∨ aX 1 k b + 3 < x → mx D' A' x i = mx D A x i := fun x i u y => by rw [L _ _ u, oldL _ _ u, xo x i y]; exact hD1 x i u
  have shi : ∀ x i, 1978 ≤ x → x < 2003 ∨ (2007 < x ∧ x ≤ 2008) → mx D' A' x i = mx D A x i := fun x i u y => by rw [H _ _ (by omega), oldH _ _ (by omega), mr x i (by omega)]; exact hA1 x i u (by omega)
  have sh3 : ∀ x i, x = 2003 ∨ x = 2004 ∨ x = 2005 ∨ x = 2007 → i ≠ 7 * (24 + k) + b → mx D' A' x i = mx D A x i := fun x i u y => by rw [H _ _ (by omega), oldH _ _ (by omega), mo x i u y]; exact hA1 x i (by omega) (by omega)
  have sh6 : ∀ i, ¬ (44 * (7 * (24 + k) + b) ≤ i ∧ i < 44 * (7 * (24 + k) + b) + 44) → mx D' A' 2006 i = mx D A 2006 i := fun i y => by rw [H _ _ (by omega), oldH _ _ (by omega), m6 i y]; exact hA1 _ i (by omega) (by omega)
  have oc : chR c (mx D A) 1 k := ((h.1.1.1.2.2.1 k kk.1 kk.2.1).2.2) (by rw [oldL _ _ (by omega)]; exact k3)
  have nc : chR c (mx D' A') 1 k := by
    have oc' := oc
    obtain ⟨_, _, a5, _, a7, aK, aX8⟩ := oc
    refine chR_mk (D := mx D A) (slo _ _ (by omega) (by omega)) ⟨slo _ _ (by omega) (by omega), slo _ _ (by omega) (by omega)⟩ (fun x i u v => slo _ _ (by omega) (by omega)) (fun x i u => shi _ _ (by omega) (by omega)) ?_ ?_ ?_ ?_ oc'
    · unfold chN
      rw [slo _ _ (by omega) (by omega), shi _ _ (by omega) (by omega)]; exact a5
    · unfold chS
      rw [slo _ _ (by omega) (by omega), shi _ _ (by omega) (by omega)]; exact a7
    · intro b' u v
      have q := aK b' u v
      rw [slo (aC 1 k + 4) _ (by omega) (by omega), shi 2002 _ (by omega) (by omega), slo (aC 1 k) 4 (by omega) (by omega), oldL (aC 1 k) 4 (by omega), k4, slo (aF 1 f) 5 (by omega) (by omega), slo (aF 1 f) 6 (by omega) (by omega)]
      rw [oldL (aC 1 k) 4 (by omega), k4] at q
      exact q
    · intro b' u v
      by_cases z : b' = b
      · subst z
        rw [e24]
        refine exR_new (S := S) (t := t) ?_ ?_ ?_ ?_ hs hl ?_ ?_ ?_ ?_ ?_ hv ht
        · rw [L _ _ (by omega)]; exact x1
        · rw [L _ _ (by omega)]; exact x2
        · rw [L _ _ (by omega)]; exact x3
        · exact lsIs_fr2 x4 (fun x i w => L _ _ (by omega))
        · rw [H _ _ (by omega)]; exact m1
        · rw [H _ _ (by omega)]; exact m2
        · rw [H _ _ (by omega)]; exact m3
        · rw [H _ _ (by omega)]; exact m4
        · exact atL_fr (fun i _ _ => H _ _ (by omega)) m5
      · have e2 := eX b'
        refine exR_fr2 (D := mx D A) (fun x i w => ?_) (aX8 b' u v)
        rw [e24] at w
        rcases w with w | w | w
        · exact slo x i (by omega) (by omega)
        · exact sh3 x i w.1 (by omega)
        · rw [w.1]; exact sh6 i (by omega)
  have lo' : ∀ x i, x < 1957 → x < aX 1 k b ∨ aX 1 k b + 3 < x → D' x i = D x i := fun x i u y => by rw [xo x i y]; exact hD1 x i u
  refine MS_to h ?_ (fun i u => lo' _ _ (by omega) (by omega)) (fun i i2 u y z => by have := aC1 i; exact lo' _ _ (by omega) (by omega)) (fun j u => lo' _ _ (by omega) (by omega)) (fun j u => by rw [mr _ _ (by omega)]; exact hA7 j u)
  refine shR_chl (D := mx D A) (k := k) (Or.inr rfl) ⟨kk.1, kk.2.1⟩ (Int.le_refl _) (slo _ _ (by omega) (by omega)) (fun _ => nc) (fun x i u1 u2 => ?_) h.1.1.1
  have n1 : ¬ (aC 1 k ≤ x ∧ x ≤ aC 1 k + 33) := fun w => u2 (Or.inl w)
  by_cases z : x < 1957
  · exact slo x i z (by omega)
  have z7 : x = 1977 ∨ (1978 ≤ x ∧ x ≤ 2007) := by rcases u1 with w | w | w | w | w | w | w <;> omega
  rcases z7 with z7 | z7
  · subst z7
    rw [H _ _ (by omega), oldH _ _ (by omega), mr _ _ (by omega)]
    refine hA7 i ?_
    rcases u1 with w | w | w | w | w | w | w <;> omega
  by_cases z3 : x = 2003 ∨ x = 2004 ∨ x = 2005 ∨ x = 2007
  · exact sh3 x i z3 (fun w => u2 (Or.inr (Or.inr (Or.inr (Or.inl ⟨by omega, by omega, by omega⟩)))))
  by_cases z6 : x = 2006
  · subst z6
    exact sh6 i (fun w => u2 (Or.inr (Or.inr (Or.inr (Or.inr ⟨rfl, by omega, by omega⟩)))))
  · exact shi x i z7.1 (by omega)
theorem PV_to {p p' B f k w : Int} (h : PV c T n p B f k w D A) (hM : MS c B f k D' A') (hQ : MQp T n p' D' A') (hD : ∀ x i, x = 1956 ∨ (aF 1 f ≤ x ∧ x ≤ aF 1 f + 7) ∨ (x = aC 1 k ∧ i = 7) ∨ x = aC 1 k + 4 → D' x i = D x i) (hA : ∀ i, (51 ≤ i ∧ i ≤ 55) ∨ (67 ≤ i ∧ i ≤ 71) → A' 1977 i = A 1977 i) : PV c T n p' B f k w D' A' := by
  obtain ⟨_, ⟨_, hN⟩, hK⟩ := h
  have eF : ∀ i, D' (aF 1 f) i = D (aF 1 f) i := fun i => hD _ _ (by omega)
  have e7 : ∀ i, D' (aF 1 f + 7) i = D (aF 1 f + 7) i := fun i => hD _ _ (by omega)
  have eR : ∀ i, D' 1956 i = D 1956 i := fun i => hD _ _ (by omega)
  have eC : ∀ i, D' (aC 1 k + 4) i = D (aC 1 k + 4) i := fun i => hD _ _ (by omega)
  have eS : D' (aC 1 k) 7 = D (aC 1 k) 7 := hD _ _ (by omega)
  refine ⟨hQ, ⟨hM, ?_⟩, ?_⟩
  · unfold MN at hN ⊢
    rw [eR, eR, eR, eF, hA 53 (by omega), hA 55 (by omega)]; exact hN
  · unfold KV cz bz at hK ⊢
    simp only [eR, eF, e7, eC, eS, hA 51 (by omega), hA 52 (by omega), hA 54 (by omega), hA 67 (by omega), hA 68 (by omega), hA 69 (by omega), hA 71 (by omega)]
    exact hK
/-- the labels of an exemplar -/
noncomputable def xeL (T : Int → Int) (n b : Int) : Int × Int × List (List Int) × Option (Int × List Int) := if pb T n b = 125 then (0, b + 1, [], none) else lbs T n 0 [] 2 4 b [] none
theorem xeL_pos {b : Int} : 0 ≤ (xeL T n b).1 := by
  unfold xeL
  split
  · simp
  · exact lbs_pos _ _ _ _
theorem xeL_ok {b : Int} (hb : 0 ≤ b ∧ b ≤ n) (h : (xeL T n b).1 = 0) : (b ≤ (xeL T n b).2.1 ∧ (xeL T n b).2.1 ≤ n) ∧ lsO 2 (xeL T n b).2.2.1 (xeL T n b).2.2.2 := by
  unfold xeL at h ⊢
  by_cases z : pb T n b = 125
  · rw [if_pos z]
    have := pb_lt z (by omega)
    exact ⟨⟨by show b ≤ b + 1; omega, by show b + 1 ≤ n; omega⟩, lsO_nil (by omega)⟩
  · rw [if_neg z] at h ⊢
    exact lbs_ok 4 b [] none h hb (lsO_nil (by omega))
theorem u_ex1 {p w : Int} (hm : mu A T n p) (h32 : pb T n p = 32) (h1 : pb T n (p + 1) ≠ 35 → K (fl (wr A 1977 47 (p + 1)) 1 (p + 1)) 0) (h2 : pb T n (p + 1) = 35 → pb T n (p + 2) ≠ 32 → K (fl (wr A 1977 47 (p + 2)) 1 (p + 2)) 0) (h3 : pb T n (p + 1) = 35 → pb T n (p + 2) = 32 → pb T n (p + 3) ≠ 123 → K (fl (wr A 1977 47 (p + 3)) 1 (p + 3)) 0) (hN : pb T n (p + 1) = 35 → pb T n (p + 2) = 32 → pb T n (p + 3) = 123 → (xeL T n (p + 4)).1 ≠ 0 → ∀ A', A' 1977 45 = (xeL T n (p + 4)).1 → A' 1977 46 = (xeL T n (p + 4)).2.1 → frV A A' → A' 1977 22 = A 1977 22 → K A' 0) (hT : pb T n (p + 1) = 35 → pb T n (p + 2) = 32 → pb T n (p + 3) = 123 → (xeL T n (p + 4)).1 = 0 → ∀ A', lrM A' T n (xeL T n (p + 4)).2.1 (xeL T n (p + 4)).2.2.1 (xeL T n (p + 4)).2.2.2 → frX A A' → WP sc 282 97 A' [(0, (1211, 1977)), (1, (0, w)), (2, (0, p + 3))] [] K E) : WP sc 282 0 A [(0, (1211, 1977)), (1, (0, w))] [] K E := by
  have cm := hm.2
  have b0 := pb_lt h32 (by omega)
  refine v282_0 (u_expects hm (fun _ => ?_) (fun y => absurd h32 y))
  rw [if_neg (show ¬ (1 : Int) = 0 by decide)]
  refine u_expects (mu_wr hm (b := p + 1) ⟨by omega, by omega⟩) (fun e1 => ?_) (fun e1 => ?_)
  rotate_left
  · rw [if_pos rfl]; exact h1 e1
  have b1 := pb_lt e1 (by omega)
  rw [if_neg (show ¬ (1 : Int) = 0 by decide), wr_wr, show p + 1 + 1 = p + 2 from by omega]
  refine u_expects (mu_wr hm (b := p + 2) ⟨by omega, by omega⟩) (fun e2 => ?_) (fun e2 => ?_)
  rotate_left
  · rw [if_pos rfl]; exact h2 e1 e2
  have b2 := pb_lt e2 (by omega)
  rw [if_neg (show ¬ (1 : Int) = 0 by decide), wr_wr, show p + 2 + 1 = p + 3 from by omega, show (wr A 1977 47 (p + 3)) 1977 47 = p + 3 from wr_self]
  refine u_expects (mu_wr hm (b := p + 3) ⟨by omega, by omega⟩) (fun e3 => ?_) (fun e3 => ?_)
  rotate_left
  · rw [if_pos rfl]; exact h3 e1 e2 e3
  have b3 := pb_lt e3 (by omega)
  rw [if_neg (show ¬ (1 : Int) = 0 by decide), wr_wr, show p + 3 + 1 = p + 4 from by omega]
  have m4 := mu_wr hm (b := p + 4) ⟨by omega, by omega⟩
  have l0 := lrM_new m4
  have f0 : frX A (wr (wr (wr (wr (wr A 1977 47 (p + 4)) 1977 37 0) 1977 62 0) 1977 63 0) 1977 64 0) := frX_tr (frX_wr (by omega)) (frX_tr (frX_wr (by omega)) (frX_tr (frX_wr (by omega)) (frX_tr (frX_wr (by omega)) (frX_wr (by omega)))))
  generalize wr (wr (wr (wr (wr A 1977 47 (p + 4)) 1977 37 0) 1977 62 0) 1977 63 0) 1977 64 0 = A1 at *
  refine u_peek l0.1 ?_
  by_cases e5 : pb T n (p + 4) = 125
  · have eL : xeL T n (p + 4) = (0, p + 4 + 1, [], none) := by unfold xeL; rw [if_pos e5]
    rw [eL] at hT
    have b4 := pb_lt e5 (by omega)
    rw [if_pos e5, l0.1.1.1, w32_id (x := p + 4 + 1) (by omega) (by omega)]
    exact hT e1 e2 e3 rfl _ (lrM_wr l0 ⟨by omega, by omega⟩) (frX_tr f0 (frX_wr (by omega)))
  · have eL : xeL T n (p + 4) = lbs T n 0 [] 2 4 (p + 4) [] none := by unfold xeL; rw [if_neg e5]
    rw [eL] at hT hN
    rw [if_neg e5]
    refine u_labs (x1 := -1) (kd := 0) (most := 2) (nF := []) (Or.inr (Or.inr ⟨by omega, by omega, rfl⟩)) (Or.inl ⟨by omega, rfl⟩) l0 (fun e6 A2 l2 f2 => ?_) (fun e6 A2 q1 q2 f2 => ?_)
    · rw [if_neg (show ¬ (1 : Int) = 0 by decide)]
      exact hT e1 e2 e3 e6 A2 l2 (frX_tr f0 f2)
    · rw [if_pos rfl]
      exact hN e1 e2 e3 e6 A2 q1 q2 (frV_tr (frV_X f0) (frV_M f2)) (by rw [f2 _ _ (by omega) (by omega) (by omega) (by omega), f0 _ _ (by omega) (by omega) (by omega) (by omega)])
/-- where the other side goes on behind the exemplar -/
def CZ (sc : Nat × (Nat → Int32)) (A : tD) (K' : tD → Int → Prop) (E' : tD → Nat → Prop) : Prop := WP sc 253 0 (wr A 1977 49 4) [(0, (1211, 1977)), (1, (0, 10))] [] (fun D34 r35 => tbl r35 (K' D34 r35)) E'
end EXO
