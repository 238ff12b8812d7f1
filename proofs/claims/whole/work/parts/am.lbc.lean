/-! reading labels: what a label is; the class's side -/
section LBC
variable {sc : Nat × (Nat → Int32)} {D D' : tD} {K : tD → Int → Prop} {E : tD → Nat → Prop} {T : Int → Int} {n : Int}
noncomputable def cif {α : Type} (p : Prop) (a b : α) : α := @ite α p (Classical.propDecidable p) a b
theorem cif_pos {α : Type} {p : Prop} {a b : α} (h : p) : cif p a b = a := by unfold cif; rw [if_pos h]
theorem cif_neg {α : Type} {p : Prop} {a b : α} (h : ¬ p) : cif p a b = b := by unfold cif; rw [if_neg h]
/-- the family's extra name -/
def xq (kd : Int) (nF l : List Int) : Prop := (kd = 2 ∧ l = [108, 101]) ∨ (kd = 4 ∧ l = nF)
def lbE (T : Int → Int) (n a : Int) : Int := ru 5 T n a
def lbL (T : Int → Int) (a b : Int) : List Int := spn T a (b - a).toNat
/-- the label that stands at a place -/
def lbx (T : Int → Int) (n a : Int) : List Int := lbL T a (lbE T n a) ++ 1 :: ((es T n (lbE T n a + 2)).2.1 ++ [2])
/-- a label's name in the tape -/
def lnT (T : Int → Int) (a b : Int) : Prop := a < b ∧ b - a ≤ 8 ∧ ¬ srt 2 (T a) = true ∧ (∀ j, a ≤ j → j < b → srt 4 (T j) = true) ∧ (b - a < 2 ∨ T a ≠ 95 ∨ T (a + 1) ≠ 95)
def lbZ (T : Int → Int) (n kd : Int) (nF : List Int) (a : Int) (ex : Option (Int × List Int)) : Prop := ex = none ∧ xq kd nF (lbL T a (lbE T n a))
def lbO (T : Int → Int) (n most a : Int) (S : List (List Int)) (ex : Option (Int × List Int)) : Prop := ex = none ∧ (S.length : Int) < most ∧ lnT T a (lbE T n a) ∧ ∀ y ∈ S, ncmp y (lbx T n a) < 0
def lbN (T : Int → Int) (n a : Int) : Int × Int := if lbE T n a = a then (1, a) else if pb T n (lbE T n a) ≠ 61 then (1, lbE T n a) else if pb T n (lbE T n a + 1) ≠ 34 then (1, lbE T n a + 1) else (0, lbE T n a + 2)
def lbV (T : Int → Int) (n v m : Int) : Int × Int := if ¬ ((es T n v).2.2 = true ∧ pb T n (es T n v).1 = 34) then (1, (es T n v).1) else if m < ((es T n v).2.1.length : Int) then (7, v) else (0, (es T n v).1 + 1)
noncomputable def lbM (T : Int → Int) (n kd : Int) (nF : List Int) (a : Int) (ex : Option (Int × List Int)) : Int := cif (lbZ T n kd nF a ex ∧ kd = 2) 20 12
noncomputable def lb1 (T : Int → Int) (n kd : Int) (nF : List Int) (most a : Int) (S : List (List Int)) (ex : Option (Int × List Int)) : Int × Int × List (List Int) × Option (Int × List Int) :=
  if (lbN T n a).1 ≠ 0 then ((lbN T n a).1, (lbN T n a).2, S, ex)
  else if (lbV T n (lbE T n a + 2) (lbM T n kd nF a ex)).1 ≠ 0 then ((lbV T n (lbE T n a + 2) (lbM T n kd nF a ex)).1, (lbV T n (lbE T n a + 2) (lbM T n kd nF a ex)).2, S, ex)
  else cif (lbZ T n kd nF a ex) (0, (es T n (lbE T n a + 2)).1 + 1, S, some (lbE T n a + 2, (es T n (lbE T n a + 2)).2.1))
    (cif (lbO T n most a S ex) (0, (es T n (lbE T n a + 2)).1 + 1, S ++ [lbx T n a], ex) (8, a, S, ex))
/-- what the labels' reader changes -/
def frY (D D' : tD) : Prop := ∀ x j, (x < 1957 ∨ 1967 < x ∨ (x = 1957 ∧ j ≠ 1)) → D' x j = D x j
/-- the same where a fault was found -/
def frN (D D' : tD) : Prop := ∀ x j, (x < 1957 ∨ 1967 < x ∨ (x = 1957 ∧ j ≠ 1 ∧ j ≠ 2 ∧ j ≠ 3)) → D' x j = D x j
theorem frY_tr {D1 D2 : tD} (h : frY D D1) (h2 : frY D1 D2) : frY D D2 := fun x j u => by rw [h2 x j u, h x j u]
theorem frY_rf : frY D D := fun _ _ _ => rfl
theorem frN_Y (h : frY D D') : frN D D' := fun x j u => h x j (by omega)
theorem frN_tr {D1 D2 : tD} (h : frY D D1) (h2 : frN D1 D2) : frN D D2 := fun x j u => by rw [h2 x j u, h x j (by omega)]
theorem frN_fl {c p : Int} : frN D (wr (wr D 1957 2 c) 1957 3 p) := fun x j u => by
  by_cases e : x = 1957
  · subst e; rw [wr_ni (by omega), wr_ni (by omega)]
  · rw [wr_ne e, wr_ne e]
theorem frY_wr {a i v : Int} (h : (1958 ≤ a ∧ a ≤ 1967) ∨ (a = 1957 ∧ i = 1)) : frY D (wr D a i v) := fun x j u => by
  by_cases e : x = a
  · subst e; exact wr_ni (by omega)
  · exact wr_ne e
theorem cu_frY {a b : Int} (h : cu D 1957 1 T n a) (hb : 0 ≤ b ∧ b ≤ n) (h1 : D' 1957 1 = b) (hf : frY D D') : cu D' 1957 1 T n b := cu_to h hb (hf _ _ (by omega)) h1 (fun x j u => hf _ _ (by omega))
/-- a byte of the tape -/
theorem cu_by {a : Int} (hok : okD D) (h : cu D 1957 1 T n a) {j : Int} (hj : 0 ≤ j ∧ j < n) (hT : T j < 128) : D 2 j = T j := by
  have q := (h.2.2.2.2 j hj.1 hj.2).1
  unfold rat at q
  rw [if_pos ⟨hj.1, by rw [h.2.1.1]; exact hj.2⟩] at q
  have := okD_byte hok (a := 2) (j := j) ⟨by omega, by omega⟩ rfl ⟨hj.1, by have := h.2.1.2.1; show j < ln (1 + 1); omega⟩
  have q2 : D (1 + 1) j = D 2 j := rfl
  omega
theorem srt5_lt {b : Int} (h : srt 5 b = true) : 48 ≤ b ∧ b ≤ 122 := by rw [srt_iff] at h; omega
/-- the name is read -/
theorem t_name_tail {a : Int} {D1 : tD} (h : cu D 1957 1 T n a) (hc : cu D1 1957 1 T n (lbE T n a)) (hf1 : frY D D1) (hne : lbE T n a ≠ a) (hT : (lbN T n a).1 = 0 → cu (wr (wr D1 1957 1 (lbE T n a + 1)) 1957 1 (lbE T n a + 1 + 1)) 1957 1 T n (lbE T n a + 2) → K (wr (wr D1 1957 1 (lbE T n a + 1)) 1957 1 (lbE T n a + 1 + 1)) 1) (hF : (lbN T n a).1 ≠ 0 → ∀ D', D' 1957 2 = (lbN T n a).1 → D' 1957 3 = (lbN T n a).2 → frN D D' → K D' 0) : WP sc 45 0 D1 [(0, (1202, 1957)), (1, (0, 61))] [] (fun D10 r11 => if r11 = 0 then (K D10 0) else (WP sc 45 0 D10 [(0, (1202, 1957)), (1, (0, 34))] [] (fun D13 r14 => if r14 = 0 then (K D13 0) else (K D13 1)) E)) E := by
  have c := h.2
  refine t_expect hc (fun e => ?_) (fun e => ?_)
  · rw [if_neg (by omega)]
    have e1 := pb_lt e (by omega)
    have rb := ru_b (s := 5) (T := T) (n := n) (a := a) (by omega)
    have hb : 0 ≤ lbE T n a := by unfold lbE; omega
    have h2 := cu_wr hc (b := lbE T n a + 1) ⟨by omega, by omega⟩
    refine t_expect h2 (fun e2 => ?_) (fun e2 => ?_)
    · rw [if_neg (by omega)]
      have e3 := pb_lt e2 (by omega)
      have h3 := cu_wr h2 (b := lbE T n a + 1 + 1) ⟨by omega, by omega⟩
      refine hT ?_ ?_
      · unfold lbN; rw [if_neg hne, if_neg (fun w => w e), if_neg (fun w => w e2)]
      · rw [show lbE T n a + 1 + 1 = lbE T n a + 2 from by omega] at h3 ⊢; exact h3
    · rw [if_pos rfl]
      have en : lbN T n a = (1, lbE T n a + 1) := by unfold lbN; rw [if_neg hne, if_neg (fun w => w e), if_pos e2]
      rw [en] at hF
      exact hF (show (1 : Int) ≠ 0 from by decide) _ (by rw [wr_ni (by omega), wr_self]) wr_self (frN_tr hf1 (frN_tr (frY_wr (by omega)) frN_fl))
  · rw [if_pos rfl]
    have en : lbN T n a = (1, lbE T n a) := by unfold lbN; rw [if_neg hne, if_pos e]
    rw [en] at hF
    exact hF (show (1 : Int) ≠ 0 from by decide) _ (by rw [wr_ni (by omega), wr_self]) wr_self (frN_tr hf1 frN_fl)
/-- what stands after a name -/
def nmP (D D' : tD) (T : Int → Int) (n a x : Int) : Prop := cu D' 1957 1 T n (lbE T n a + 2) ∧ (D' 1958 6 = a ∧ D' 1958 7 = lbE T n a ∧ D' 1958 9 = x) ∧ ∀ y j, ¬ (y = 1957 ∧ j = 1) → ¬ (y = 1958 ∧ (j = 6 ∨ j = 7 ∨ j = 9)) → D' y j = D y j
theorem nmP_frY {a x : Int} (h : nmP D D' T n a x) : frY D D' := fun y j u => h.2.2 y j (by omega) (by omega)
theorem nmP_mk {a b x : Int} (h3 : cu (wr (wr (wr (wr (wr (wr D 1957 1 b) 1958 6 a) 1958 7 b) 1958 9 x) 1957 1 (b + 1)) 1957 1 (b + 1 + 1)) 1957 1 T n (lbE T n a + 2)) (hb : b = lbE T n a) : nmP D (wr (wr (wr (wr (wr (wr D 1957 1 b) 1958 6 a) 1958 7 b) 1958 9 x) 1957 1 (b + 1)) 1957 1 (b + 1 + 1)) T n a x := by
  refine ⟨h3, ⟨?_, ?_, ?_⟩, fun y j u w => ?_⟩
  · rw [wr_ne (by omega), wr_ne (by omega), wr_ni (by omega), wr_ni (by omega), wr_self]
  · rw [wr_ne (by omega), wr_ne (by omega), wr_ni (by omega), wr_self]; exact hb
  · rw [wr_ne (by omega), wr_ne (by omega), wr_self]
  · by_cases z : y = 1957
    · subst z
      rw [wr_ni (by omega), wr_ni (by omega), wr_ne (by omega), wr_ne (by omega), wr_ne (by omega), wr_ni (by omega)]
    · by_cases z2 : y = 1958
      · subst z2
        rw [wr_ne (by omega), wr_ne (by omega), wr_ni (by omega), wr_ni (by omega), wr_ni (by omega), wr_ne (by omega)]
      · rw [wr_ne z, wr_ne z, wr_ne z2, wr_ne z2, wr_ne z2, wr_ne z]
theorem t_lname {a F kd : Int} {nF : List Int} {ex : Option (Int × List Int)} (h : cu D 1957 1 T n a) (hF1 : nmC D F nF) (hF2 : D F 5 = kd) (hF3 : F + 2 < 1957 ∧ 0 ≤ F) (hx : D 1958 5 < 0 ↔ ex = none) (hT : (lbN T n a).1 = 0 → ∀ x D', (x = 1 ∧ lbZ T n kd nF a ex) ∨ (x = 0 ∧ ¬ lbZ T n kd nF a ex) → nmP D D' T n a x → K D' 1) (hF : (lbN T n a).1 ≠ 0 → ∀ D', D' 1957 2 = (lbN T n a).1 → D' 1957 3 = (lbN T n a).2 → frN D D' → K D' 0) : WP sc 85 0 D [(0, (1206, 1958)), (1, (1204, F))] [] K E := by
  have c := h.2
  refine wp_ok (fun hok => ?_)
  refine v85_0 (t_run (by omega) h ?_)
  have rb := ru_b (s := 5) (T := T) (n := n) (a := a) (by omega)
  have ri := ru_in (s := 5) (T := T) (n := n) (a := a) (by omega)
  have eb : ru 5 T n a = lbE T n a := rfl
  rw [eb] at rb ri
  rw [eb]
  have w1 : (wr (wr D 1957 1 (lbE T n a)) 1958 6 a) 1957 1 = lbE T n a := by rw [wr_ne (by omega), wr_self]
  rw [w1]
  have w6 : (wr (wr (wr D 1957 1 (lbE T n a)) 1958 6 a) 1958 7 (lbE T n a)) 1958 6 = a := by rw [wr_ni (by omega), wr_self]
  have w7 : (wr (wr (wr D 1957 1 (lbE T n a)) 1958 6 a) 1958 7 (lbE T n a)) 1958 7 = lbE T n a := wr_self
  have w5 : (wr (wr (wr D 1957 1 (lbE T n a)) 1958 6 a) 1958 7 (lbE T n a)) 1958 5 = D 1958 5 := by rw [wr_ni (by omega), wr_ni (by omega), wr_ne (by omega)]
  have w0 : (wr (wr (wr D 1957 1 (lbE T n a)) 1958 6 a) 1958 7 (lbE T n a)) 1957 0 = 1 := by rw [wr_ne (by omega), wr_ne (by omega), wr_ni (by omega)]; exact h.1.1
  rw [w6, w7, w5, w0]
  have fr2 : frY D (wr (wr (wr D 1957 1 (lbE T n a)) 1958 6 a) 1958 7 (lbE T n a)) := frY_tr (frY_wr (by omega)) (frY_tr (frY_wr (by omega)) (frY_wr (by omega)))
  by_cases z : a = lbE T n a
  · rw [if_pos z]
    have en : lbN T n a = (1, a) := by unfold lbN; rw [if_pos z.symm]
    rw [en] at hF
    exact t_fail (hF (show (1 : Int) ≠ 0 from by decide) _ (by rw [wr_ni (by omega), wr_self]) wr_self (frN_tr fr2 frN_fl))
  rw [if_neg z]
  have fin : ∀ x, ((x = 1 ∧ lbZ T n kd nF a ex) ∨ (x = 0 ∧ ¬ lbZ T n kd nF a ex)) → WP sc 45 0 (wr (wr (wr (wr D 1957 1 (lbE T n a)) 1958 6 a) 1958 7 (lbE T n a)) 1958 9 x) [(0, (1202, 1957)), (1, (0, 61))] [] (fun D10 r11 => if r11 = 0 then (K D10 0) else (WP sc 45 0 D10 [(0, (1202, 1957)), (1, (0, 34))] [] (fun D13 r14 => if r14 = 0 then (K D13 0) else (K D13 1)) E)) E := fun x hx2 => by
    have fr3 := frY_tr fr2 (frY_wr (a := 1958) (i := 9) (v := x) (by omega))
    refine t_name_tail h (cu_frY h ⟨by omega, by omega⟩ (by rw [wr_ne (by omega), wr_ne (by omega), wr_ne (by omega), wr_self]) fr3) fr3 (fun y => z y.symm) (fun e h3 => ?_) hF
    exact hT e x _ hx2 (nmP_mk h3 rfl)
  by_cases z5 : D 1958 5 < 0
  · rw [if_pos z5]
    have exn := hx.mp z5
    have nl : (lbL T a (lbE T n a)).length = (lbE T n a - a).toNat := spn_len
    have n1 : ∀ b ∈ lbL T a (lbE T n a), b ≠ 1 := fun b hb => by
      obtain ⟨j, u, v, w⟩ := spn_mem hb
      have := srt5_lt (ri j u (by omega))
      omega
    have nm : nmOf (lbL T a (lbE T n a) ++ 1 :: []) = lbL T a (lbE T n a) := nmOf_app n1
    refine c_isExtra (x := lbL T a (lbE T n a) ++ 1 :: []) (w := []) (nF := nF) (by rw [nm]) ?_ (by omega) (by rw [nm, nl]; omega) (by rw [fr2 _ _ (by omega), c.1.1]; omega) (by rw [fr2 _ _ (by omega), c.1.1]; exact c.1.2.1) (by rw [fr2 _ _ (by omega), c.1.1]; omega) ?_ (fun e => ?_) (fun e => ?_)
    · rw [nm]
      refine spn_at (fun j u v => ?_)
      rw [fr2 _ _ (by omega)]
      exact cu_by hok h ⟨by omega, by omega⟩ (by have := srt5_lt (ri (a + j) (by omega) (by omega)); omega)
    · obtain ⟨f1, f2, f3, f4, f5⟩ := hF1
      exact ⟨by rw [fr2 _ _ (by omega)]; exact f1, atL_fr (fun j _ _ => fr2 _ _ (by omega)) f2, f3, f4, f5⟩
    · rw [if_neg (by omega)]
      unfold xtP at e
      rw [nm, fr2 _ _ (by omega), hF2] at e
      exact fin 1 (Or.inl ⟨rfl, exn, e⟩)
    · rw [if_pos rfl]
      unfold xtP at e
      rw [nm, fr2 _ _ (by omega), hF2] at e
      exact fin 0 (Or.inr ⟨rfl, fun w => e w.2⟩)
  · rw [if_neg z5]
    exact fin 0 (Or.inr ⟨rfl, fun w => z5 (hx.mpr w.1)⟩)
theorem t_lnameN {a : Int} {nF : List Int} {ex : Option (Int × List Int)} (h : cu D 1957 1 T n a) (hT : (lbN T n a).1 = 0 → ∀ x D', (x = 1 ∧ lbZ T n 0 nF a ex) ∨ (x = 0 ∧ ¬ lbZ T n 0 nF a ex) → nmP D D' T n a x → K D' 1) (hF : (lbN T n a).1 ≠ 0 → ∀ D', D' 1957 2 = (lbN T n a).1 → D' 1957 3 = (lbN T n a).2 → frN D D' → K D' 0) : WP sc 85 0 D [(0, (1206, 1958)), (1, (2, 0))] [] K E := by
  have c := h.2
  refine v85n_0 (t_run (by omega) h ?_)
  have rb := ru_b (s := 5) (T := T) (n := n) (a := a) (by omega)
  have eb : ru 5 T n a = lbE T n a := rfl
  rw [eb] at rb
  rw [eb]
  have w1 : (wr (wr D 1957 1 (lbE T n a)) 1958 6 a) 1957 1 = lbE T n a := by rw [wr_ne (by omega), wr_self]
  rw [w1]
  have w6 : (wr (wr (wr D 1957 1 (lbE T n a)) 1958 6 a) 1958 7 (lbE T n a)) 1958 6 = a := by rw [wr_ni (by omega), wr_self]
  have w7 : (wr (wr (wr D 1957 1 (lbE T n a)) 1958 6 a) 1958 7 (lbE T n a)) 1958 7 = lbE T n a := wr_self
  rw [w6, w7]
  have fr2 : frY D (wr (wr (wr D 1957 1 (lbE T n a)) 1958 6 a) 1958 7 (lbE T n a)) := frY_tr (frY_wr (by omega)) (frY_tr (frY_wr (by omega)) (frY_wr (by omega)))
  by_cases z : a = lbE T n a
  · rw [if_pos z]
    have en : lbN T n a = (1, a) := by unfold lbN; rw [if_pos z.symm]
    rw [en] at hF
    exact t_fail (hF (show (1 : Int) ≠ 0 from by decide) _ (by rw [wr_ni (by omega), wr_self]) wr_self (frN_tr fr2 frN_fl))
  rw [if_neg z]
  have fr3 := frY_tr fr2 (frY_wr (a := 1958) (i := 9) (v := 0) (by omega))
  refine t_name_tail h (cu_frY h ⟨by omega, by omega⟩ (by rw [wr_ne (by omega), wr_ne (by omega), wr_ne (by omega), wr_self]) fr3) fr3 (fun y => z y.symm) (fun e h3 => ?_) hF
  refine hT e 0 _ (Or.inr ⟨rfl, fun w => ?_⟩) (nmP_mk h3 rfl)
  rcases w.2 with q | q <;> exact absurd q.1 (by decide)
end LBC
