/-! the writer of the class: heads, labels, samples -/
section WRC
variable {sc : Nat × (Nat → Int32)} {D D0 D' : tD} {K : tD → Int → Prop} {E : tD → Nat → Prop} {F fl : Int} {L : List Int}
/-- the state of the writer: D0 stands but for the text; its family; whether all is written -/
def ws (D0 : tD) (F fl : Int) (D : tD) (L : List Int) : Prop := (∀ a j, a ≠ 3 → a ≠ 4 → a ≠ 1955 → D a j = D0 a j) ∧ D 1955 1 = F ∧ D 1955 2 = fl ∧ wo D 3 L
theorem ws_to {M : List Int} (h : ws D0 F fl D L) (hf : frw D D' 3) (hw : wo D' 3 M) : ws D0 F fl D' M :=
  ⟨fun a j u v w => by rw [hf a j u (by omega)]; exact h.1 a j u v w, by rw [hf _ _ (by omega) (by omega)]; exact h.2.1, by rw [hf _ _ (by omega) (by omega)]; exact h.2.2.1, hw⟩
theorem l4 : ln (3 + 1) = 12000 := rfl
theorem w_push {b : Int} (h : ws D0 F fl D L) (hK : ∀ D', ws D0 F fl D' (L ++ [b]) → K D' 0) : WP sc 91 0 D [(0, (1207, 3)), (1, (0, b))] [] K E := c_wpush (by rw [l4]; omega) h.2.2.2 (fun D1 h1 f1 => hK D1 (ws_to h f1 h1))
theorem w_text {t : Int} (h : ws D0 F fl D L) (hK : ∀ D', ws D0 F fl D' (L ++ txl t) → K D' 0) : WP sc 92 0 D [(0, (1207, 3)), (1, (4, t))] [] K E := c_wtext (by rw [l4]; omega) h.2.2.2 (fun D1 h1 f1 => hK D1 (ws_to h f1 h1))
theorem w_num {v : Int} (hv : -1000000000000000000 ≤ v ∧ v ≤ 1000000000000000000) (h : ws D0 F fl D L) (hK : ∀ D', ws D0 F fl D' (L ++ numT v) → K D' 0) : WP sc 96 0 D [(0, (1207, 3)), (1, (1, v))] [] K E := c_wnum (by rw [l4]; omega) hv h.2.2.2 (fun D1 h1 f1 => hK D1 (ws_to h f1 h1))
theorem w_esc {b : Int} {q : Bool} (h : ws D0 F fl D L) (hK : ∀ D', ws D0 F fl D' (L ++ escT q b) → K D' 0) : WP sc 95 0 D [(0, (1207, 3)), (1, (0, b)), (2, (0, if q then 1 else 0))] [] K E := c_esc (by rw [l4]; omega) h.2.2.2 (fun D1 h1 f1 => hK D1 (ws_to h f1 h1))
/-- a row that stays -/
def rs (D0 : tD) (q : Int) (m : List Int) : Prop := rl D0 q m ∧ (D0 q 1 ≤ ln (q + 1) ∧ D0 q 1 ≤ 20000) ∧ (5 ≤ q ∧ q + 1 < 1955) ∧ ∀ b ∈ m, 0 ≤ b ∧ b ≤ 255
theorem w_row {q : Int} {m : List Int} (hq : rs D0 q m) (h : ws D0 F fl D L) (hK : ∀ D', ws D0 F fl D' (L ++ m) → K D' 0) : WP sc 164 0 D [(0, (1210, 1955)), (1, (1207, q))] [] K E := by
  obtain ⟨q1, q2, q3, _⟩ := hq
  have e : ∀ j, D q j = D0 q j := fun j => h.1 q j (by omega) (by omega) (by omega)
  exact v164_0 (c_wins (by omega) (by rw [l4]; omega) (by rw [e]; exact q2) (rl_fr e (fun j => h.1 _ j (by omega) (by omega) (by omega)) q1) h.2.2.2 (fun D1 h1 f1 => hK D1 (ws_to h f1 h1)))
theorem rs_at {q : Int} {p t : List Int} {b : Int} (h : rs D0 q (p ++ b :: t)) : rat D0 q (p.length : Int) = b := by
  obtain ⟨⟨h1, h2⟩, _, _, h3⟩ := h
  rw [List.map_append, atL_app, List.length_map, List.map_cons] at h2
  have h4 := h2.2.1
  have h5 := h3 b (by simp)
  rw [List.length_append, List.length_cons] at h1
  unfold rat
  rw [if_pos (by omega), show (p.length : Int) = 0 + (p.length : Int) from by omega, h4, w8_mod]
  omega
theorem w_at {q p : Int} {m : List Int} (hq : rs D0 q m) (h : ws D0 F fl D L) (hK : K D (rat D0 q p)) : WP sc 90 0 D [(0, (1207, q)), (1, (0, p))] [] K E := by
  obtain ⟨q1, q2, q3, _⟩ := hq
  have e : ∀ j, D q j = D0 q j := fun j => h.1 q j (by omega) (by omega) (by omega)
  refine c_at (by rw [e]; exact q2.1) ?_
  rw [rat_fr (e 1) (fun j => h.1 _ j (by omega) (by omega) (by omega))]
  exact hK
/-! texts that are given -/
theorem tx_n : txl 47 = 35 :: 32 :: (wdl 15 ++ [10]) ∧ txl 48 = 35 :: 32 :: (wdl 13 ++ [32]) ∧ txl 49 = 35 :: 32 :: (wdl 12 ++ [32]) ∧ txl 50 = 35 :: 32 :: (wdl 14 ++ [32]) ∧ txl 51 = wdl 17 ++ [61, 34] ∧ txl 52 = wdl 16 ∧ txl 53 = [34, 125, 32] ∧ txl 54 = [61, 34] ∧ txl 55 = [44] ∧ txl 56 = [] ∧ txl 57 = [125, 32] ∧ txl 58 = [32] ∧ txl 59 = [34, 44] ∧ txl 60 = [34] ∧ txl 61 = [32, 35, 32, 123] := by decide +kernel
theorem tx_k : txl 28 = wdl 7 ∧ txl 29 = wdl 8 ∧ txl 30 = wdl 9 ∧ txl 31 = wdl 10 ∧ txl 32 = wdl 11 := by decide +kernel
theorem tx_p : txl 33 = wdl 1 ∧ txl 34 = wdl 2 ∧ txl 35 = wdl 3 ∧ txl 36 = wdl 4 ∧ txl 37 = wdl 5 ∧ txl 38 = wdl 6 ∧ txl 39 = wdl 0 ∧ wdl 0 = [] := by decide +kernel
theorem tx_ptx {p : Int} (hp : 0 ≤ p ∧ p ≤ 6) : txl (ptx p) = wdl p := by
  have h : p = 0 ∨ p = 1 ∨ p = 2 ∨ p = 3 ∨ p = 4 ∨ p = 5 ∨ p = 6 := by omega
  rcases h with e | e | e | e | e | e | e
  · rw [e]; exact tx_p.2.2.2.2.2.2.1
  · rw [e]; exact tx_p.1
  · rw [e]; exact tx_p.2.1
  · rw [e]; exact tx_p.2.2.1
  · rw [e]; exact tx_p.2.2.2.1
  · rw [e]; exact tx_p.2.2.2.2.1
  · rw [e]; exact tx_p.2.2.2.2.2.1
/-! heads -/
/-- what a writer knows of its family -/
def wfam (D0 : tD) (F : Int) (nm un hl : List Int) (kd : Int) : Prop := ((5 ≤ F ∧ F < 1900) ∧ D0 F 5 = kd ∧ 0 ≤ kd ∧ kd ≤ 4) ∧ rs D0 (F + 1) nm ∧ rs D0 (F + 3) un ∧ rs D0 (F + 5) hl
def hdT (w nm : List Int) (kd fl : Int) : List Int := w ++ nm ++ (if fl = 0 ∧ kd = 0 then wdl 1 else if fl = 0 ∧ kd = 3 then wdl 6 else []) ++ [32]
theorem ws_F {a j : Int} (h : ws D0 F fl D L) (hF : 5 ≤ F + a ∧ F + a < 1955) : D (F + a) j = D0 (F + a) j := h.1 _ _ (by omega) (by omega) (by omega)
theorem w_head {t kd : Int} {nm un hl : List Int} (hfl : fl = 0 ∨ fl = 1) (hF : wfam D0 F nm un hl kd) (h : ws D0 F fl D L) (hK : ∀ D', ws D0 F fl D' (L ++ hdT (txl t) nm kd fl) → K D' 0) : WP sc 155 0 D [(0, (1210, 1955)), (1, (4, t))] [] K E := by
  obtain ⟨f1, f2, f3, f4⟩ := hF
  have fb := f2.2.2.1
  refine v155_0 (w_text h (fun D1 h1 => ?_))
  rw [h1.2.1, if_neg (by omega)]
  refine w_row f2 h1 (fun D2 h2 => ?_)
  have kd2 : ∀ {D3 : tD} {M : List Int}, ws D0 F fl D3 M → D3 F 5 = kd := fun {D3 M} h3 => by
    rw [h3.1 F 5 (by omega) (by omega) (by omega)]; exact f1.2.1
  unfold hdT at hK
  have nF : ¬ F = -1 := by omega
  rw [h2.2.1, h2.2.2.1, kd2 h2]
  simp only [if_neg nF]
  refine fun _ => ?_
  have fin : ∀ {M : List Int} {D3 : tD}, ws D0 F fl D3 M → (∀ D', ws D0 F fl D' (M ++ [32]) → K D' 0) → WP sc 91 0 D3 [(0, (1207, 3)), (1, (0, 32))] [] (fun D22 _ => K D22 0) E := fun h3 hk => w_push h3 hk
  rcases hfl with e | e
  · rw [if_pos e]
    by_cases k0 : kd = 0
    · rw [if_pos k0]
      rw [if_pos ⟨e, k0⟩] at hK
      refine c_ptx (w_text h2 (fun D3 h3 => ?_))
      rw [h3.2.1, h3.2.2.1, kd2 h3]
      simp only [if_neg nF]
      refine fun _ => ?_
      rw [if_pos e, if_neg (by omega)]
      refine fin h3 (fun D4 h4 => hK D4 ?_)
      rw [tx_ptx (by omega)] at h4
      simpa [List.append_assoc] using h4
    · rw [if_neg k0]
      refine fun _ => ?_
      rw [if_pos e]
      by_cases k3 : kd = 3
      · rw [if_pos k3]
        rw [if_neg (fun w => k0 w.2), if_pos ⟨e, k3⟩] at hK
        refine c_ptx (w_text h2 (fun D3 h3 => fin h3 (fun D4 h4 => hK D4 ?_)))
        rw [tx_ptx (by omega)] at h4
        simpa [List.append_assoc] using h4
      · rw [if_neg k3]
        rw [if_neg (fun w => k0 w.2), if_neg (fun w => k3 w.2)] at hK
        exact fin h2 (fun D4 h4 => hK D4 (by simpa [List.append_assoc] using h4))
  · rw [if_neg (by omega)]
    refine fun _ => ?_
    rw [if_neg (by omega)]
    rw [if_neg (fun w => by omega), if_neg (fun w => by omega)] at hK
    exact fin h2 (fun D4 h4 => hK D4 (by simpa [List.append_assoc] using h4))
theorem c_kidx {kd : Int} (hk : 0 ≤ kd ∧ kd ≤ 4) (hK : K D (28 + kd)) : WP sc 59 0 D [(0, (0, kd))] [] K E := by
  refine v59_0 ?_
  have h : kd = 0 ∨ kd = 1 ∨ kd = 2 ∨ kd = 3 ∨ kd = 4 := by omega
  rcases h with e | e | e | e | e
  · rw [if_pos e]; rw [e] at hK; exact hK
  · rw [if_neg (by omega), if_pos e]; rw [e] at hK; exact hK
  · rw [if_neg (by omega), if_neg (by omega), if_pos e]; rw [e] at hK; exact hK
  · rw [if_neg (by omega), if_neg (by omega), if_neg (by omega), if_pos e]; rw [e] at hK; exact hK
  · rw [if_neg (by omega), if_neg (by omega), if_neg (by omega), if_neg (by omega)]; rw [e] at hK; exact hK
theorem tx_kd {kd : Int} (hk : 0 ≤ kd ∧ kd ≤ 4) : txl (28 + kd) = wdl (7 + kd) := by
  have h : kd = 0 ∨ kd = 1 ∨ kd = 2 ∨ kd = 3 ∨ kd = 4 := by omega
  rcases h with e | e | e | e | e
  · rw [e]; exact tx_k.1
  · rw [e]; exact tx_k.2.1
  · rw [e]; exact tx_k.2.2.1
  · rw [e]; exact tx_k.2.2.2.1
  · rw [e]; exact tx_k.2.2.2.2
def tyT (nm : List Int) (kd fl : Int) : List Int := hdT (35 :: 32 :: (wdl 12 ++ [32])) nm kd fl ++ wdl (if fl = 0 ∧ (kd = 3 ∨ kd = 4) then 8 else 7 + kd) ++ [10]
theorem w_type {kd : Int} {nm un hl : List Int} (hfl : fl = 0 ∨ fl = 1) (hF : wfam D0 F nm un hl kd) (h : ws D0 F fl D L) (hK : ∀ D', ws D0 F fl D' (L ++ tyT nm kd fl) → K D' 0) : WP sc 153 0 D [(0, (1210, 1955))] [] K E := by
  have fb := hF.2.1.2.2.1
  have f1 := hF.1
  refine v153_0 (w_head hfl hF h (fun D1 h1 => ?_))
  rw [tx_n.2.2.1] at h1
  have kd2 : D1 F 5 = kd := by rw [h1.1 F 5 (by omega) (by omega) (by omega)]; exact f1.2.1
  have nF : ¬ F = -1 := by omega
  rw [h1.2.1, h1.2.2.1, kd2]
  simp only [if_neg nF]
  refine fun _ => ?_
  have fin : ∀ x, (0 ≤ x ∧ x ≤ 4) → wdl (7 + x) = wdl (if fl = 0 ∧ (kd = 3 ∨ kd = 4) then 8 else 7 + kd) → WP sc 59 0 D1 [(0, (0, x))] [] (fun D22 r23 => WP sc 92 0 D22 [(0, (1207, 3)), (1, (4, r23))] [] (fun D25 _ => WP sc 91 0 D25 [(0, (1207, 3)), (1, (0, 10))] [] (fun D28 _ => K D28 0) E) E) E := fun x hx e => c_kidx hx (w_text h1 (fun D2 h2 => w_push h2 (fun D3 h3 => hK D3 (by
    rw [tx_kd hx, e] at h3
    unfold tyT
    simpa [List.append_assoc] using h3))))
  by_cases e : fl = 0
  · rw [if_pos e]
    by_cases k3 : kd = 3
    · rw [if_pos k3]
      exact fin 1 (by omega) (by rw [if_pos ⟨e, Or.inl k3⟩]; rfl)
    · rw [if_neg k3]
      by_cases k4 : kd = 4
      · rw [if_pos k4]
        exact fin 1 (by omega) (by rw [if_pos ⟨e, Or.inr k4⟩]; rfl)
      · rw [if_neg k4]
        exact fin kd f1.2.2 (by rw [if_neg (fun w => by omega)])
  · rw [if_neg e]
    exact fin kd f1.2.2 (by rw [if_neg (fun w => e w.1)])
def hlT (nm hl : List Int) (kd fl : Int) : List Int := if hl = [] then [] else hdT (35 :: 32 :: (wdl 14 ++ [32])) nm kd fl ++ hl.flatMap (escT (fl == 1)) ++ [10]
theorem w_help1 {kd : Int} {nm un hl : List Int} (hfl : fl = 0 ∨ fl = 1) (hF : wfam D0 F nm un hl kd) (hK : ∀ D', ws D0 F fl D' (L ++ hl.flatMap (escT (fl == 1)) ++ [10]) → K D' 0) : ∀ (t p : List Int) (D : tD), hl = p ++ t → ws D0 F fl D (L ++ p.flatMap (escT (fl == 1))) → WP sc 154 22 D [(0, (1210, 1955)), (1, (0, (p.length : Int)))] [] K E := by
  have fb := hF.2.1.2.2.1
  have f1 := hF.1
  have l40 := hF.2.2.2.2.1
  have r5 := hF.2.2.2
  intro t
  induction t with
  | nil =>
    intro p D hp h
    rw [List.append_nil] at hp
    subst hp
    refine v154_22 ?_
    rw [h.2.1, if_neg (show ¬ F = -1 from by omega), h.1 (F + 5) 1 (by omega) (by have := r5.2.2.1; omega) (by have := r5.2.2.1; omega), r5.1.1, if_neg (by omega)]
    exact w_push h hK
  | cons b t ih =>
    intro p D hp h
    refine v154_22 ?_
    have ll : (hl.length : Int) = (p.length : Int) + (t.length : Int) + 1 := by rw [hp, List.length_append, List.length_cons]; omega
    rw [h.2.1, if_neg (show ¬ F = -1 from by omega), h.1 (F + 5) 1 (by omega) (by have := r5.2.2.1; omega) (by have := r5.2.2.1; omega), r5.1.1, if_pos (by omega), if_neg (show ¬ F = -1 from by omega)]
    refine w_at r5 h ?_
    have hat := rs_at (D0 := D0) (q := F + 5) (p := p) (t := t) (b := b) (by rw [← hp]; exact r5)
    rw [hat, h.2.2.1]
    refine fun _ => ?_
    have e : (fl : Int) = if (fl == 1) then 1 else 0 := by rcases hfl with e | e <;> rw [e] <;> rfl
    have w := w_esc (sc := sc) (E := E) (b := b) (q := (fl == 1)) h (K := fun D4 _ => WP sc 154 22 D4 [(0, (1210, 1955)), (1, (0, w32 ((p.length : Int) + 1)))] [] K E) (fun D1 h1 => by
      rw [w32_id (by have := r5.2.1.2; have := r5.1.1; omega) (by have := r5.2.1.2; have := r5.1.1; omega)]
      have q := ih (p ++ [b]) D1 (by rw [hp]; simp) (by simpa [List.flatMap_append, List.append_assoc] using h1)
      rw [List.length_append, List.length_singleton] at q
      exact q)
    rw [← e] at w
    exact w
theorem w_help {kd : Int} {nm un hl : List Int} (hfl : fl = 0 ∨ fl = 1) (hF : wfam D0 F nm un hl kd) (h : ws D0 F fl D L) (hK : ∀ D', ws D0 F fl D' (L ++ hlT nm hl kd fl) → K D' 0) : WP sc 154 0 D [(0, (1210, 1955))] [] K E := by
  have fb := hF.2.1.2.2.1
  have r5 := hF.2.2.2
  refine v154_0 ?_
  rw [h.2.1, if_neg (show ¬ F = -1 from by omega), h.1 (F + 5) 1 (by omega) (by have := r5.2.2.1; omega) (by have := r5.2.2.1; omega), r5.1.1]
  unfold hlT at hK
  by_cases e : hl = []
  · rw [if_pos e, List.append_nil] at hK
    rw [if_pos (by rw [e]; rfl)]
    exact hK D h
  · rw [if_neg e] at hK
    rw [if_neg (fun w => e (List.length_eq_zero_iff.mp (by omega)))]
    refine w_head hfl hF h (fun D1 h1 => ?_)
    rw [tx_n.2.2.2.1] at h1
    exact w_help1 (L := L ++ hdT (35 :: 32 :: (wdl 14 ++ [32])) nm kd fl) hfl hF (fun D2 h2 => hK D2 (by simpa [List.append_assoc] using h2)) hl [] D1 rfl (by simpa using h1)
def unT (nm un : List Int) (kd fl : Int) : List Int := if un = [] then [] else hdT (35 :: 32 :: (wdl 13 ++ [32])) nm kd fl ++ un ++ [10]
def fhT (nm un hl : List Int) (kd fl : Int) : List Int := if fl = 0 then hlT nm hl kd fl ++ tyT nm kd fl else tyT nm kd fl ++ unT nm un kd fl ++ hlT nm hl kd fl
theorem w_fhead {kd : Int} {nm un hl : List Int} (hfl : fl = 0 ∨ fl = 1) (hF : wfam D0 F nm un hl kd) (h : ws D0 F fl D L) (hK : ∀ D', ws D0 F fl D' (L ++ fhT nm un hl kd fl) → K D' 0) : WP sc 152 0 D [(0, (1210, 1955))] [] K E := by
  have fb := hF.2.1.2.2.1
  have r3 := hF.2.2.1
  refine v152_0 ?_
  rw [h.2.2.1]
  refine fun _ => ?_
  unfold fhT at hK
  by_cases e : fl = 0
  · rw [if_pos e] at hK ⊢
    exact w_help hfl hF h (fun D1 h1 => w_type hfl hF h1 (fun D2 h2 => hK D2 (by simpa [List.append_assoc] using h2)))
  · rw [if_neg e] at hK ⊢
    refine w_type hfl hF h (fun D1 h1 => ?_)
    rw [h1.2.1, if_neg (show ¬ F = -1 from by omega), h1.1 (F + 3) 1 (by omega) (by have := r3.2.2.1; omega) (by have := r3.2.2.1; omega), r3.1.1]
    unfold unT at hK
    by_cases e2 : un = []
    · rw [if_pos e2, List.append_nil] at hK
      rw [if_neg (by rw [e2]; decide)]
      exact w_help hfl hF h1 (fun D2 h2 => hK D2 (by simpa [List.append_assoc] using h2))
    · rw [if_neg e2] at hK
      rw [if_pos (by have := List.length_pos_iff.mpr e2; omega)]
      refine w_head hfl hF h1 (fun D2 h2 => ?_)
      rw [tx_n.2.1] at h2
      rw [h2.2.1, if_neg (show ¬ F = -1 from by omega)]
      exact w_row r3 h2 (fun D3 h3 => w_push h3 (fun D4 h4 => w_help hfl hF h4 (fun D5 h5 => hK D5 (by simpa [List.append_assoc] using h5))))
/-! labels and samples -/
def labB : List Int → List Int
  | [] => []
  | b :: r => (if b = 1 then [61, 34] else if b = 2 then (if r = [] then [34] else [34, 44]) else escT true b) ++ labB r
theorem w_lab1 {A : Int} {m M : List Int} (hm : rs D0 (A + 1) m) (hK : ∀ D', ws D0 F fl D' (M ++ labB m) → K D' 0) : ∀ (t p : List Int) (D : tD) (P : List Int), m = p ++ t → ws D0 F fl D (M ++ P) → P ++ labB t = labB m → WP sc 162 2 D [(0, (1210, 1955)), (1, (1205, A)), (2, (0, (p.length : Int)))] [] K E := by
  have mb := hm.2.2.1
  have mz := hm.2.1.2
  have ml := hm.1.1
  intro t
  induction t with
  | nil =>
    intro p D P hp h hP
    rw [List.append_nil] at hp
    subst hp
    refine v162_2 ?_
    rw [h.1 (A + 1) 1 (by omega) (by omega) (by omega), ml, if_neg (by omega)]
    refine hK D ?_
    rw [← hP]
    simpa [labB] using h
  | cons b t ih =>
    intro p D P hp h hP
    have ll : (m.length : Int) = (p.length : Int) + (t.length : Int) + 1 := by rw [hp, List.length_append, List.length_cons]; omega
    have hat := rs_at (D0 := D0) (q := A + 1) (p := p) (t := t) (b := b) (by rw [← hp]; exact hm)
    have go : ∀ {D1 : tD} {Q : List Int}, ws D0 F fl D1 (M ++ P ++ Q) → labB (b :: t) = Q ++ labB t → WP sc 162 2 D1 [(0, (1210, 1955)), (1, (1205, A)), (2, (0, w32 ((p.length : Int) + 1)))] [] K E := fun {D1 Q} h1 e1 => by
      rw [w32_id (by omega) (by omega)]
      have q := ih (p ++ [b]) D1 (P ++ Q) (by rw [hp]; simp) (by rw [List.append_assoc] at h1; exact h1) (by rw [List.append_assoc, ← e1]; exact hP)
      rw [List.length_append, List.length_singleton] at q
      exact q
    refine v162_2 ?_
    rw [h.1 (A + 1) 1 (by omega) (by omega) (by omega), ml, if_pos (by omega)]
    refine w_at hm h ?_
    rw [hat, h.1 (A + 1) 1 (by omega) (by omega) (by omega), ml, w32_id (x := (p.length : Int) + 1) (by omega) (by omega)]
    rw [w32_id (x := (p.length : Int) + 1) (by omega) (by omega)] at go
    by_cases e1 : b = 1
    · rw [if_pos e1]
      refine w_text h (fun D1 h1 => go h1 ?_)
      rw [tx_n.2.2.2.2.2.2.2.1]
      show (if b = 1 then _ else _) ++ _ = _
      rw [if_pos e1]
    rw [if_neg e1]
    by_cases e2 : b = 2
    · rw [if_pos e2]
      by_cases e3 : t = []
      · rw [if_neg (by rw [e3] at ll; simp at ll; omega)]
        refine w_text h (fun D1 h1 => go h1 ?_)
        rw [tx_n.2.2.2.2.2.2.2.2.2.2.2.2.2.1]
        show (if b = 1 then _ else _) ++ _ = _
        rw [if_neg e1, if_pos e2, if_pos e3]
      · rw [if_pos (by have := List.length_pos_iff.mpr e3; omega)]
        refine w_text h (fun D1 h1 => go h1 ?_)
        rw [tx_n.2.2.2.2.2.2.2.2.2.2.2.2.1]
        show (if b = 1 then _ else _) ++ _ = _
        rw [if_neg e1, if_pos e2, if_neg e3]
    · rw [if_neg e2]
      refine w_esc (q := true) h (fun D1 h1 => go h1 ?_)
      show (if b = 1 then _ else _) ++ _ = _
      rw [if_neg e1, if_neg e2]
theorem w_lab {A : Int} {m : List Int} (hm : rs D0 (A + 1) m) (h : ws D0 F fl D L) (hK : ∀ D', ws D0 F fl D' (L ++ labB m) → K D' 0) : WP sc 162 0 D [(0, (1210, 1955)), (1, (1205, A))] [] K E :=
  v162_0 (w_lab1 hm hK m [] D [] rfl (by simpa using h) rfl)
/-- a sample's name and labels, with one more or none -/
def smT (nm w m mo : List Int) : List Int := nm ++ w ++ (if m = [] ∧ mo = [] then [] else 123 :: (labB m ++ (if m = [] ∨ mo = [] then [] else [44]) ++ mo ++ [125])) ++ [32]
theorem w_samp0 {kd part C : Int} {nm un hl m : List Int} (hF : wfam D0 F nm un hl kd) (hp : 0 ≤ part ∧ part ≤ 6) (hm : rs D0 (C + 2) m) (hc : 0 < D0 (C + 1) 1 ↔ m ≠ []) (hC : 5 ≤ C + 1 ∧ C + 1 < 1955) (h : ws D0 F fl D L) (hK : ∀ D', ws D0 F fl D' (L ++ smT nm (wdl part) m []) → K D' 0) : WP sc 161 0 D [(0, (1210, 1955)), (1, (1201, C)), (2, (0, part)), (3, (0, 0))] [] K E := by
  have fb := hF.2.1.2.2.1
  refine v161_0 ?_
  rw [h.1 (C + 1) 1 (by omega) (by omega) (by omega), h.2.1, if_neg (show ¬ F = -1 from by omega), if_neg (show ¬ F = -1 from by omega)]
  have hm2 : rs D0 (C + 1 + 1) m := by rw [show C + 1 + 1 = C + 2 from by omega]; exact hm
  unfold smT at hK
  by_cases e : m = []
  · rw [if_neg (fun w => hc.mp w e)]
    rw [if_pos ⟨e, rfl⟩, List.append_nil] at hK
    refine w_row hF.2.1 h (fun D1 h1 => c_ptx (w_text h1 (fun D2 h2 => ?_)))
    rw [if_pos rfl]
    refine w_lab hm2 h2 (fun D3 h3 => ?_)
    rw [if_pos rfl]
    refine w_text h3 (fun D4 h4 => hK D4 ?_)
    rw [tx_ptx hp, tx_n.2.2.2.2.2.2.2.2.2.2.2.1, e] at h4
    simpa [List.append_assoc, labB] using h4
  · rw [if_pos (hc.mpr e)]
    rw [if_neg (fun w => e w.1), if_pos (Or.inr rfl)] at hK
    refine w_row hF.2.1 h (fun D1 h1 => c_ptx (w_text h1 (fun D2 h2 => w_push h2 (fun D3 h3 => w_lab hm2 h3 (fun D4 h4 => ?_)))))
    rw [if_pos rfl]
    refine w_text h4 (fun D5 h5 => hK D5 ?_)
    rw [tx_ptx hp, tx_n.2.2.2.2.2.2.2.2.2.2.1] at h5
    simpa [List.append_assoc] using h5
theorem w_samp1 {kd part C : Int} {nm un hl m : List Int} (hF : wfam D0 F nm un hl kd) (hp : 0 ≤ part ∧ part ≤ 6) (hm : rs D0 (C + 2) m) (hc : 0 < D0 (C + 1) 1 ↔ m ≠ []) (hC : 5 ≤ C + 1 ∧ C + 1 < 1955) (h : ws D0 F fl D L) (hK : ∀ D', ws D0 F fl D' (L ++ nm ++ wdl part ++ 123 :: (labB m ++ (if m = [] then [] else [44]))) → K D' 0) : WP sc 161 0 D [(0, (1210, 1955)), (1, (1201, C)), (2, (0, part)), (3, (0, 1))] [] K E := by
  have fb := hF.2.1.2.2.1
  refine v161_0 ?_
  rw [h.1 (C + 1) 1 (by omega) (by omega) (by omega), h.2.1, if_neg (show ¬ F = -1 from by omega), if_neg (show ¬ F = -1 from by omega)]
  have hm2 : rs D0 (C + 1 + 1) m := by rw [show C + 1 + 1 = C + 2 from by omega]; exact hm
  by_cases e : m = []
  · rw [if_neg (fun w => hc.mp w e)]
    rw [if_pos e] at hK
    refine w_row hF.2.1 h (fun D1 h1 => c_ptx (w_text h1 (fun D2 h2 => ?_)))
    rw [if_neg (by omega)]
    refine w_push h2 (fun D3 h3 => w_lab hm2 h3 (fun D4 h4 => ?_))
    rw [if_neg (by omega)]
    refine w_text h4 (fun D5 h5 => hK D5 ?_)
    rw [tx_ptx hp, tx_n.2.2.2.2.2.2.2.2.2.1] at h5
    simpa [List.append_assoc] using h5
  · rw [if_pos (hc.mpr e)]
    rw [if_neg e] at hK
    refine w_row hF.2.1 h (fun D1 h1 => c_ptx (w_text h1 (fun D2 h2 => w_push h2 (fun D3 h3 => w_lab hm2 h3 (fun D4 h4 => ?_)))))
    rw [if_neg (by omega)]
    refine w_text h4 (fun D5 h5 => hK D5 ?_)
    rw [tx_ptx hp, tx_n.2.2.2.2.2.2.2.2.1] at h5
    simpa [List.append_assoc] using h5
theorem smT_1 {nm w m mo : List Int} (h : mo ≠ []) : nm ++ w ++ 123 :: (labB m ++ (if m = [] then [] else [44])) ++ mo ++ [125, 32] = smT nm w m mo := by
  unfold smT
  rw [if_neg (show ¬ (m = [] ∧ mo = []) from fun q => h q.2)]
  by_cases e : m = []
  · rw [if_pos e, if_pos (Or.inl e)]; simp [List.append_assoc]
  · rw [if_neg e, if_neg (fun q => by rcases q with q | q; exact e q; exact h q)]; simp [List.append_assoc]
/-- an exemplar -/
def exT (fl has : Int) (m : List Int) (v t : Int) : List Int := if fl = 1 ∧ has = 1 then [32, 35, 32, 123] ++ labB m ++ [125, 32] ++ numT v ++ [32] ++ numT t else []
theorem w_ex {X has v t : Int} {m : List Int} (hfl : fl = 0 ∨ fl = 1) (hX : 5 ≤ X ∧ X < 1950) (h1 : D0 X 1 = has) (hh : has = 1 → rs D0 (X + 2) m ∧ D0 X 2 = v ∧ D0 X 3 = t ∧ (-1000000000000000000 ≤ v ∧ v ≤ 1000000000000000000) ∧ (-1000000000000000000 ≤ t ∧ t ≤ 1000000000000000000)) (h : ws D0 F fl D L) (hK : ∀ D', ws D0 F fl D' (L ++ exT fl has m v t) → K D' 0) : WP sc 163 0 D [(0, (1210, 1955)), (1, (1203, X))] [] K E := by
  refine v163_0 ?_
  rw [h.2.2.1]
  refine fun _ => ?_
  unfold exT at hK
  by_cases e : fl = 0
  · rw [if_pos e]
    rw [if_neg (fun w => by omega), List.append_nil] at hK
    exact hK D h
  rw [if_neg e, h.1 X 1 (by omega) (by omega) (by omega), h1]
  refine fun h01 => ?_
  by_cases e1 : has = 0
  · rw [if_pos e1]
    rw [if_neg (fun w => by omega), List.append_nil] at hK
    exact hK D h
  rw [if_neg e1]
  rw [if_pos ⟨by omega, by omega⟩] at hK
  obtain ⟨q1, q2, q3, q4, q5⟩ := hh (by omega)
  have q1' : rs D0 (X + 1 + 1) m := by rw [show X + 1 + 1 = X + 2 from by omega]; exact q1
  refine w_text h (fun D1 h1 => w_lab q1' h1 (fun D2 h2 => w_text h2 (fun D3 h3 => ?_)))
  rw [h3.1 X 2 (by omega) (by omega) (by omega), q2]
  refine w_num q4 h3 (fun D4 h4 => w_push h4 (fun D5 h5 => ?_))
  rw [h5.1 X 3 (by omega) (by omega) (by omega), q3]
  refine w_num q5 h5 (fun D6 h6 => hK D6 ?_)
  rw [tx_n.2.2.2.2.2.2.2.2.2.2.2.2.2.2, tx_n.2.2.2.2.2.2.2.2.2.2.1] at h6
  simpa [List.append_assoc] using h6
end WRC
