/-! what is written: bytes and numbers, both sides -/
section NUM
variable {sc : Nat × (Nat → Int32)} {D D' : tD} {K : tD → Int → Prop} {E : tD → Nat → Prop}
def p10 : Nat → Int
  | 0 => 1
  | n + 1 => 10 * p10 n
theorem p10_pos : ∀ n : Nat, 1 ≤ p10 n := by
  intro n
  induction n with
  | zero => unfold p10; omega
  | succ n ih => unfold p10; omega
theorem p10_mono : ∀ (m n : Nat), p10 n ≤ p10 (n + m) := by
  intro m n
  induction m with
  | zero => exact Int.le_refl _
  | succ m ih =>
    have := p10_pos (n + m)
    rw [show n + (m + 1) = (n + m) + 1 from rfl]
    show _ ≤ 10 * p10 (n + m)
    omega
theorem p10_le {m n : Nat} (h : m ≤ n) : p10 m ≤ p10 n := by
  have := p10_mono (n - m) m
  rw [show m + (n - m) = n from by omega] at this
  exact this
theorem p10_18 : p10 18 = 1000000000000000000 := by decide
def dgs (w : Int) : Nat → List Int
  | 0 => [48 + w / p10 0 % 10]
  | n + 1 => (48 + w / p10 (n + 1) % 10) :: dgs w n
def exO : Nat → Int → Nat
  | 0, _ => 0
  | n + 1, w => if w < 10 then 0 else exO n (w / 10) + 1
def exP (w : Int) (e : Nat) : Prop := e ≤ 17 ∧ (e = 0 ∨ p10 e ≤ w) ∧ w < p10 (e + 1)
theorem exO_P : ∀ (n : Nat) (w : Int), 0 ≤ w → w < p10 (n + 1) → exO n w ≤ n ∧ (exO n w = 0 ∨ p10 (exO n w) ≤ w) ∧ w < p10 (exO n w + 1) := by
  intro n
  induction n with
  | zero => intro w h1 h2; exact ⟨Nat.le_refl _, Or.inl rfl, h2⟩
  | succ n ih =>
    intro w h1 h2
    unfold exO
    by_cases e : w < 10
    · rw [if_pos e]
      refine ⟨by omega, Or.inl rfl, ?_⟩
      show w < 10 * 1
      omega
    · rw [if_neg e]
      have h3 : w < 10 * p10 (n + 1) := h2
      obtain ⟨a1, a2, a3⟩ := ih (w / 10) (by omega) (by omega)
      refine ⟨by omega, Or.inr ?_, ?_⟩
      · show 10 * p10 (exO n (w / 10)) ≤ w
        rcases a2 with a2 | a2
        · rw [a2]; show 10 * 1 ≤ w; omega
        · omega
      · show w < 10 * p10 (exO n (w / 10) + 1)
        omega
def whT (w : Int) : List Int := dgs w (exO 17 w)
theorem exP_O {w : Int} (h : 0 ≤ w ∧ w < 1000000000000000000) : exP w (exO 17 w) := exO_P 17 w h.1 (by rw [show 17 + 1 = 18 from rfl, p10_18]; exact h.2)
def restT (r : Int) : List Int := if r = 0 then [] else 46 :: (if r % 100 = 0 then dgs (r / 100) 0 else if r % 10 = 0 then dgs (r / 10) 1 else dgs r 2)
def numT (v : Int) : List Int := (if v < 0 then [45] else []) ++ whT ((if v < 0 then -v else v) / 1000) ++ restT ((if v < 0 then -v else v) % 1000)
theorem dgs_rng {w : Int} : ∀ (n : Nat), ∀ b ∈ dgs w n, 48 ≤ b ∧ b ≤ 57 := by
  intro n
  induction n with
  | zero => intro b h; rw [show dgs w 0 = [48 + w / p10 0 % 10] from rfl, List.mem_singleton] at h; omega
  | succ n ih =>
    intro b h
    rw [show dgs w (n + 1) = (48 + w / p10 (n + 1) % 10) :: dgs w n from rfl, List.mem_cons] at h
    rcases h with h | h
    · omega
    · exact ih b h
theorem dgs_len {w : Int} : ∀ (n : Nat), (dgs w n).length = n + 1 := by
  intro n
  induction n with
  | zero => rfl
  | succ n ih => show (dgs w n).length + 1 = _; rw [ih]
theorem exO_le : ∀ (n : Nat) (w : Int), exO n w ≤ n := by
  intro n
  induction n with
  | zero => intro w; exact Nat.le_refl _
  | succ n ih =>
    intro w
    unfold exO
    split
    · omega
    · have := ih (w / 10); omega
theorem restT_len (r : Int) : (restT r).length ≤ 4 := by
  unfold restT
  by_cases e : r = 0
  · rw [if_pos e]; simp
  · rw [if_neg e, List.length_cons]
    by_cases e1 : r % 100 = 0
    · rw [if_pos e1, dgs_len]; omega
    · rw [if_neg e1]
      by_cases e2 : r % 10 = 0
      · rw [if_pos e2, dgs_len]; omega
      · rw [if_neg e2, dgs_len]; omega
theorem numT_len (v : Int) : (numT v).length ≤ 30 := by
  unfold numT whT
  rw [List.length_append, List.length_append, dgs_len]
  have := exO_le 17 ((if v < 0 then -v else v) / 1000)
  have h1 : (if v < 0 then [(45 : Int)] else []).length ≤ 1 := by split <;> simp
  have h2 := restT_len ((if v < 0 then -v else v) % 1000)
  omega
theorem tdiv_nn {a b : Int} (h : 0 ≤ a) : Int.tdiv a b = a / b := Int.tdiv_eq_ediv_of_nonneg h
theorem tmod_nn {a b : Int} (h : 0 ≤ a) : Int.tmod a b = a % b := Int.tmod_eq_emod_of_nonneg h
theorem div_b {w p : Int} (hw : 0 ≤ w) (hp : 1 ≤ p) : 0 ≤ w / p ∧ w / p ≤ w := ⟨Int.ediv_nonneg hw (by omega), Int.ediv_le_self p hw⟩
theorem p10_div (e : Nat) : p10 (e + 1) / 10 = p10 e := by
  show 10 * p10 e / 10 = p10 e
  omega
/-! the class -/
theorem c_digits {r w : Int} {L : List Int} {D0 : tD} (hl : ln (r + 1) ≤ 20000) (hw : 0 ≤ w ∧ w < 1000000000000000000) : ∀ (e : Nat) (M : List Int) (D : tD), e ≤ 17 → wo D r M → frw D0 D r → (∀ D', wo D' r (M ++ dgs w e) → frw D0 D' r → K D' 0) → WP sc 97 37 D [(0, (1207, r)), (1, (1, w)), (5, (1, p10 e))] [] K E := by
  intro e
  induction e with
  | zero =>
    intro M D he hM hf hK
    refine v97_37 ?_
    rw [show p10 0 = 1 from rfl, if_pos (tlc_gt.mpr (by omega)), if_neg (by omega), tdiv_nn hw.1, w64_id (x := w / 1) (by omega) (by omega), tmod_nn (by omega), w32_id (x := w / 1 % 10) (by omega) (by omega), w32_id (x := 48 + w / 1 % 10) (by omega) (by omega)]
    refine c_wpush hl hM (fun D1 h1 f1 => v97_37 ?_)
    rw [show w64 (Int.tdiv 1 10) = 0 from by decide, if_neg (by rw [tlc_gt]; omega)]
    exact hK D1 h1 (frw_tr hf f1)
  | succ e ih =>
    intro M D he hM hf hK
    have hp := p10_pos (e + 1)
    have hq := p10_le (m := e + 1) (n := 18) (by omega)
    rw [p10_18] at hq
    obtain ⟨d1, d2⟩ := div_b hw.1 hp
    refine v97_37 ?_
    rw [if_pos (tlc_gt.mpr (by omega)), if_neg (by omega), tdiv_nn hw.1, w64_id (x := w / p10 (e + 1)) (by omega) (by omega), tmod_nn d1, w32_id (x := w / p10 (e + 1) % 10) (by omega) (by omega), w32_id (x := 48 + w / p10 (e + 1) % 10) (by omega) (by omega), tdiv_nn (by omega), p10_div e]
    have hp2 := p10_pos e
    have hq2 := p10_le (m := e) (n := 18) (by omega)
    rw [p10_18] at hq2
    rw [w64_id (x := p10 e) (by omega) (by omega)]
    refine c_wpush hl hM (fun D1 h1 f1 => ih _ D1 (by omega) h1 (frw_tr hf f1) (fun D2 h2 f2 => hK D2 ?_ f2))
    rw [List.append_assoc] at h2
    exact h2
theorem c_whole {r w : Int} {L : List Int} (hl : ln (r + 1) ≤ 20000) (hw : 0 ≤ w ∧ w < 1000000000000000000) (h : wo D r L) (hK : ∀ D', wo D' r (L ++ whT w) → frw D D' r → K D' 0) : WP sc 97 0 D [(0, (1207, r)), (1, (1, w))] [] K E := by
  obtain ⟨x1, x2, x3⟩ := exP_O hw
  generalize he : exO 17 w = e at *
  have fin : WP sc 97 37 D [(0, (1207, r)), (1, (1, w)), (5, (1, p10 e))] [] K E := c_digits (L := L) hl hw e L D x1 h frw_refl (fun D' h1 f1 => hK D' (by unfold whT; rw [he]; exact h1) f1)
  have loop : ∀ (m k : Nat), m + k = e → WP sc 97 5 D [(0, (1207, r)), (1, (1, w)), (3, (1, p10 k)), (5, (0, (k : Int)))] [] K E := by
    intro m
    induction m with
    | zero =>
      intro k hk
      have e2 : k = e := by omega
      subst e2
      refine v97_5 ?_
      rw [if_pos (by omega), tdiv_nn hw.1, w64_id (x := w / 10) (by omega) (by omega)]
      have x4 : w < 10 * p10 k := x3
      rw [if_pos (tlc_gt.mpr (by omega))]
      exact fin
    | succ m ih =>
      intro k hk
      refine v97_5 ?_
      have x4 : p10 e ≤ w := by rcases x2 with x2 | x2; omega; exact x2
      have x5 := p10_le (m := k + 1) (n := e) (by omega)
      have x6 : 10 * p10 k ≤ p10 e := x5
      rw [if_pos (by omega), tdiv_nn hw.1, w64_id (x := w / 10) (by omega) (by omega), if_neg (by rw [tlc_gt]; omega), w32_id (x := (k : Int) + 1) (by omega) (by omega)]
      have hp := p10_pos k
      rw [w64_id (x := p10 k * 10) (by omega) (by omega), show p10 k * 10 = p10 (k + 1) from by show _ = 10 * p10 k; omega]
      exact ih (k + 1) (by omega)
  exact v97_0 (loop e 0 (by omega))
theorem rst_1 {r : Int} (h : 0 < r ∧ r < 1000) : restT r = 46 :: (48 + r / 100) :: (if r % 100 = 0 then [] else (48 + r / 10 % 10) :: (if r % 10 = 0 then [] else [48 + r % 10])) := by
  unfold restT
  rw [if_neg (by omega)]
  congr 1
  by_cases e1 : r % 100 = 0
  · rw [if_pos e1, if_pos e1]
    show [48 + r / 100 / 1 % 10] = _
    congr 1
    omega
  · rw [if_neg e1, if_neg e1]
    by_cases e2 : r % 10 = 0
    · rw [if_pos e2, if_pos e2]
      show [48 + r / 10 / (10 * 1) % 10, 48 + r / 10 / 1 % 10] = _
      congr 1
      · omega
      · congr 1
        omega
    · rw [if_neg e2, if_neg e2]
      show [48 + r / (10 * (10 * 1)) % 10, 48 + r / (10 * 1) % 10, 48 + r / 1 % 10] = _
      have a1 : r / (10 * (10 * 1)) % 10 = r / 100 := by omega
      have a2 : r / (10 * 1) % 10 = r / 10 % 10 := by omega
      have a3 : r / 1 % 10 = r % 10 := by omega
      rw [a1, a2, a3]
theorem c_ntl {a0 r : Int} {L : List Int} {D0 : tD} (hl : ln (a0 + 1) ≤ 20000) (hr : 0 ≤ r ∧ r < 1000) (h : wo D a0 L) (hf : frw D0 D a0) (hK : ∀ D', wo D' a0 (L ++ restT r) → frw D0 D' a0 → K D' 0) : if r = 0 then (if Int.tmod r 100 = 0 then (if Int.tmod r 10 = 0 then (K D 0) else (WP sc 91 0 D [(0, (1207, a0)), (1, (0, w32 (48 + (Int.tmod r 10))))] [] (fun D7 _ => K D7 0) E)) else (WP sc 91 0 D [(0, (1207, a0)), (1, (0, w32 (48 + (Int.tmod (w32 (Int.tdiv r 10)) 10))))] [] (fun D10 _ => if Int.tmod r 10 = 0 then (K D10 0) else (WP sc 91 0 D10 [(0, (1207, a0)), (1, (0, w32 (48 + (Int.tmod r 10))))] [] (fun D13 _ => K D13 0) E)) E)) else (WP sc 91 0 D [(0, (1207, a0)), (1, (0, 46))] [] (fun D16 _ => WP sc 91 0 D16 [(0, (1207, a0)), (1, (0, w32 (48 + (w32 (Int.tdiv r 100)))))] [] (fun D19 _ => if Int.tmod r 100 = 0 then (if Int.tmod r 10 = 0 then (K D19 0) else (WP sc 91 0 D19 [(0, (1207, a0)), (1, (0, w32 (48 + (Int.tmod r 10))))] [] (fun D22 _ => K D22 0) E)) else (WP sc 91 0 D19 [(0, (1207, a0)), (1, (0, w32 (48 + (Int.tmod (w32 (Int.tdiv r 10)) 10))))] [] (fun D25 _ => if Int.tmod r 10 = 0 then (K D25 0) else (WP sc 91 0 D25 [(0, (1207, a0)), (1, (0, w32 (48 + (Int.tmod r 10))))] [] (fun D28 _ => K D28 0) E)) E)) E) E) := by
  rw [tmod_nn hr.1, tmod_nn hr.1, tdiv_nn hr.1, tdiv_nn hr.1, w32_id (x := r / 10) (by omega) (by omega), w32_id (x := r / 100) (by omega) (by omega), tmod_nn (by omega), w32_id (x := 48 + r % 10) (by omega) (by omega), w32_id (x := 48 + r / 10 % 10) (by omega) (by omega), w32_id (x := 48 + r / 100) (by omega) (by omega)]
  by_cases e : r = 0
  · rw [if_pos e, if_pos (by omega), if_pos (by omega)]
    refine hK D ?_ hf
    unfold restT
    rw [if_pos e, List.append_nil]
    exact h
  · rw [if_neg e]
    have R := rst_1 (r := r) (by omega)
    rw [R] at hK
    refine c_wpush hl h (fun D1 h1 f1 => c_wpush hl h1 (fun D2 h2 f2 => ?_))
    have f12 := frw_tr (frw_tr hf f1) f2
    rw [List.append_assoc, List.singleton_append] at h2
    by_cases e1 : r % 100 = 0
    · rw [if_pos e1, if_pos (by omega)]
      rw [if_pos e1] at hK
      exact hK D2 h2 f12
    · rw [if_neg e1]
      rw [if_neg e1] at hK
      refine c_wpush hl h2 (fun D3 h3 f3 => ?_)
      rw [List.append_assoc, List.cons_append, List.singleton_append] at h3
      by_cases e2 : r % 10 = 0
      · rw [if_pos e2]
        rw [if_pos e2] at hK
        exact hK D3 h3 (frw_tr f12 f3)
      · rw [if_neg e2]
        rw [if_neg e2] at hK
        refine c_wpush hl h3 (fun D4 h4 f4 => hK D4 ?_ (frw_tr (frw_tr f12 f3) f4))
        rw [List.append_assoc, List.cons_append, List.cons_append, List.singleton_append] at h4
        exact h4
theorem c_wnum {a0 v : Int} {L : List Int} (hl : ln (a0 + 1) ≤ 20000) (hv : -1000000000000000000 ≤ v ∧ v ≤ 1000000000000000000) (h : wo D a0 L) (hK : ∀ D', wo D' a0 (L ++ numT v) → frw D D' a0 → K D' 0) : WP sc 96 0 D [(0, (1207, a0)), (1, (1, v))] [] K E := by
  refine v96_0 ?_
  unfold numT at hK
  by_cases e : v < 0
  · rw [if_pos e, if_pos e] at hK
    have e1 : tlc v 0 < 0 := tlc_lt.mpr e
    rw [if_pos e1, if_pos e1, w64_id (x := -v) (by omega) (by omega), tdiv_nn (by omega), w64_id (x := -v / 1000) (by omega) (by omega), tmod_nn (by omega), w32_id (x := -v % 1000) (by omega) (by omega)]
    refine c_wpush hl h (fun D1 h1 f1 => c_whole hl (by omega) h1 (fun D2 h2 f2 => ?_))
    exact c_ntl hl (by omega) h2 (frw_tr f1 f2) (fun D3 h3 f3 => hK D3 (by simpa [List.append_assoc] using h3) f3)
  · rw [if_neg e, if_neg e] at hK
    have e1 : ¬ tlc v 0 < 0 := fun w => e (tlc_lt.mp w)
    rw [if_neg e1, if_neg e1, tdiv_nn (by omega), w64_id (x := v / 1000) (by omega) (by omega), tmod_nn (by omega), w32_id (x := v % 1000) (by omega) (by omega)]
    refine c_whole hl (by omega) h (fun D2 h2 f2 => ?_)
    exact c_ntl hl (by omega) h2 f2 (fun D3 h3 f3 => hK D3 (by simpa [List.append_assoc] using h3) f3)
/-- escaped -/
def escT (q : Bool) (b : Int) : List Int := if b = 10 then [92, 110] else if b = 92 then [92, 92] else if b = 34 then (if q then [92, 34] else [34]) else [b]
theorem c_esc {a0 b : Int} {q : Bool} {L : List Int} (hl : ln (a0 + 1) ≤ 20000) (h : wo D a0 L) (hK : ∀ D', wo D' a0 (L ++ escT q b) → frw D D' a0 → K D' 0) : WP sc 95 0 D [(0, (1207, a0)), (1, (0, b)), (2, (0, if q then 1 else 0))] [] K E := by
  refine v95_0 ?_
  unfold escT at hK
  have two : ∀ x y, (∀ D', wo D' a0 (L ++ [x, y]) → frw D D' a0 → K D' 0) → WP sc 91 0 D [(0, (1207, a0)), (1, (0, x))] [] (fun D1 _ => WP sc 91 0 D1 [(0, (1207, a0)), (1, (0, y))] [] (fun D4 _ => K D4 0) E) E := fun x y hk => c_wpush hl h (fun D1 h1 f1 => c_wpush hl h1 (fun D2 h2 f2 => hk D2 (by simpa [List.append_assoc] using h2) (frw_tr f1 f2)))
  by_cases e1 : b = 10
  · rw [if_pos e1] at hK ⊢
    exact two _ _ hK
  rw [if_neg e1] at hK ⊢
  by_cases e2 : b = 92
  · rw [if_pos e2] at hK ⊢
    rw [e2]
    exact two _ _ hK
  rw [if_neg e2] at hK ⊢
  by_cases e3 : b = 34
  · rw [if_pos e3] at hK ⊢
    rw [e3]
    cases q
    · rw [if_pos (by rfl)]
      exact c_wpush hl h hK
    · rw [if_neg (by decide)]
      exact two _ _ hK
  · rw [if_neg e3] at hK ⊢
    exact c_wpush hl h hK
/-! the other side -/
def mo (D : tD) (L : List Int) : Prop := D 1977 44 = (L.length : Int) ∧ (L.length ≤ 12000 → atL D 2014 0 L)
def frm (D D' : tD) : Prop := ∀ a j, a ≠ 2014 → ¬ (a = 1977 ∧ j = 44) → D' a j = D a j
theorem frm_refl : frm D D := fun _ _ _ _ => rfl
theorem frm_tr {D1 D2 D3 : tD} (h1 : frm D1 D2) (h2 : frm D2 D3) : frm D1 D3 := fun a i u v => by rw [h2 a i u v, h1 a i u v]
theorem m_put {b : Int} {L : List Int} (hn : L.length ≤ 2000000000) (h : mo D L) (hK : ∀ D', mo D' (L ++ [b]) → frm D D' → K D' 0) : WP sc 231 0 D [(0, (1211, 1977)), (1, (0, b))] [] K E := by
  obtain ⟨h1, h2⟩ := h
  refine v231_0 ?_
  by_cases e : D 1977 44 < 12000
  · rw [if_pos e]
    refine ⟨by omega, ?_⟩
    rw [wr_ne (by omega), w32_id (by omega) (by omega)]
    refine hK _ ⟨by rw [wr_self, List.length_append, List.length_singleton]; omega, fun _ => ?_⟩ (fun a j u v => ?_)
    · rw [atL_app]
      refine ⟨atL_fr (fun j x y => ?_) (h2 (by omega)), ?_, trivial⟩
      · rw [wr_ne (by omega), wr_ni (by omega)]
      · rw [wr_ne (by omega), show (0 : Int) + (L.length : Int) = D 1977 44 from by omega, wr_self]
    · simp only [wr]
      rw [if_neg v, if_neg (fun w => u w.1)]
  · rw [if_neg e, w32_id (by omega) (by omega)]
    refine hK _ ⟨by rw [wr_self, List.length_append, List.length_singleton]; omega, fun w => ?_⟩ (fun a j u v => ?_)
    · rw [List.length_append, List.length_singleton] at w; omega
    · simp only [wr]
      rw [if_neg v]
/-- the letters of a word -/
def wdl (w : Int) : List Int := spn (ltr w) 0 (ltn w).toNat
theorem m_word1 {w : Int} {L : List Int} {D0 : tD} (hw : 0 ≤ w ∧ w < 18) (hn : L.length ≤ 1900000000) (hK : ∀ D', mo D' (L ++ wdl w) → frm D0 D' → K D' 0) : ∀ (m k : Nat) (D : tD), (m : Int) + (k : Int) = ltn w → mo D (L ++ spn (ltr w) 0 k) → frm D0 D → WP sc 232 2 D [(0, (1211, 1977)), (1, (0, w)), (2, (0, (k : Int)))] [] K E := by
  have hl := ltn_le hw
  intro m
  induction m with
  | zero =>
    intro k D hm h hf
    refine v232_2 (m_letters hw ?_)
    rw [if_neg (by omega)]
    refine hK D ?_ hf
    unfold wdl
    rw [show (ltn w).toNat = k from by omega]
    exact h
  | succ m ih =>
    intro k D hm h hf
    refine v232_2 (m_letters hw ?_)
    rw [if_pos (by omega)]
    refine m_letter (m_put (by rw [List.length_append, spn_len]; omega) h (fun D1 h1 f1 => ?_))
    rw [w32_id (x := (k : Int) + 1) (by omega) (by omega)]
    refine ih (k + 1) D1 (by omega) ?_ (frm_tr hf f1)
    rw [spn_snoc, ← List.append_assoc, show (0 : Int) + (k : Int) = (k : Int) from by omega]
    exact h1
theorem m_putW {w : Int} {L : List Int} (hw : 0 ≤ w ∧ w < 18) (hn : L.length ≤ 1900000000) (h : mo D L) (hK : ∀ D', mo D' (L ++ wdl w) → frm D D' → K D' 0) : WP sc 232 0 D [(0, (1211, 1977)), (1, (0, w))] [] K E := by
  have hl := ltn_le hw
  refine v232_0 (m_word1 hw hn hK (ltn w).toNat 0 D (by omega) ?_ frm_refl)
  rw [show spn (ltr w) 0 0 = [] from rfl, List.append_nil]
  exact h
theorem m_bytes1 {arr o n : Int} {L : List Int} {D0 : tD} (ha : arr ≠ 2014 ∧ arr ≠ 1977) (hb : 0 ≤ o ∧ 0 ≤ n ∧ o + n ≤ ln arr ∧ o + n ≤ 1000000) (hn : L.length ≤ 1900000000) (hK : ∀ D', mo D' (L ++ spn (D0 arr) o n.toNat) → frm D0 D' → K D' 0) : ∀ (m k : Nat) (D : tD), (m : Int) + (k : Int) = n → mo D (L ++ spn (D0 arr) o k) → frm D0 D → WP sc 233 3 D [(0, (1211, 1977)), (1, (1000, arr)), (2, (0, o)), (3, (0, n)), (4, (0, o + (k : Int)))] [] K E := by
  intro m
  induction m with
  | zero =>
    intro k D hm h hf
    refine v233_3 ?_
    rw [w32_id (x := o + n) (by omega) (by omega), if_neg (by omega)]
    refine hK D ?_ hf
    rw [show n.toNat = k from by omega]
    exact h
  | succ m ih =>
    intro k D hm h hf
    refine v233_3 ?_
    rw [w32_id (x := o + n) (by omega) (by omega), if_pos (by omega)]
    refine ⟨by omega, m_put (by rw [List.length_append, spn_len]; omega) h (fun D1 h1 f1 => ?_)⟩
    rw [w32_id (x := o + (k : Int) + 1) (by omega) (by omega), show o + (k : Int) + 1 = o + ((k + 1 : Nat) : Int) from by omega]
    refine ih (k + 1) D1 (by omega) ?_ (frm_tr hf f1)
    rw [spn_snoc, ← List.append_assoc, ← hf arr _ ha.1 (fun w => ha.2 w.1)]
    exact h1
theorem m_bytes {arr o n : Int} {L : List Int} (ha : arr ≠ 2014 ∧ arr ≠ 1977) (hb : 0 ≤ o ∧ 0 ≤ n ∧ o + n ≤ ln arr ∧ o + n ≤ 1000000) (hn : L.length ≤ 1900000000) (h : mo D L) (hK : ∀ D', mo D' (L ++ spn (D arr) o n.toNat) → frm D D' → K D' 0) : WP sc 233 0 D [(0, (1211, 1977)), (1, (1000, arr)), (2, (0, o)), (3, (0, n))] [] K E := by
  have q := m_bytes1 (sc := sc) (E := E) ha hb hn hK n.toNat 0 D (by omega) (by rw [show spn (D arr) o 0 = [] from rfl, List.append_nil]; exact h) frm_refl
  rw [show o + ((0 : Nat) : Int) = o from by omega] at q
  exact v233_0 q
theorem m_esc {b : Int} {q : Bool} {L : List Int} (hn : L.length ≤ 1900000000) (h : mo D L) (hK : ∀ D', mo D' (L ++ escT q b) → frm D D' → K D' 0) : WP sc 234 0 D [(0, (1211, 1977)), (1, (0, b)), (2, (0, if q then 1 else 0))] [] K E := by
  refine v234_0 ?_
  unfold escT at hK
  have l1 : ∀ x : Int, (L ++ [x]).length ≤ 2000000000 := fun x => by rw [List.length_append, List.length_singleton]; omega
  by_cases e1 : b = 10
  · rw [if_pos e1] at hK ⊢
    refine m_put (by omega) h (fun D1 h1 f1 => ?_)
    rw [if_pos e1]
    exact m_put (l1 _) h1 (fun D2 h2 f2 => hK D2 (by simpa [List.append_assoc] using h2) (frm_tr f1 f2))
  rw [if_neg e1] at hK ⊢
  by_cases e2 : b = 92
  · rw [if_pos e2] at hK ⊢
    refine m_put (by omega) h (fun D1 h1 f1 => ?_)
    rw [if_neg e1, e2]
    exact m_put (l1 _) h1 (fun D2 h2 f2 => hK D2 (by simpa [List.append_assoc] using h2) (frm_tr f1 f2))
  rw [if_neg e2] at hK ⊢
  by_cases e3 : b = 34
  · rw [if_pos e3] at hK ⊢
    cases q
    · rw [if_pos (by rfl), if_neg e1, e3]
      exact m_put (by omega) h hK
    · rw [if_neg (by decide)]
      refine m_put (by omega) h (fun D1 h1 f1 => ?_)
      rw [if_neg e1, e3]
      exact m_put (l1 _) h1 (fun D2 h2 f2 => hK D2 (by simpa [List.append_assoc] using h2) (frm_tr f1 f2))
  · rw [if_neg e3, if_neg e1]
    rw [if_neg e3] at hK
    exact m_put (by omega) h hK
theorem m_digits {w : Int} {D0 : tD} (hw : 0 ≤ w ∧ w < 1000000000000000000) : ∀ (e : Nat) (M : List Int) (D : tD), e ≤ 17 → M.length + e ≤ 2000000000 → mo D M → frm D0 D → (∀ D', mo D' (M ++ dgs w e) → frm D0 D' → K D' 0) → WP sc 235 26 D [(0, (1211, 1977)), (1, (1, w)), (4, (1, p10 e))] [] K E := by
  intro e
  induction e with
  | zero =>
    intro M D he hn hM hf hK
    refine v235_26 ?_
    rw [show p10 0 = 1 from rfl, if_pos (tlc_gt.mpr (by omega)), if_neg (by omega), tdiv_nn hw.1, w64_id (x := w / 1) (by omega) (by omega), tmod_nn (by omega), w64_id (x := 48 + w / 1 % 10) (by omega) (by omega), w32_id (x := 48 + w / 1 % 10) (by omega) (by omega)]
    refine m_put (by omega) hM (fun D1 h1 f1 => v235_26 ?_)
    rw [show w64 (Int.tdiv 1 10) = 0 from by decide, if_neg (by rw [tlc_gt]; omega)]
    exact hK D1 h1 (frm_tr hf f1)
  | succ e ih =>
    intro M D he hn hM hf hK
    have hp := p10_pos (e + 1)
    have hq := p10_le (m := e + 1) (n := 18) (by omega)
    rw [p10_18] at hq
    obtain ⟨d1, d2⟩ := div_b hw.1 hp
    refine v235_26 ?_
    rw [if_pos (tlc_gt.mpr (by omega)), if_neg (by omega), tdiv_nn hw.1, w64_id (x := w / p10 (e + 1)) (by omega) (by omega), tmod_nn d1, w64_id (x := 48 + w / p10 (e + 1) % 10) (by omega) (by omega), w32_id (x := 48 + w / p10 (e + 1) % 10) (by omega) (by omega), tdiv_nn (by omega), p10_div e]
    have hp2 := p10_pos e
    have hq2 := p10_le (m := e) (n := 18) (by omega)
    rw [p10_18] at hq2
    rw [w64_id (x := p10 e) (by omega) (by omega)]
    refine m_put (by omega) hM (fun D1 h1 f1 => ih _ D1 (by omega) (by rw [List.length_append, List.length_singleton]; omega) h1 (frm_tr hf f1) (fun D2 h2 f2 => hK D2 ?_ f2))
    rw [List.append_assoc] at h2
    exact h2
theorem m_whole {w : Int} {e : Nat} {L : List Int} (hw : 0 ≤ w ∧ w < 1000000000000000000) (he : e ≤ 17) (hn : L.length ≤ 1900000000) (h : mo D L) (hK : ∀ D', mo D' (L ++ dgs w e) → frm D D' → K D' 0) : WP sc 235 0 D [(0, (1211, 1977)), (1, (1, w)), (3, (0, (e : Int) + 1))] [] K E := by
  have loop : ∀ (m k : Nat), m + k = e → WP sc 235 6 D [(0, (1211, 1977)), (1, (1, w)), (3, (0, (e : Int) + 1)), (4, (1, p10 k)), (6, (0, (k : Int) + 1))] [] K E := by
    intro m
    induction m with
    | zero =>
      intro k hk
      have e2 : k = e := by omega
      subst e2
      refine v235_6 ?_
      rw [if_neg (by omega)]
      exact m_digits hw k L D he (by omega) h frm_refl hK
    | succ m ih =>
      intro k hk
      refine v235_6 ?_
      have hp := p10_pos k
      have hq := p10_le (m := k + 1) (n := 18) (by omega)
      have hq2 : 10 * p10 k ≤ p10 18 := hq
      rw [p10_18] at hq2
      rw [if_pos (by omega), w64_id (x := p10 k * 10) (by omega) (by omega), w32_id (x := (k : Int) + 1 + 1) (by omega) (by omega), show p10 k * 10 = p10 (k + 1) from by show _ = 10 * p10 k; omega]
      exact ih (k + 1) (by omega)
  exact v235_0 (loop e 0 (by omega))
theorem m_digOf {w : Int} (hw : 0 ≤ w ∧ w < 1000000000000000000) (hK : K D ((exO 17 w : Nat) + 1 : Int)) : WP sc 236 0 D [(0, (1, w))] [] K E := by
  obtain ⟨x1, x2, x3⟩ := exP_O hw
  generalize exO 17 w = e at *
  have loop : ∀ (m k : Nat), m + k = e → WP sc 236 8 D [(2, (0, (k : Int) + 1)), (3, (1, w / p10 (k + 1)))] [] K E := by
    intro m
    induction m with
    | zero =>
      intro k hk
      have e2 : k = e := by omega
      subst e2
      refine v236_8 ?_
      rw [show w / p10 (k + 1) = 0 from Int.ediv_eq_zero_of_lt hw.1 x3, if_neg (by rw [tlc_gt]; omega)]
      exact hK
    | succ m ih =>
      intro k hk
      refine v236_8 ?_
      have x4 : p10 e ≤ w := by rcases x2 with x2 | x2; omega; exact x2
      have x5 := p10_le (m := k + 1) (n := e) (by omega)
      have hp := p10_pos (k + 1)
      have hd := div_b hw.1 hp
      have h1 : 1 ≤ w / p10 (k + 1) := by
        have := Int.ediv_le_ediv (a := p10 (k + 1)) (b := w) (c := p10 (k + 1)) (by omega) (by omega)
        rw [Int.ediv_self (by omega)] at this
        exact this
      rw [if_pos (tlc_gt.mpr (by omega)), w32_id (x := (k : Int) + 1 + 1) (by omega) (by omega), tdiv_nn hd.1, w64_id (x := w / p10 (k + 1) / 10) (by omega) (by omega)]
      have q : w / p10 (k + 1) / 10 = w / p10 (k + 1 + 1) := by
        rw [Int.ediv_ediv_of_nonneg (by omega)]
        congr 1
        show p10 (k + 1) * 10 = 10 * p10 (k + 1)
        omega
      rw [q]
      exact ih (k + 1) (by omega)
  refine v236_0 ?_
  rw [tdiv_nn hw.1, w64_id (x := w / 10) (by omega) (by omega)]
  exact loop e 0 (by omega)
theorem m_ntl {r : Int} {L : List Int} {D0 : tD} (hr : 0 ≤ r ∧ r < 1000) (hn : L.length ≤ 1800000000) (h : mo D L) (hf : frm D0 D) (hK : ∀ D', mo D' (L ++ restT r) → frm D0 D' → K D' 0) : if tlc r 0 = 0 then (K D 0) else (WP sc 231 0 D [(0, (1211, 1977)), (1, (0, 46))] [] (fun D10 _ => if tlc (Int.tmod r 100) 0 = 0 then (WP sc 235 0 D10 [(0, (1211, 1977)), (1, (1, w64 (Int.tdiv r 100))), (3, (0, 1))] [] (fun D13 _ => K D13 0) E) else (if tlc (Int.tmod r 10) 0 = 0 then (WP sc 235 0 D10 [(0, (1211, 1977)), (1, (1, w64 (Int.tdiv r 10))), (3, (0, 2))] [] (fun D16 _ => K D16 0) E) else (WP sc 235 0 D10 [(0, (1211, 1977)), (1, (1, r)), (3, (0, 3))] [] (fun D19 _ => K D19 0) E))) E) := by
  rw [tmod_nn hr.1, tmod_nn hr.1, tdiv_nn hr.1, tdiv_nn hr.1, w64_id (x := r / 100) (by omega) (by omega), w64_id (x := r / 10) (by omega) (by omega)]
  unfold restT at hK
  by_cases e : r = 0
  · rw [if_pos (tlc_eq.mpr e)]
    rw [if_pos e, List.append_nil] at hK
    exact hK D h hf
  · rw [if_neg (fun w => e (tlc_eq.mp w))]
    rw [if_neg e] at hK
    refine m_put (by omega) h (fun D1 h1 f1 => ?_)
    have l1 : (L ++ [(46 : Int)]).length ≤ 1900000000 := by rw [List.length_append, List.length_singleton]; omega
    have fi := frm_tr hf f1
    by_cases e1 : r % 100 = 0
    · rw [if_pos (tlc_eq.mpr e1)]
      rw [if_pos e1] at hK
      exact m_whole (e := 0) (by omega) (by omega) l1 h1 (fun D2 h2 f2 => hK D2 (by simpa [List.append_assoc] using h2) (frm_tr fi f2))
    · rw [if_neg (fun w => e1 (tlc_eq.mp w))]
      rw [if_neg e1] at hK
      by_cases e2 : r % 10 = 0
      · rw [if_pos (tlc_eq.mpr e2)]
        rw [if_pos e2] at hK
        exact m_whole (e := 1) (by omega) (by omega) l1 h1 (fun D2 h2 f2 => hK D2 (by simpa [List.append_assoc] using h2) (frm_tr fi f2))
      · rw [if_neg (fun w => e2 (tlc_eq.mp w))]
        rw [if_neg e2] at hK
        exact m_whole (e := 2) (by omega) (by omega) l1 h1 (fun D2 h2 f2 => hK D2 (by simpa [List.append_assoc] using h2) (frm_tr fi f2))
theorem m_pnum {v : Int} {L : List Int} (hv : -1000000000000000000 ≤ v ∧ v ≤ 1000000000000000000) (hn : L.length ≤ 1700000000) (h : mo D L) (hK : ∀ D', mo D' (L ++ numT v) → frm D D' → K D' 0) : WP sc 237 0 D [(0, (1211, 1977)), (1, (1, v))] [] K E := by
  refine v237_0 ?_
  unfold numT at hK
  have wl : ∀ w : Int, (whT w).length ≤ 18 := fun w => by unfold whT; rw [dgs_len]; have := exO_le 17 w; omega
  by_cases e : v < 0
  · rw [if_pos e, if_pos e] at hK
    have e1 : tlc v 0 < 0 := tlc_lt.mpr e
    rw [if_pos e1]
    refine m_put (by omega) h (fun D1 h1 f1 => ?_)
    rw [if_pos e1, w64_id (x := -v) (by omega) (by omega), tdiv_nn (by omega), w64_id (x := -v / 1000) (by omega) (by omega), tmod_nn (by omega)]
    refine m_digOf (by omega) (m_whole (by omega) (exP_O (by omega)).1 (by rw [List.length_append, List.length_singleton]; omega) h1 (fun D2 h2 f2 => ?_))
    refine m_ntl (by omega) ?_ h2 (frm_tr f1 f2) (fun D3 h3 f3 => hK D3 (by unfold whT; simpa [List.append_assoc] using h3) f3)
    have := wl (-v / 1000)
    unfold whT at this
    rw [List.length_append, List.length_append, List.length_singleton]; omega
  · rw [if_neg e, if_neg e] at hK
    have e1 : ¬ tlc v 0 < 0 := fun w => e (tlc_lt.mp w)
    rw [if_neg e1, if_neg e1, tdiv_nn (by omega), w64_id (x := v / 1000) (by omega) (by omega), tmod_nn (by omega)]
    refine m_digOf (by omega) (m_whole (by omega) (exP_O (by omega)).1 (by omega) h (fun D2 h2 f2 => ?_))
    refine m_ntl (by omega) ?_ h2 f2 (fun D3 h3 f3 => hK D3 (by unfold whT; simpa [List.append_assoc] using h3) f3)
    have := wl (v / 1000)
    unfold whT at this
    rw [List.length_append]; omega
end NUM
