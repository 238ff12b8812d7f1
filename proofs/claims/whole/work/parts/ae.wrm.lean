/-! the writer of the other side -/
section WRM
variable {sc : Nat × (Nat → Int32)} {D D0 B D' : tD} {K : tD → Int → Prop} {E : tD → Nat → Prop} {c s fl : Int} {L : List Int}
/-- D0: where the sheets are read off; B: where the writing began -/
def ms (D0 B D : tD) (L : List Int) : Prop := mo D L ∧ frm B D ∧ ∀ a j, (5 ≤ a ∧ a ≤ 1954) ∨ (1979 ≤ a ∧ a ≤ 2008) → D a j = D0 a j
theorem ms_to {M : List Int} (h : ms D0 B D L) (hf : frm D D') (hm : mo D' M) : ms D0 B D' M := ⟨hm, frm_tr h.2.1 hf, fun a j u => by rw [hf a j (by omega) (by omega)]; exact h.2.2 a j u⟩
theorem q_push {b : Int} (h : ms D0 B D L) (hn : L.length ≤ 1000000000) (hK : ∀ D', ms D0 B D' (L ++ [b]) → K D' 0) : WP sc 231 0 D [(0, (1211, 1977)), (1, (0, b))] [] K E := m_put (by omega) h.1 (fun D1 h1 f1 => hK D1 (ms_to h f1 h1))
theorem q_word {w : Int} (hw : 0 ≤ w ∧ w < 18) (h : ms D0 B D L) (hn : L.length ≤ 1000000000) (hK : ∀ D', ms D0 B D' (L ++ wdl w) → K D' 0) : WP sc 232 0 D [(0, (1211, 1977)), (1, (0, w))] [] K E := m_putW hw (by omega) h.1 (fun D1 h1 f1 => hK D1 (ms_to h f1 h1))
theorem q_num {v : Int} (hv : -1000000000000000000 ≤ v ∧ v ≤ 1000000000000000000) (h : ms D0 B D L) (hn : L.length ≤ 1000000000) (hK : ∀ D', ms D0 B D' (L ++ numT v) → K D' 0) : WP sc 237 0 D [(0, (1211, 1977)), (1, (1, v))] [] K E := m_pnum hv (by omega) h.1 (fun D1 h1 f1 => hK D1 (ms_to h f1 h1))
theorem q_esc {b : Int} {q : Bool} (h : ms D0 B D L) (hn : L.length ≤ 1000000000) (hK : ∀ D', ms D0 B D' (L ++ escT q b) → K D' 0) : WP sc 234 0 D [(0, (1211, 1977)), (1, (0, b)), (2, (0, if q then 1 else 0))] [] K E := m_esc (by omega) h.1 (fun D1 h1 f1 => hK D1 (ms_to h f1 h1))
theorem q_bytes {arr o n : Int} (ha : 1979 ≤ arr ∧ arr ≤ 2008) (hb : 0 ≤ o ∧ 0 ≤ n ∧ o + n ≤ ln arr ∧ o + n ≤ 1000000) (h : ms D0 B D L) (hn : L.length ≤ 1000000000) (hK : ∀ D', ms D0 B D' (L ++ spn (D0 arr) o n.toNat) → K D' 0) : WP sc 233 0 D [(0, (1211, 1977)), (1, (1000, arr)), (2, (0, o)), (3, (0, n))] [] K E := m_bytes (by omega) hb (by omega) h.1 (fun D1 h1 f1 => hK D1 (ms_to h f1 (by
  rw [show D arr = D0 arr from funext (fun j => h.2.2 arr j (by omega))] at h1
  exact h1)))
/-- bytes of names need no escape -/
def okl : Bool → List Int → Prop
  | _, [] => True
  | v, b :: r => if b = 1 then okl true r else if b = 2 then okl false r else (v = false → escT true b = [b]) ∧ okl v r
theorem okl_val {r : List Int} (hr : okl false r) : ∀ (v : List Int), (∀ b ∈ v, txt b) → okl true (v ++ 2 :: r) := by
  intro v
  induction v with
  | nil => intro _; show (if (2 : Int) = 1 then _ else _); rw [if_neg (by decide), if_pos rfl]; exact hr
  | cons b v ih =>
    intro h
    have hb := h b (by simp)
    unfold txt at hb
    show (if b = 1 then _ else _)
    rw [if_neg (by omega), if_neg (by omega)]
    exact ⟨fun q => absurd q (by decide), ih (fun x hx => h x (by simp [hx]))⟩
theorem okl_nam {r : List Int} (hr : okl true r) : ∀ (n : List Int), (∀ b ∈ n, srt 4 b = true) → okl false (n ++ 1 :: r) := by
  intro n
  induction n with
  | nil => intro _; show (if (1 : Int) = 1 then _ else _); rw [if_pos rfl]; exact hr
  | cons b n ih =>
    intro h
    have hb := h b (by simp)
    rw [srt_iff] at hb
    show (if b = 1 then _ else _)
    rw [if_neg (by omega), if_neg (by omega)]
    refine ⟨fun _ => ?_, ih (fun x hx => h x (by simp [hx]))⟩
    unfold escT
    rw [if_neg (by omega), if_neg (by omega), if_neg (by omega)]
theorem okl_fl : ∀ (S : List (List Int)), (∀ x ∈ S, lbl x) → okl false S.flatten := by
  intro S
  induction S with
  | nil => intro _; exact trivial
  | cons x S ih =>
    intro h
    obtain ⟨n, v, e, hn, hv⟩ := h x (by simp)
    rw [List.flatten_cons, e, show n ++ 1 :: (v ++ [2]) ++ S.flatten = n ++ 1 :: (v ++ 2 :: S.flatten) from by simp]
    exact okl_nam (okl_val (ih (fun y hy => h y (by simp [hy]))) v hv.2) n hn.2.2.1
theorem q_lab1 {arr o : Int} {m M : List Int} (ha : 1979 ≤ arr ∧ arr ≤ 2008) (hm : atL D0 arr o m) (hb : 0 ≤ o ∧ o + (m.length : Int) ≤ ln arr ∧ o + (m.length : Int) ≤ 1000000) (hn : (M ++ labB m).length ≤ 1000000000) (hK : ∀ D', ms D0 B D' (M ++ labB m) → K D' 0) : ∀ (t p : List Int) (v : Bool) (D : tD) (P : List Int), m = p ++ t → okl v t → ms D0 B D (M ++ P) → P ++ labB t = labB m → WP sc 238 6 D [(0, (1211, 1977)), (1, (1000, arr)), (2, (0, o)), (3, (0, (m.length : Int))), (4, (0, if v then 1 else 0)), (5, (0, o + (p.length : Int)))] [] K E := by
  intro t
  induction t with
  | nil =>
    intro p v D P hp hv h hP
    rw [List.append_nil] at hp
    subst hp
    refine v238_6 ?_
    rw [w32_id (x := o + (m.length : Int)) (by omega) (by omega), if_neg (by omega)]
    refine hK D ?_
    rw [← hP]
    simpa [labB] using h
  | cons b t ih =>
    intro p v D P hp hv h hP
    have ll : (m.length : Int) = (p.length : Int) + (t.length : Int) + 1 := by rw [hp, List.length_append, List.length_cons]; omega
    have hat : D0 arr (o + (p.length : Int)) = b := by
      rw [hp, atL_app] at hm
      exact hm.2.1
    have e0 : D arr (o + (p.length : Int)) = b := by rw [h.2.2 _ _ (by omega)]; exact hat
    have hl : (M ++ P).length ≤ 1000000000 := by
      rw [← hP] at hn
      simp only [List.length_append] at hn ⊢
      omega
    have hl1 : ∀ {Q : List Int}, labB (b :: t) = Q ++ labB t → (M ++ P ++ Q).length ≤ 1000000000 := fun {Q} e => by
      rw [← hP, e] at hn
      simp only [List.length_append] at hn ⊢
      omega
    have go : ∀ {D1 : tD} {Q : List Int} {v' : Bool}, ms D0 B D1 (M ++ P ++ Q) → labB (b :: t) = Q ++ labB t → okl v' t → WP sc 238 6 D1 [(0, (1211, 1977)), (1, (1000, arr)), (2, (0, o)), (3, (0, (m.length : Int))), (4, (0, if v' then 1 else 0)), (5, (0, o + (p.length : Int) + 1))] [] K E := fun {D1 Q v'} h1 e1 hv' => by
      have q := ih (p ++ [b]) v' D1 (P ++ Q) (by rw [hp]; simp) hv' (by rw [List.append_assoc] at h1; exact h1) (by rw [List.append_assoc, ← e1]; exact hP)
      rw [List.length_append, List.length_singleton, show o + (((p.length + 1 : Nat)) : Int) = o + (p.length : Int) + 1 from by omega] at q
      exact q
    refine v238_6 ?_
    rw [w32_id (x := o + (m.length : Int)) (by omega) (by omega), if_pos (by omega), e0, w32_id (x := o + (p.length : Int) + 1) (by omega) (by omega)]
    refine ⟨by omega, ?_⟩
    have hv0 : okl v (b :: t) := hv
    unfold okl at hv
    by_cases e1 : b = 1
    · rw [if_pos e1] at hv ⊢
      have eb : labB (b :: t) = [61, 34] ++ labB t := by show (if b = 1 then _ else _) ++ _ = _; rw [if_pos e1]
      exact q_push h hl (fun D1 h1 => q_push h1 (by have := hl1 eb; simp only [List.length_append] at this ⊢; simp at this ⊢; omega) (fun D2 h2 => go (v' := true) (Q := [61, 34]) (by simpa [List.append_assoc] using h2) eb hv))
    rw [if_neg e1] at hv ⊢
    by_cases e2 : b = 2
    · rw [if_pos e2] at hv ⊢
      by_cases e3 : t = []
      · have eb : labB (b :: t) = [34] ++ labB t := by show (if b = 1 then _ else _) ++ _ = _; rw [if_neg e1, if_pos e2, if_pos e3]
        refine q_push h hl (fun D1 h1 => ?_)
        rw [if_neg (by rw [e3] at ll; simp at ll; omega)]
        exact go (v' := false) h1 eb hv
      · have eb : labB (b :: t) = [34, 44] ++ labB t := by show (if b = 1 then _ else _) ++ _ = _; rw [if_neg e1, if_pos e2, if_neg e3]
        refine q_push h hl (fun D1 h1 => ?_)
        rw [if_pos (by have := List.length_pos_iff.mpr e3; omega)]
        exact q_push h1 (by have := hl1 eb; simp only [List.length_append] at this ⊢; simp at this ⊢; omega) (fun D2 h2 => go (v' := false) (Q := [34, 44]) (by simpa [List.append_assoc] using h2) eb hv)
    · rw [if_neg e2] at hv ⊢
      have eb : labB (b :: t) = escT true b ++ labB t := by show (if b = 1 then _ else _) ++ _ = _; rw [if_neg e1, if_neg e2]
      cases v
      · rw [if_pos (by rfl)]
        refine q_push h hl (fun D1 h1 => go (v' := false) (Q := [b]) h1 ?_ hv.2)
        rw [eb, hv.1 rfl]
      · rw [if_neg (by decide)]
        exact q_esc (q := true) h hl (fun D1 h1 => go (v' := true) h1 eb hv.2)
theorem q_lab {arr o n : Int} (ha : 1979 ≤ arr ∧ arr ≤ 2008) (hb : 0 ≤ o ∧ 0 ≤ n ∧ o + n ≤ ln arr ∧ o + n ≤ 1000000) (hv : okl false (spn (D0 arr) o n.toNat)) (h : ms D0 B D L) (hn : (L ++ labB (spn (D0 arr) o n.toNat)).length ≤ 1000000000) (hK : ∀ D', ms D0 B D' (L ++ labB (spn (D0 arr) o n.toNat)) → K D' 0) : WP sc 238 0 D [(0, (1211, 1977)), (1, (1000, arr)), (2, (0, o)), (3, (0, n))] [] K E := by
  have hl : ((spn (D0 arr) o n.toNat).length : Int) = n := by rw [spn_len]; omega
  have q := q_lab1 (sc := sc) (E := E) (K := K) ha (spn_at (D := D0) (a := arr) (T := D0 arr) (n := n.toNat) (s := o) (o := o) (fun j _ _ => rfl)) (by rw [hl]; exact ⟨hb.1, hb.2.2.1, hb.2.2.2⟩) hn hK _ [] false D [] rfl hv (by simpa using h) rfl
  rw [hl] at q
  simp only [List.length_nil] at q
  rw [show o + ((0 : Nat) : Int) = o from by omega] at q
  exact v238_0 q
/-! heads -/
theorem q_line {f w kd : Int} (hf : 0 ≤ f ∧ f < 16) (hz : 0 ≤ D0 1982 f ∧ D0 1982 f ≤ 24) (hw : 0 ≤ w ∧ w < 18) (hkd : D0 1980 f = kd) (hfl : fl = 0 ∨ fl = 1) (h : ms D0 B D L) (hn : (L ++ hdT (35 :: 32 :: (wdl w ++ [32])) (nmX D0 f) kd fl).length ≤ 1000000000) (hK : ∀ D', ms D0 B D' (L ++ hdT (35 :: 32 :: (wdl w ++ [32])) (nmX D0 f) kd fl) → K D' 0) : WP sc 245 0 D [(0, (1211, 1977)), (1, (0, f)), (2, (0, w)), (3, (0, 1 - fl))] [] K E := by
  have l81 : ln 1981 = 384 := rfl
  unfold hdT at hn hK
  simp only [List.length_append, List.length_cons] at hn
  refine v245_0 (q_push h (by omega) (fun D1 h1 => q_push h1 (by simp; omega) (fun D2 h2 => q_word hw h2 (by simp; omega) (fun D3 h3 => q_push h3 (by simp; omega) (fun D4 h4 => ⟨hf, ?_⟩)))))
  rw [h4.2.2 1982 f (by omega), w32_id (x := 24 * f) (by omega) (by omega)]
  refine q_bytes (by omega) (by rw [l81]; omega) h4 (by simp; omega) (fun D5 h5 => ?_)
  have h5' : ms D0 B D5 (L ++ (35 :: 32 :: (wdl w ++ [32]) ++ nmX D0 f)) := by
    unfold nmX
    simpa [List.append_assoc] using h5
  have ek : D5 1980 f = kd := by rw [h5.2.2 1980 f (by omega)]; exact hkd
  rw [ek]
  have l5 : (L ++ (35 :: 32 :: (wdl w ++ [32]) ++ nmX D0 f)).length ≤ 999999999 := by
    simp only [List.length_append, List.length_cons, List.length_nil] at hn ⊢
    omega
  have fin : ∀ {D6 : tD} {M : List Int}, ms D0 B D6 M → M.length ≤ 1000000000 → (∀ D', ms D0 B D' (M ++ [32]) → K D' 0) → WP sc 231 0 D6 [(0, (1211, 1977)), (1, (0, 32))] [] (fun D19 _ => K D19 0) E := fun h6 hl hk => q_push h6 hl hk
  by_cases e : fl = 0
  · rw [if_pos (by omega)]
    refine ⟨hf, ?_⟩
    by_cases k0 : kd = 0
    · rw [if_pos k0, if_pos k0]
      rw [if_pos ⟨e, k0⟩] at hK hn
      refine ⟨hf, q_word (by omega) h5' (by omega) (fun D6 h6 => fin h6 (by simp only [List.length_append, List.length_cons, List.length_nil] at hn ⊢; omega) (fun D7 h7 => hK D7 (by simpa [List.append_assoc] using h7)))⟩
    · rw [if_neg k0, if_neg k0]
      refine ⟨hf, ?_⟩
      by_cases k3 : kd = 3
      · rw [if_pos k3]
        rw [if_neg (fun q => k0 q.2), if_pos ⟨e, k3⟩] at hK hn
        refine ⟨hf, q_word (by omega) h5' (by omega) (fun D6 h6 => fin h6 (by simp only [List.length_append, List.length_cons, List.length_nil] at hn ⊢; omega) (fun D7 h7 => hK D7 (by simpa [List.append_assoc] using h7)))⟩
      · rw [if_neg k3]
        rw [if_neg (fun q => k0 q.2), if_neg (fun q => k3 q.2)] at hK
        exact fin h5' (by omega) (fun D7 h7 => hK D7 (by simpa [List.append_assoc] using h7))
  · rw [if_neg (by omega)]
    rw [if_neg (fun q => e q.1), if_neg (fun q => e q.1)] at hK
    exact fin h5' (by omega) (fun D7 h7 => hK D7 (by simpa [List.append_assoc] using h7))
theorem q_help1 {f : Int} (hf : 0 ≤ f ∧ f < 16) (hz : 0 ≤ D0 1986 f ∧ D0 1986 f ≤ 40) (hfl : fl = 0 ∨ fl = 1) (hn : (L ++ (hlX D0 f).flatMap (escT (fl == 1)) ++ [10]).length ≤ 1000000000) (hK : ∀ D', ms D0 B D' (L ++ (hlX D0 f).flatMap (escT (fl == 1)) ++ [10]) → K D' 0) : ∀ (t p : List Int) (D : tD), hlX D0 f = p ++ t → ms D0 B D (L ++ p.flatMap (escT (fl == 1))) → WP sc 246 20 D [(0, (1211, 1977)), (1, (0, f)), (2, (0, 1 - fl)), (3, (0, (p.length : Int)))] [] K E := by
  have hlen : ((hlX D0 f).length : Int) = D0 1986 f := by unfold hlX; rw [spn_len]; omega
  have hat0 : atL D0 1985 (40 * f) (hlX D0 f) := spn_at (fun j _ _ => rfl)
  intro t
  induction t with
  | nil =>
    intro p D hp h
    rw [List.append_nil] at hp
    refine v246_20 ⟨hf, ?_⟩
    rw [h.2.2 1986 f (by omega), if_neg (by rw [← hlen, hp]; omega)]
    rw [← hp] at h
    exact q_push h (by simp only [List.length_append] at hn ⊢; omega) hK
  | cons b t ih =>
    intro p D hp h
    have ll : ((hlX D0 f).length : Int) = (p.length : Int) + (t.length : Int) + 1 := by rw [hp, List.length_append, List.length_cons]; omega
    have hat : D0 1985 (40 * f + (p.length : Int)) = b := by
      rw [hp, atL_app] at hat0
      exact hat0.2.1
    refine v246_20 ⟨hf, ?_⟩
    rw [h.2.2 1986 f (by omega), if_pos (by omega), w32_id (x := 40 * f) (by omega) (by omega), w32_id (x := 40 * f + (p.length : Int)) (by omega) (by omega), h.2.2 1985 _ (by omega), hat, w32_id (x := (p.length : Int) + 1) (by omega) (by omega)]
    refine ⟨by omega, ?_⟩
    have hl : (L ++ p.flatMap (escT (fl == 1))).length ≤ 1000000000 := by
      rw [hp] at hn
      simp only [List.flatMap_append, List.length_append] at hn ⊢
      omega
    have w := q_esc (sc := sc) (E := E) (b := b) (q := (fl == 1)) h hl (K := fun D4 _ => WP sc 246 20 D4 [(0, (1211, 1977)), (1, (0, f)), (2, (0, 1 - fl)), (3, (0, (p.length : Int) + 1))] [] K E) (fun D1 h1 => by
      have q := ih (p ++ [b]) D1 (by rw [hp]; simp) (by simpa [List.flatMap_append, List.append_assoc] using h1)
      rw [List.length_append, List.length_singleton] at q
      exact q)
    rcases hfl with e | e
    · rw [if_neg (by omega)]
      rw [show (if (fl == 1) then (1 : Int) else 0) = 0 from by rw [e]; rfl] at w
      exact w
    · rw [if_pos (by omega)]
      rw [show (if (fl == 1) then (1 : Int) else 0) = 1 from by rw [e]; rfl] at w
      exact w
theorem q_help {f kd : Int} (hf : 0 ≤ f ∧ f < 16) (hz1 : 0 ≤ D0 1982 f ∧ D0 1982 f ≤ 24) (hz : 0 ≤ D0 1986 f ∧ D0 1986 f ≤ 40) (hkd : D0 1980 f = kd) (hfl : fl = 0 ∨ fl = 1) (h : ms D0 B D L) (hn : (L ++ hlT (nmX D0 f) (hlX D0 f) kd fl).length ≤ 1000000000) (hK : ∀ D', ms D0 B D' (L ++ hlT (nmX D0 f) (hlX D0 f) kd fl) → K D' 0) : WP sc 246 0 D [(0, (1211, 1977)), (1, (0, f)), (2, (0, 1 - fl))] [] K E := by
  have hlen : ((hlX D0 f).length : Int) = D0 1986 f := by unfold hlX; rw [spn_len]; omega
  unfold hlT at hn hK
  refine v246_0 ⟨hf, ?_⟩
  rw [h.2.2 1986 f (by omega)]
  by_cases e : hlX D0 f = []
  · rw [if_pos e, List.append_nil] at hK
    rw [if_pos (by rw [← hlen, e]; rfl)]
    exact hK D h
  · rw [if_neg e] at hK hn
    rw [if_neg (fun q => e (List.length_eq_zero_iff.mp (by omega)))]
    refine q_line hf hz1 (by omega) hkd hfl h (by simp only [List.length_append] at hn ⊢; omega) (fun D1 h1 => q_help1 (L := L ++ hdT (35 :: 32 :: (wdl 14 ++ [32])) (nmX D0 f) kd fl) hf hz hfl (by simp only [List.length_append] at hn ⊢; omega) (fun D2 h2 => hK D2 (by simpa [List.append_assoc] using h2)) _ [] D1 rfl (by simpa using h1))
theorem q_fhead {f kd : Int} (hf : 0 ≤ f ∧ f < 16) (hz1 : 0 ≤ D0 1982 f ∧ D0 1982 f ≤ 24) (hz2 : 0 ≤ D0 1984 f ∧ D0 1984 f ≤ 8) (hz : 0 ≤ D0 1986 f ∧ D0 1986 f ≤ 40) (hkd : D0 1980 f = kd ∧ 0 ≤ kd ∧ kd ≤ 4) (hfl : fl = 0 ∨ fl = 1) (h : ms D0 B D L) (hn : (L ++ fhT (nmX D0 f) (unX D0 f) (hlX D0 f) kd fl).length ≤ 1000000000) (hK : ∀ D', ms D0 B D' (L ++ fhT (nmX D0 f) (unX D0 f) (hlX D0 f) kd fl) → K D' 0) : WP sc 247 0 D [(0, (1211, 1977)), (1, (0, f)), (2, (0, 1 - fl))] [] K E := by
  have l83 : ln 1983 = 128 := rfl
  have hlen : ((unX D0 f).length : Int) = D0 1984 f := by unfold unX; rw [spn_len]; omega
  unfold fhT at hn hK
  refine v247_0 ?_
  by_cases e : fl = 0
  · rw [if_pos e] at hn hK
    rw [if_pos (by omega)]
    refine q_help hf hz1 hz hkd.1 hfl h (by simp only [List.length_append] at hn ⊢; omega) (fun D1 h1 => ?_)
    unfold tyT at hn hK
    refine q_line hf hz1 (by omega) hkd.1 hfl h1 (by simp only [List.length_append] at hn ⊢; omega) (fun D2 h2 => ?_)
    have h2' := h2
    rw [if_pos (by omega), h2.2.2 1980 f (by omega), hkd.1]
    refine ⟨hf, ?_⟩
    have l2 : (L ++ hlT (nmX D0 f) (hlX D0 f) kd fl ++ hdT (35 :: 32 :: (wdl 12 ++ [32])) (nmX D0 f) kd fl).length ≤ 1000000000 := by simp only [List.length_append] at hn ⊢; omega
    by_cases k2 : 2 < kd
    · rw [if_pos k2]
      rw [if_pos ⟨e, by omega⟩] at hn hK
      refine q_word (by omega) h2 l2 (fun D3 h3 => q_push h3 (by simp only [List.length_append] at hn ⊢; omega) (fun D4 h4 => ?_))
      rw [if_pos (by omega)]
      exact hK D4 (by simpa [List.append_assoc] using h4)
    · rw [if_neg k2, w32_id (x := 7 + kd) (by omega) (by omega)]
      rw [if_neg (fun q => by omega)] at hn hK
      refine ⟨hf, q_word (by omega) h2 l2 (fun D3 h3 => q_push h3 (by simp only [List.length_append] at hn ⊢; omega) (fun D4 h4 => ?_))⟩
      rw [if_pos (by omega)]
      exact hK D4 (by simpa [List.append_assoc] using h4)
  · rw [if_neg e] at hn hK
    rw [if_neg (by omega)]
    unfold tyT at hn hK
    rw [if_neg (fun q => e q.1)] at hn hK
    refine q_line hf hz1 (by omega) hkd.1 hfl h (by simp only [List.length_append] at hn ⊢; omega) (fun D2 h2 => ?_)
    rw [if_neg (by omega), h2.2.2 1980 f (by omega), hkd.1, w32_id (x := 7 + kd) (by omega) (by omega)]
    refine ⟨hf, q_word (by omega) h2 (by simp only [List.length_append] at hn ⊢; omega) (fun D3 h3 => q_push h3 (by simp only [List.length_append] at hn ⊢; omega) (fun D4 h4 => ?_))⟩
    rw [if_neg (by omega), h4.2.2 1984 f (by omega)]
    refine ⟨hf, ?_⟩
    unfold unT at hn hK
    by_cases e2 : unX D0 f = []
    · rw [if_pos e2, List.append_nil] at hn hK
      rw [if_neg (by rw [← hlen, e2]; decide)]
      exact q_help hf hz1 hz hkd.1 hfl h4 (by simp only [List.length_append] at hn ⊢; omega) (fun D5 h5 => hK D5 (by simpa [List.append_assoc] using h5))
    · rw [if_neg e2] at hn hK
      rw [if_pos (by have := List.length_pos_iff.mpr e2; omega)]
      refine q_line hf hz1 (by omega) hkd.1 hfl h4 (by simp only [List.length_append] at hn ⊢; omega) (fun D5 h5 => ⟨hf, ?_⟩)
      rw [h5.2.2 1984 f (by omega), w32_id (x := 8 * f) (by omega) (by omega)]
      exact q_bytes (by omega) (by rw [l83]; omega) h5 (by simp only [List.length_append] at hn ⊢; omega) (fun D6 h6 => q_push h6 (by unfold unX at hn; simp only [List.length_append] at hn ⊢; omega) (fun D7 h7 => q_help hf hz1 hz hkd.1 hfl h7 (by unfold unX at hn; simp only [List.length_append] at hn ⊢; omega) (fun D8 h8 => hK D8 (by unfold unX; simpa [List.append_assoc] using h8))))
end WRM
