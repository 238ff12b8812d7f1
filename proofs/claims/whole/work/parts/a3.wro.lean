/-! rows that are written: bytes, texts and rows behind what is there -/
section WRO
variable {sc : Nat × (Nat → Int32)} {D D' : tD} {K : tD → Int → Prop} {E : tD → Nat → Prop}
/-- a row holds a list of bytes, or would hold more than it can -/
def wo (D : tD) (r : Int) (L : List Int) : Prop := (0 ≤ D r 1 ∧ D r 1 ≤ ln (r + 1)) ∧ (((L.length : Int) ≤ ln (r + 1) ∧ D r 2 = 0 ∧ D r 1 = (L.length : Int) ∧ atL D (r + 1) 0 (L.map w8)) ∨ (ln (r + 1) < (L.length : Int) ∧ D r 2 = 1))
theorem frw_refl {r : Int} : frw D D r := fun _ _ _ _ => rfl
theorem frw_tr {D1 D2 D3 : tD} {r : Int} (h1 : frw D1 D2 r) (h2 : frw D2 D3 r) : frw D1 D3 r := fun a i u v => by rw [h2 a i u v, h1 a i u v]
theorem c_wpush {r b : Int} {L : List Int} (hl : ln (r + 1) ≤ 20000) (h : wo D r L) (hK : ∀ D', wo D' r (L ++ [b]) → frw D D' r → K D' 0) : WP sc 91 0 D [(0, (1207, r)), (1, (0, b))] [] K E := by
  obtain ⟨⟨h1, h2⟩, h3⟩ := h
  refine c_push h1 (by omega) (hK _ ?_ ?_)
  · unfold rpush
    by_cases e : D r 1 < ln (r + 1)
    · rw [if_pos e]
      refine ⟨by rw [wr_self]; omega, ?_⟩
      rcases h3 with ⟨p1, p2, p3, p4⟩ | ⟨p1, p2⟩
      · refine Or.inl ⟨by rw [List.length_append, List.length_singleton]; omega, by rw [wr_ni (by omega), wr_ne (by omega)]; exact p2, by rw [wr_self, List.length_append, List.length_singleton]; omega, ?_⟩
        rw [List.map_append, atL_app]
        refine ⟨atL_fr (fun j u v => ?_) p4, ?_, trivial⟩
        · rw [List.length_map] at v
          rw [wr_ne (by omega), wr_ni (by omega)]
        · rw [List.length_map, wr_ne (by omega), show (0 : Int) + (L.length : Int) = D r 1 from by omega, wr_self]
      · refine Or.inr ⟨by rw [List.length_append, List.length_singleton]; omega, by rw [wr_ni (by omega), wr_ne (by omega)]; exact p2⟩
    · rw [if_neg e]
      refine ⟨by rw [wr_ni (by omega)]; omega, Or.inr ⟨?_, wr_self⟩⟩
      rw [List.length_append, List.length_singleton]
      rcases h3 with ⟨p1, p2, p3, p4⟩ | ⟨p1, p2⟩
      · omega
      · omega
  · intro a i u v
    unfold rpush
    split
    · rw [wr_ne u, wr_ne v]
    · rw [wr_ne u]
/-- the bytes of a text -/
def txl (t : Int) : List Int := spn (tsc t) 0 (tsn t).toNat
theorem spn_snoc {T : Int → Int} {s : Int} {n : Nat} : spn T s (n + 1) = spn T s n ++ [T (s + (n : Int))] := by
  rw [spn_app]; rfl
theorem c_wtext1 {r t : Int} {L : List Int} {D0 : tD} (hl : ln (r + 1) ≤ 20000) (hK : ∀ D', wo D' r (L ++ txl t) → frw D0 D' r → K D' 0) : ∀ (m k : Nat) (D : tD), (m : Int) + (k : Int) = tsn t → wo D r (L ++ spn (tsc t) 0 k) → frw D0 D r → WP sc 92 2 D [(0, (1207, r)), (1, (4, t)), (2, (0, (k : Int)))] [] K E := by
  have hn := tsn_le t
  intro m
  induction m with
  | zero =>
    intro k D hm hw hf
    refine v92_2 ?_
    rw [if_neg (by omega)]
    refine hK D ?_ hf
    unfold txl
    rw [show (tsn t).toNat = k from by omega]
    exact hw
  | succ m ih =>
    intro k D hm hw hf
    refine v92_2 ?_
    rw [if_pos (by omega)]
    refine ⟨by omega, fun _ => c_wpush hl hw (fun D' hw' hf' => ?_)⟩
    rw [w32_id (x := (k : Int) + 1) (by omega) (by omega)]
    refine ih (k + 1) D' (by omega) ?_ (frw_tr hf hf')
    rw [spn_snoc, ← List.append_assoc, show (0 : Int) + (k : Int) = (k : Int) from by omega]
    exact hw'
theorem c_wtext {r t : Int} {L : List Int} (hl : ln (r + 1) ≤ 20000) (h : wo D r L) (hK : ∀ D', wo D' r (L ++ txl t) → frw D D' r → K D' 0) : WP sc 92 0 D [(0, (1207, r)), (1, (4, t))] [] K E := by
  have hn := tsn_nn t
  refine v92_0 (c_wtext1 hl hK (tsn t).toNat 0 D (by omega) ?_ frw_refl)
  rw [show spn (tsc t) 0 0 = [] from rfl, List.append_nil]
  exact h
/-- a row's bytes -/
def rl (D : tD) (q : Int) (m : List Int) : Prop := D q 1 = (m.length : Int) ∧ atL D (q + 1) 0 (m.map w8)
theorem c_wins {r q : Int} {L m : List Int} (hq : q ≠ r ∧ q ≠ r + 1 ∧ q + 1 ≠ r) (hl : ln (r + 1) ≤ 20000) (hlq : D q 1 ≤ ln (q + 1) ∧ D q 1 ≤ 20000) (hm : rl D q m) (h : wo D r L) (hK : ∀ D', wo D' r (L ++ m) → frw D D' r → K D' 0) : WP sc 94 0 D [(0, (1207, r)), (1, (0, D r 1)), (2, (1207, q)), (3, (0, 0)), (4, (0, D q 1))] [] K E := by
  obtain ⟨⟨h1, h2⟩, h3⟩ := h
  obtain ⟨m1, m2⟩ := hm
  refine c_ins h1 h2 hlq.1 hl hlq.2 (by omega) (fun hok => ?_) (fun hno => ?_)
  · obtain ⟨a1, a2, a3, a4, a5⟩ := rins_app (D := D) (r := r) (q := q) (s := 0) (e := D q 1) (by omega) (by omega)
    refine hK _ ⟨by unfold rinsOk at hok; rw [a1]; omega, ?_⟩ a5
    rcases h3 with ⟨p1, p2, p3, p4⟩ | ⟨p1, p2⟩
    · refine Or.inl ⟨by unfold rinsOk at hok; rw [List.length_append]; omega, by rw [a2]; exact p2, by rw [a1, List.length_append]; omega, ?_⟩
      rw [List.map_append, atL_app]
      refine ⟨atL_fr (fun j u v => a3 j u (by rw [List.length_map] at v; omega)) p4, atL_mov (fun j u v => ?_) m2⟩
      rw [List.length_map] at v
      rw [List.length_map, show (0 : Int) + (L.length : Int) + j = D r 1 + j from by omega]
      exact a4 j u (by omega)
    · exact Or.inr ⟨by rw [List.length_append]; omega, by rw [a2]; exact p2⟩
  · refine hK _ ⟨by rw [wr_ni (by omega)]; omega, Or.inr ⟨?_, wr_self⟩⟩ (fun a i u v => wr_ne u)
    unfold rinsOk at hno
    rw [List.length_append]
    rcases h3 with ⟨p1, p2, p3, p4⟩ | ⟨p1, p2⟩
    · omega
    · omega
theorem wo_clear {r : Int} (h0 : 0 ≤ ln (r + 1)) : wo (rclear D r) r [] := by
  unfold rclear
  refine ⟨by rw [wr_ni (by omega), wr_self]; omega, Or.inl ⟨by simpa using h0, wr_self, by rw [wr_ni (by omega), wr_self]; rfl, trivial⟩⟩
theorem wo_fr {r : Int} {L : List Int} (h1 : ∀ j, D' r j = D r j) (h2 : ∀ j, D' (r + 1) j = D (r + 1) j) (h : wo D r L) : wo D' r L := by
  obtain ⟨p, q⟩ := h
  refine ⟨by rw [h1]; exact p, ?_⟩
  rw [h1, h1]
  rcases q with ⟨q1, q2, q3, q4⟩ | q
  · exact Or.inl ⟨q1, q2, q3, atL_fr (fun j _ _ => h2 j) q4⟩
  · exact Or.inr q
theorem rl_fr {r : Int} {m : List Int} (h1 : ∀ j, D' r j = D r j) (h2 : ∀ j, D' (r + 1) j = D (r + 1) j) (h : rl D r m) : rl D' r m := ⟨by rw [h1]; exact h.1, atL_fr (fun j _ _ => h2 j) h.2⟩
theorem w8_id {b : Int} (h : -128 ≤ b ∧ b ≤ 127) : w8 b = b := by unfold w8; omega
theorem w8_m {b : Int} (h : -128 ≤ b ∧ b ≤ 127) : w8 (b % 256) = b := by unfold w8; omega
theorem spn_map {f : Int → Int} {T : Int → Int} : ∀ {n : Nat} {s : Int}, (spn T s n).map f = spn (fun j => f (T j)) s n := by
  intro n
  induction n with
  | zero => intro s; rfl
  | succ n ih => intro s; show f (T s) :: (spn T (s + 1) n).map f = _; rw [ih]; rfl
/-- a row that is a piece of an array: its bytes -/
theorem rowm_rl {r cap arr off n : Int} (h : rowm D r cap arr off n) (hb : ∀ j, 0 ≤ j → j < n → -128 ≤ D (r + 1) j ∧ D (r + 1) j ≤ 127) : rl D r (spn (D arr) off n.toNat) := by
  obtain ⟨h1, h2, h3, h4⟩ := h
  refine ⟨by rw [spn_len]; omega, ?_⟩
  rw [spn_map]
  refine spn_at (fun j u v => ?_)
  rw [← h4 j u (by omega), w8_m (hb j u (by omega)), show (0 : Int) + j = j from by omega]
end WRO
