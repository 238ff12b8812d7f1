/-! reading a sample: what is written is read whole -/
section SPN
variable {T U : Int → Int} {n c : Int}
theorem lf_app {a b : List Int} {j : Int} (h : 0 ≤ j) : lf (a ++ b) j = if j < (a.length : Int) then lf a j else lf b (j - (a.length : Int)) := by
  unfold lf
  by_cases e : j < (a.length : Int)
  · rw [if_pos e, List.getD_eq_getElem?_getD, List.getD_eq_getElem?_getD, List.getElem?_append_left (by omega)]
  · rw [if_neg e, List.getD_eq_getElem?_getD, List.getD_eq_getElem?_getD, List.getElem?_append_right (by omega), show j.toNat - a.length = (j - (a.length : Int)).toNat from by omega]
theorem ru_to {e : Int} {L : Int} : ∀ (m : Nat) (i : Int), e - i = (m : Int) → e ≤ L → (∀ j, i ≤ j → j < e → srt 2 (U j) = true) → ¬ (e < L ∧ srt 2 (U e) = true) → ru 2 U L i = e := by
  intro m
  induction m with
  | zero => intro i hm _ _ hs; rw [show i = e from by omega]; exact ru_stop hs
  | succ m ih =>
    intro i hm he hj hs
    rw [ru_go ⟨by omega, hj i (by omega) (by omega)⟩]
    exact ih (i + 1) (by omega) he (fun j u v => hj j (by omega) v) hs
/-- a sign, digits, a point and digits -/
theorem nm_whole {sg ds rs : List Int} (hs : sg = [] ∨ sg = [45]) (hd : 1 ≤ ds.length ∧ ∀ b ∈ ds, 48 ≤ b ∧ b ≤ 57) (hr : rs = [] ∨ ∃ q, rs = 46 :: q ∧ ∀ b ∈ q, 48 ≤ b ∧ b ≤ 57) : nmR (lf (sg ++ ds ++ rs)) ((sg ++ ds ++ rs).length : Int) 0 = ((sg ++ ds ++ rs).length : Int) := by
  have hl : ((sg ++ ds ++ rs).length : Int) = (sg.length : Int) + (ds.length : Int) + (rs.length : Int) := by rw [List.length_append, List.length_append]; omega
  have at1 : ∀ j, (sg.length : Int) ≤ j → j < (sg.length : Int) + (ds.length : Int) → 48 ≤ lf (sg ++ ds ++ rs) j ∧ lf (sg ++ ds ++ rs) j ≤ 57 := fun j u v => by
    rw [lf_app (by omega), if_pos (by rw [List.length_append]; omega), lf_app (by omega), if_neg (by omega)]
    exact hd.2 _ (lf_mem ⟨by omega, by omega⟩)
  have at2 : ∀ j, (sg.length : Int) + (ds.length : Int) ≤ j → lf (sg ++ ds ++ rs) j = lf rs (j - ((sg.length : Int) + (ds.length : Int))) := fun j u => by
    rw [lf_app (by omega), if_neg (by rw [List.length_append]; omega), List.length_append]
    rw [show j - ((sg.length + ds.length : Nat) : Int) = j - ((sg.length : Int) + (ds.length : Int)) from by omega]
  generalize hU : lf (sg ++ ds ++ rs) = U at *
  generalize hLL : ((sg ++ ds ++ rs).length : Int) = L at *
  have sS : nmS U L 0 = (sg.length : Int) := by
    unfold nmS
    rcases hs with e | e
    · have q := at1 0 (by rw [e]; simp) (by rw [e]; simp; omega)
      rw [if_neg (fun w => by rw [pb_in (by omega)] at w; omega), e]
      rfl
    · have q : U 0 = 45 := by rw [← hU, e]; rfl
      rw [if_pos (by rw [pb_in (by omega)]; exact q), e]
      rfl
  have sW : nmW U L 0 = (sg.length : Int) + (ds.length : Int) := by
    unfold nmW
    rw [sS]
    refine ru_to ds.length _ (by omega) (by omega) (fun j u v => ?_) (fun w => ?_)
    · have := at1 j u v; rw [srt_iff]; omega
    · rcases hr with e | ⟨q, e, _⟩
      · rw [e] at hl; simp at hl; omega
      · have := w.2
        rw [at2 _ (by omega), show (sg.length : Int) + (ds.length : Int) - ((sg.length : Int) + (ds.length : Int)) = 0 from by omega, e] at this
        have e46 : lf (46 :: q) 0 = 46 := rfl
        rw [e46, srt_iff] at this
        omega
  unfold nmR
  rw [sW]
  rcases hr with e | ⟨q, e, hq⟩
  · rw [e] at hl
    simp at hl
    rw [pb_out (by omega), if_neg (by omega)]
    omega
  · have lr : (rs.length : Int) = 1 + (q.length : Int) := by rw [e, List.length_cons]; omega
    have e46 : U ((sg.length : Int) + (ds.length : Int)) = 46 := by
      rw [at2 _ (by omega), show (sg.length : Int) + (ds.length : Int) - ((sg.length : Int) + (ds.length : Int)) = 0 from by omega, e]
      rfl
    rw [pb_in (by omega), if_pos e46]
    refine ru_to q.length _ (by omega) (by omega) (fun j u v => ?_) (fun w => by omega)
    rw [at2 _ (by omega), e, show j - ((sg.length : Int) + (ds.length : Int)) = (j - ((sg.length : Int) + (ds.length : Int)) - 1) + 1 from by omega, lf_cons (by omega)]
    have := hq _ (lf_mem (l := q) (j := j - ((sg.length : Int) + (ds.length : Int)) - 1) ⟨by omega, by omega⟩)
    rw [srt_iff]
    omega
theorem numT_sh (v : Int) : ∃ sg ds rs : List Int, numT v = sg ++ ds ++ rs ∧ (sg = [] ∨ sg = [45]) ∧ (1 ≤ ds.length ∧ ∀ b ∈ ds, 48 ≤ b ∧ b ≤ 57) ∧ (rs = [] ∨ ∃ q, rs = 46 :: q ∧ ∀ b ∈ q, 48 ≤ b ∧ b ≤ 57) := by
  refine ⟨_, _, _, rfl, ?_, ⟨?_, fun b hb => ?_⟩, ?_⟩
  · split
    · exact Or.inr rfl
    · exact Or.inl rfl
  · unfold whT; rw [dgs_len]; omega
  · exact dgs_rng _ _ hb
  · generalize (if v < 0 then -v else v) % 1000 = r
    unfold restT
    split
    · exact Or.inl rfl
    · refine Or.inr ⟨_, rfl, fun b hb => ?_⟩
      split at hb
      · exact dgs_rng _ _ hb
      · split at hb
        · exact dgs_rng _ _ hb
        · exact dgs_rng _ _ hb
theorem nmb_end {a : Int} (h : (nmb T n a).1 = 0) : (nmb T n a).2.2 = nmR T n a := by
  unfold nmb at h ⊢
  by_cases z1 : nmW T n a = nmS T n a
  · rw [if_pos z1] at h; exact absurd (show (1 : Int) = 0 from h) (by decide)
  rw [if_neg z1] at h ⊢
  by_cases z2 : pb T n (nmW T n a) = 46 ∧ nmR T n a = nmW T n a + 1
  · rw [if_pos z2] at h; exact absurd (show (1 : Int) = 0 from h) (by decide)
  rw [if_neg z2] at h ⊢
  by_cases z3 : 12 < nmW T n a - nmS T n a ∨ (pb T n (nmW T n a) = 46 ∧ 3 < nmR T n a - nmW T n a - 1)
  · rw [if_pos z3] at h; exact absurd (show (11 : Int) = 0 from h) (by decide)
  rw [if_neg z3]
theorem sp_end {l : List Int} (h : spP l) : (spV l).2.2 = (l.length : Int) := by
  obtain ⟨h1, h2⟩ := h
  have e := nmb_end (T := lf l) (n := (l.length : Int)) (a := 0) h1
  have e2 : (spV l).2.2 = nmR (lf l) (l.length : Int) 0 := e
  rw [e2]
  obtain ⟨sg, ds, rs, q1, q2, q3, q4⟩ := numT_sh (spV l).2.1
  have q5 : l = sg ++ ds ++ rs := by rw [← q1]; exact h2.symm
  rw [q5]
  exact nm_whole q2 q3 q4
/-- a bound in the tape, and as a list -/
theorem sp_iff {p : Int} (hp : 0 ≤ p ∧ p ≤ n) (ht : (es T n p).2.2 = true) (h34 : pb T n (es T n p).1 = 34) : ((nmb T n p).1 = 0 ∧ (nmb T n p).2.2 = (es T n p).1 ∧ numT (nmb T n p).2.1 = (es T n p).2.1) ↔ spP (es T n p).2.1 := by
  have core : (∀ b ∈ (es T n p).2.1, 45 ≤ b ∧ b ≤ 57) → nmb T n p = ((spV (es T n p).2.1).1, (spV (es T n p).2.1).2.1, p + (spV (es T n p).2.1).2.2) ∧ (es T n p).1 = p + ((es T n p).2.1.length : Int) := fun hb => by
    obtain ⟨i1, i2⟩ := es_plain (n - p).toNat p (by omega) hp.1 hb ht
    have eb := es_bnd (T := T) (n := n) (a := p) hp
    refine ⟨nmb_sh (L := ((es T n p).2.1.length : Int)) i2 (by omega) (by omega) (by rw [← i1]; exact h34), i1⟩
  refine ⟨fun ⟨h1, h2, h3⟩ => ?_, fun h => ?_⟩
  · obtain ⟨c1, c2⟩ := core (fun b hb => by rw [← h3] at hb; exact numT_rng hb)
    rw [c1] at h1 h3
    exact ⟨h1, h3⟩
  · obtain ⟨c1, c2⟩ := core (fun b hb => by rw [← h.2] at hb; exact numT_rng hb)
    rw [c1]
    exact ⟨h.1, by rw [c2, ← sp_end h], h.2⟩
theorem sp_val {p : Int} (hp : 0 ≤ p ∧ p ≤ n) (ht : (es T n p).2.2 = true) (h34 : pb T n (es T n p).1 = 34) (h : spP (es T n p).2.1) : (nmb T n p).2.1 = (spV (es T n p).2.1).2.1 := by
  obtain ⟨i1, i2⟩ := es_plain (n - p).toNat p (by omega) hp.1 (fun b hb => by rw [← h.2] at hb; exact numT_rng hb) ht
  have eb := es_bnd (T := T) (n := n) (a := p) hp
  rw [nmb_sh (L := ((es T n p).2.1.length : Int)) i2 (by omega) (by omega) (by rw [← i1]; exact h34)]
  rfl
end SPN
