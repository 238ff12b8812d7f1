/-! reading a sample: what is written is read whole -/
section SPN
variable {T U : Int → Int} {n c : Int}
theorem lf_app {a b : List Int} {j : Int} (h : 0 ≤ j) : lf (a ++ b) j = if j < (a.length : Int) then lf a j else lf b (j - (a.length : Int)) := by
  unfold lf
  by_cases e : j < (a.length : Int)
  · rw [if_pos e, List.getD_eq_getElem?_getD, List.getD_eq_getElem?_getD, List.getElem?_append_left (by omega)]
  · rw [if_neg e, List.getD_eq_getElem?_getD, List.getD_eq_getElem?_getD, List.getElem?_append_right (by omega), show j.toNat - a.length = (j - (a.length : Int)).toNat from by omega]
theorem ru_to {e : Int} {L : Int} : ∀ (m : Nat) (i : Int), e - i = (m : Int) → e ≤ L → (∀ j, i ≤ j → j < e → srt 2 (U j) = true) → ¬ (e < L ∧ srt 2 (U e) = true) → ru 2 U L i = e := by
  intro m
  induction m with
  | zero => intro i hm _ _ hs; rw [show i = e from by omega]; exact ru_stop hs
  | succ m ih =>
    intro i hm he hj hs
    rw [ru_go ⟨by omega, hj i (by omega) (by omega)⟩]
    exact ih (i + 1) (by omega) he (fun j u v => hj j (by omega) v) hs
/-- a sign, digits, a point and digits -/
theorem nm_whole {sg ds rs : List Int} (hs : sg = [] ∨ sg = [45]) (hd : 1 ≤ ds.length ∧ ∀ b ∈ ds, 48 ≤ b ∧ b ≤ 57) (hr : rs = [] ∨ ∃ q, rs = 46 :: q ∧ ∀ b ∈ q, 48 ≤ b ∧ b ≤ 57) : nmR (lf (sg ++ ds ++ rs)) ((sg ++ ds ++ rs).length : Int) 0 = ((sg ++ ds ++ rs).length : Int) := by
  have hl : ((sg ++ ds ++ rs).length : Int) = (sg.length : Int) + (ds.length : Int) + (rs.length : Int) := by rw [List.length_append, List.length_append]; omega
  have at1 : ∀ j, (sg.length : Int) ≤ j → j < (sg.length : Int) + (ds.length : Int) → 48 ≤ lf (sg ++ ds ++ rs) j ∧ lf (sg ++ ds ++ rs) j ≤ 57 := fun j u v => by
    rw [lf_app (by omega), if_pos (by rw [List.length_append]; omega), lf_app (by omega), if_neg (by omega)]
    exact hd.2 _ (lf_mem ⟨by omega, by omega⟩)
  have at2 : ∀ j, (sg.length : Int) + (ds.length : Int) ≤ j → lf (sg ++ ds ++ rs) j = lf rs (j - ((sg.length : Int) + (ds.length : Int))) := fun j u => by
    rw [lf_app (by omega), if_neg (by rw [List.length_append]; omega), List.length_append]
    rw [show j - ((sg.length + ds.length : Nat) : Int) = j - ((sg.length : Int) + (ds.length : Int)) from by omega]
  generalize hU : lf (sg ++ ds ++ rs) = U at *
  generalize hLL : ((sg ++ ds ++ rs).length : Int) = L at *
  have sS : nmS U L 0 = (sg.length : Int) := by
    unfold nmS
    rcases hs with e | e
    · have q := at1 0 (by rw [e]; simp) (by rw [e]; simp; omega)
      rw [if_neg (fun w => by rw [pb_in (by omega)] at w; omega), e]
      rfl
    · have q : U 0 = 45 := by rw [← hU, e]; rfl
      rw [if_pos (by rw [pb_in (by omega)]; exact q), e]
      rfl
  have sW : nmW U L 0 = (sg.length : Int) + (ds.length : Int) := by
    unfold nmW
    rw [sS]
    refine ru_to ds.length _ (by omega) (by omega) (fun j u v => ?_) (fun w => ?_)
    · have := at1 j u v; rw [srt_iff]; omega
    · rcases hr with e | ⟨q, e, _⟩
      · rw [e] at hl; simp at hl; omega
      · have := w.2
        rw [at2 _ (by omega), show (sg.length : Int) + (ds.length : Int) - ((sg.length : Int) + (ds.length : Int)) = 0 from by omega, e] at this
        have e46 : lf (46 :: q) 0 = 46 := rfl
        rw [e46, srt_iff] at this
        omega
  unfold nmR
  rw [sW]
  rcases hr with e | ⟨q, e, hq⟩
  · rw [e] at hl
    simp at hl
    rw [pb_out (by omega), if_neg (by omega)]
    omega
  · have lr : (rs.length : Int) = 1 + (q.length : Int) := by rw [e, List.length_cons]; omega
    have e46 : U ((sg.length : Int) + (ds.length : Int)) = 46 := by
      rw [at2 _ (by omega), show (sg.length : Int) + (ds.length : Int) - ((sg.length : Int) + (ds.length : Int)) = 0 from by omega, e]
      rfl
    rw [pb_in (by omega), if_pos e46]
    refine ru_to q.length _ (by omega) (by omega) (fun j u v => ?_) (fun w => by omega)
    rw [at2 _ (by omega), e, show j - ((sg.length : Int) + (ds.length : Int)) = (j - ((sg.length : Int) + (ds.length : Int)) - 1) + 1 from by omega, lf_cons (by omega)]
    have := hq _ (lf_mem (l := q) (j := j - ((sg.length : Int) + (ds.length : Int)) - 1) ⟨by omega, by omega⟩)
    rw [srt_iff]
    omega
end SPN
