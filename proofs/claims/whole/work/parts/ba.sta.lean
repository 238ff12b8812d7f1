/-! reading a sample: states, the other side asks whether a state is told -/
section STA
variable {sc : Nat × (Nat → Int32)} {D A : tD} {K : tD → Int → Prop} {E : tD → Nat → Prop} {T : Int → Int} {n : Int}
/-- the text of a state is a list -/
def isT (A : tD) (q : Int) (l : List Int) : Prop := A 1990 q = (l.length : Int) ∧ atL A 1989 (12 * q) l
theorem atL_of {a : Int} : ∀ {l : List Int} {o : Int}, (∀ j, 0 ≤ j → j < (l.length : Int) → D a (o + j) = lf l j) → atL D a o l := by
  intro l
  induction l with
  | nil => intro o _; trivial
  | cons x r ih =>
    intro o h
    have h0 := h 0 (by omega) (by rw [List.length_cons]; omega)
    rw [show o + 0 = o from by omega] at h0
    refine ⟨h0, ih (fun j u v => ?_)⟩
    have q := h (j + 1) (by omega) (by rw [List.length_cons]; omega)
    rw [show o + (j + 1) = o + 1 + j from by omega, lf_cons u] at q
    exact q
theorem u_isSt {l : List Int} {i : Int} (hn : 0 ≤ A 1977 48 ∧ A 1977 48 < 16) (hi : 0 ≤ i ∧ i < 4) (h66 : A 1977 66 = (l.length : Int)) (hl : atL A 2016 0 l) (h12 : l.length ≤ 12) (hT : isT A (4 * A 1977 48 + i) l → K A 1) (hF : ¬ isT A (4 * A 1977 48 + i) l → K A 0) : WP sc 276 0 A [(0, (1211, 1977)), (1, (0, i))] [] K E := by
  generalize hq : 4 * A 1977 48 + i = q at *
  have qb : 0 ≤ q ∧ q < 64 := by omega
  have go : ∀ (m : Nat) (k x : Int), (l.length : Int) - k = (m : Int) → 0 ≤ k → ((x = 1 ∧ A 1990 q = (l.length : Int) ∧ ∀ j, 0 ≤ j → j < k → A 1989 (12 * q + j) = lf l j) ∨ (x = 0 ∧ ¬ isT A q l)) → WP sc 276 31 A [(0, (1211, 1977)), (2, (0, q)), (3, (0, x)), (4, (0, k))] [] K E := by
    intro m
    induction m with
    | zero =>
      intro k x hm hk hx
      refine v276_31 ?_
      rw [h66, if_neg (by omega)]
      rcases hx with ⟨e, h1, h2⟩ | ⟨e, h1⟩
      · rw [e]; exact tbl_of (Or.inr rfl) (hT ⟨h1, atL_of (fun j u v => h2 j u (by omega))⟩)
      · rw [e]; exact tbl_of (Or.inl rfl) (hF h1)
    | succ m ih =>
      intro k x hm hk hx
      refine v276_31 ?_
      rw [h66, if_pos (by omega)]
      rcases hx with ⟨e, h1, h2⟩ | ⟨e, h1⟩
      · have q1 := atL_lf hl k hk (by omega)
        rw [show (0 : Int) + k = k from by omega] at q1
        rw [e, if_neg (by omega), w32_id (x := 12 * q) (by omega) (by omega), w32_id (x := 12 * q + k) (by omega) (by omega), w32_id (x := k + 1) (by omega) (by omega), q1]
        refine ⟨by omega, by omega, ?_⟩
        by_cases y : A 1989 (12 * q + k) = lf l k
        · rw [if_pos y]
          refine ih (k + 1) 1 (by omega) (by omega) (Or.inl ⟨rfl, h1, fun j u v => ?_⟩)
          by_cases z : j = k
          · rw [z]; exact y
          · exact h2 j u (by omega)
        · rw [if_neg y]
          exact ih (k + 1) 0 (by omega) (by omega) (Or.inr ⟨rfl, fun z => y (atL_lf z.2 k hk (by omega))⟩)
      · rw [e, if_pos rfl]; exact tbl_of (Or.inl rfl) (hF h1)
  refine v276_0 ?_
  rw [w32_id (x := 4 * A 1977 48) (by omega) (by omega), hq, w32_id (x := q) (by omega) (by omega), h66]
  refine ⟨qb, ?_⟩
  by_cases e : A 1990 q = (l.length : Int)
  · rw [if_pos e]
    exact go l.length 0 1 (by omega) (by omega) (Or.inl ⟨rfl, e, fun j u v => by omega⟩)
  · rw [if_neg e]
    exact go l.length 0 0 (by omega) (by omega) (Or.inr ⟨rfl, fun z => e z.1⟩)
end STA
