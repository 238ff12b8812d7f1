/-! reading labels: the other side -/
section LBM
variable {sc : Nat × (Nat → Int32)} {D D' : tD} {K : tD → Int → Prop} {E : tD → Nat → Prop} {T : Int → Int} {n : Int}
/-- what the reading of labels changes -/
def frX (D D' : tD) : Prop := ∀ x j, x ≠ 2009 → x ≠ 2015 → x ≠ 2016 → (x = 1977 → j ≠ 37 ∧ j ≠ 47 ∧ j ≠ 56 ∧ j ≠ 57 ∧ j ≠ 60 ∧ (j < 62 ∨ 66 < j)) → D' x j = D x j
/-- the same where a fault was found -/
def frXf (D D' : tD) : Prop := ∀ x j, x ≠ 2009 → x ≠ 2015 → x ≠ 2016 → (x = 1977 → j ≠ 37 ∧ (j < 45 ∨ 47 < j) ∧ j ≠ 56 ∧ j ≠ 57 ∧ j ≠ 60 ∧ (j < 62 ∨ 66 < j)) → D' x j = D x j
theorem frX_tr {D1 D2 : tD} (h : frX D D1) (h2 : frX D1 D2) : frX D D2 := fun x j u1 u2 u3 u4 => by rw [h2 x j u1 u2 u3 u4, h x j u1 u2 u3 u4]
theorem frX_rf : frX D D := fun _ _ _ _ _ _ => rfl
theorem frXf_X (h : frX D D') : frXf D D' := fun x j u1 u2 u3 u4 => h x j u1 u2 u3 (fun w => by have := u4 w; omega)
theorem frXf_tr {D1 D2 : tD} (h : frX D D1) (h2 : frXf D1 D2) : frXf D D2 := fun x j u1 u2 u3 u4 => by rw [h2 x j u1 u2 u3 u4, h x j u1 u2 u3 (fun w => by have := u4 w; omega)]
theorem frXf_fl {c p : Int} : frXf D (fl D c p) := fun x j _ _ _ u => by
  unfold fl
  by_cases e : x = 1977
  · subst e; rw [wr_ni (by have := u rfl; omega), wr_ni (by have := u rfl; omega)]
  · rw [wr_ne e, wr_ne e]
theorem frX_wr {i v : Int} (h : i = 37 ∨ i = 47 ∨ i = 56 ∨ i = 57 ∨ i = 60 ∨ (62 ≤ i ∧ i ≤ 66)) : frX D (wr D 1977 i v) := fun x j _ _ _ u => by
  by_cases e : x = 1977
  · subst e; exact wr_ni (by have := u rfl; omega)
  · exact wr_ne e
theorem fl_45 {c p : Int} : (fl D c p) 1977 45 = c := by unfold fl; rw [wr_ni (by omega), wr_self]
theorem fl_46 {c p : Int} : (fl D c p) 1977 46 = p := by unfold fl; rw [wr_self]
/-- the extra value, as the other side keeps it -/
def exM (D : tD) (T : Int → Int) (n : Int) (ex : Option (Int × List Int)) : Prop := (ex = none ∧ D 1977 64 = 0) ∨ ∃ p l, ex = some (p, l) ∧ (0 ≤ p ∧ p ≤ n) ∧ (D 1977 64 = 1 ∧ D 1977 56 = p ∧ D 1977 57 = (es T n p).1 ∧ D 1977 66 = (l.length : Int) ∧ atL D 2016 0 l) ∧ (l = (es T n p).2.1 ∧ (es T n p).2.2 = true ∧ pb T n (es T n p).1 = 34)
theorem exM_fr {ex : Option (Int × List Int)} (h : exM D T n ex) (h1 : ∀ j, j = 56 ∨ j = 57 ∨ j = 64 ∨ j = 66 → D' 1977 j = D 1977 j) (h2 : ∀ j, D' 2016 j = D 2016 j) : exM D' T n ex := by
  rcases h with ⟨e1, e2⟩ | ⟨p, l, e1, e2, ⟨e3, e4, e5, e6, e7⟩, e8⟩
  · exact Or.inl ⟨e1, by rw [h1 _ (by omega)]; exact e2⟩
  · exact Or.inr ⟨p, l, e1, e2, ⟨by rw [h1 _ (by omega)]; exact e3, by rw [h1 _ (by omega)]; exact e4, by rw [h1 _ (by omega)]; exact e5, by rw [h1 _ (by omega)]; exact e6, atL_fr (fun j _ _ => h2 j) e7⟩, e8⟩
theorem exM_n {ex : Option (Int × List Int)} (h : exM D T n ex) : D 1977 64 = 0 ↔ ex = none := by
  rcases h with ⟨e1, e2⟩ | ⟨p, l, e1, e2, e3, _⟩
  · exact ⟨fun _ => e1, fun _ => e2⟩
  · exact ⟨fun w => by have := e3.1; omega, fun w => by rw [w] at e1; exact absurd e1 (by simp)⟩
def lrM (D : tD) (T : Int → Int) (n a : Int) (S : List (List Int)) (ex : Option (Int × List Int)) : Prop := mu D T n a ∧ (setIs D S.flatten ∧ D 1977 62 = (S.length : Int) ∧ D 1977 63 = (S.flatten.length : Int) - 2 * (S.length : Int)) ∧ exM D T n ex
/-! is a name behind the last one -/
theorem u_ord72 {x2 : Int} (hm : ∃ p, mu D T n p) (h2 : x2 ≤ n) {w : List Int} : ∀ (m : Nat) (i k : Int) (yt : List Int), x2 - i = (m : Int) → 0 ≤ i → (∀ j, i ≤ j → j < x2 → 1 < T j) → 0 ≤ k → k + (yt.length : Int) ≤ 132 → atL D 2009 k yt → 1 ∈ yt → (∀ b ∈ yt, 1 ≤ b) → (ncmp yt (spn T i m ++ 1 :: w) < 0 → K D 1) → (¬ ncmp yt (spn T i m ++ 1 :: w) < 0 → K D 0) → WP sc 266 72 D [(0, (1211, 1977)), (2, (0, x2)), (4, (0, k)), (5, (0, i))] [] K E := by
  obtain ⟨p, hp⟩ := hm
  have c := hp.2
  intro m
  induction m with
  | zero =>
    intro i k yt hi h0 hj hk hkl ha h1 hb hT hF
    refine v266_72 ?_
    rw [if_neg (by omega), if_neg (by omega)]
    refine hF (fun z => ?_)
    cases yt with
    | nil => exact absurd h1 (by simp)
    | cons b r =>
      have := hb b List.mem_cons_self
      have z2 : (if b < 1 then -1 else if 1 < b then 1 else if b = 1 then 0 else ncmp r w : Int) < 0 := z
      rw [if_neg (by omega)] at z2
      by_cases e : 1 < b
      · rw [if_pos e] at z2; omega
      · rw [if_neg e, if_pos (by omega)] at z2; omega
  | succ m ih =>
    intro i k yt hi h0 hj hk hkl ha h1 hb hT hF
    have ti := (c.2 i h0 (by omega)).1
    have t1 := hj i (by omega) (by omega)
    cases yt with
    | nil => exact absurd h1 (by simp)
    | cons b r =>
      have hb1 := hb b List.mem_cons_self
      rw [List.length_cons] at hkl
      have e0 : ncmp (b :: r) (spn T i (m + 1) ++ 1 :: w) = if b < T i then -1 else if T i < b then 1 else if b = 1 then 0 else ncmp r (spn T (i + 1) m ++ 1 :: w) := rfl
      rw [e0] at hT hF
      refine v266_72 ?_
      rw [if_pos (by omega), ha.1, ti, w32_id (x := k + 1) (by omega) (by omega), w32_id (x := i + 1) (by omega) (by omega)]
      refine ⟨by omega, by omega, ?_⟩
      by_cases e : b = T i
      · rw [if_pos e]
        rw [if_neg (by omega), if_neg (by omega), if_neg (by omega)] at hT hF
        refine ih (i + 1) (k + 1) r (by omega) (by omega) (fun j u v => hj j (by omega) v) (by omega) (by omega) ha.2 ?_ (fun x hx => hb x (List.mem_cons_of_mem _ hx)) hT hF
        rcases List.mem_cons.mp h1 with q | q
        · omega
        · exact q
      · rw [if_neg e, if_pos (by omega)]
        refine ⟨by omega, by omega, ?_⟩
        by_cases e2 : b < T i
        · rw [if_pos e2]
          rw [if_pos e2] at hT
          exact hT (by omega)
        · rw [if_neg e2]
          rw [if_neg e2, if_pos (by omega)] at hF
          exact hF (by omega)
theorem u_ord44 {a b : Int} {z y : List Int} (hz : z = [] ∨ ∃ z', z = z' ++ [2]) (hy : ∀ c ∈ y, c ≠ 2) (ha : atL D 2009 0 (z ++ y)) (hl : ((z ++ y).length : Int) ≤ 131) (hK : WP sc 266 72 D [(0, (1211, 1977)), (2, (0, b)), (4, (0, (z.length : Int))), (5, (0, a))] [] K E) : ∀ (m : Nat) (k : Int), k + 1 - (z.length : Int) = (m : Int) → k < ((z ++ y).length : Int) → WP sc 266 44 D [(0, (1211, 1977)), (1, (0, a)), (2, (0, b)), (4, (0, k))] [] K E := by
  rw [List.length_append] at hl
  rw [atL_app] at ha
  intro m
  induction m with
  | zero =>
    intro k hk hk2
    refine v266_44 ?_
    rw [w32_id (x := k + 1) (by omega) (by omega), show k + 1 = (z.length : Int) from by omega]
    by_cases e : k < 0
    · rw [if_pos e]; exact hK
    · rw [if_neg e]
      refine ⟨by omega, ?_⟩
      rcases hz with hz | ⟨z', hz⟩
      · rw [hz] at hk; simp at hk; omega
      · have h2 : D 2009 k = 2 := by
          have := ha.1
          rw [hz, atL_app] at this
          have q := this.2.1
          rw [hz, List.length_append, List.length_singleton] at hk
          rw [show (0 : Int) + (z'.length : Int) = k from by omega] at q
          exact q
        rw [if_pos h2]; exact hK
  | succ m ih =>
    intro k hk hk2
    refine v266_44 ?_
    rw [List.length_append] at hk2
    have hm := atL_mem ha.2 (k - (z.length : Int)) (by omega) (by omega)
    rw [show (0 : Int) + (z.length : Int) + (k - (z.length : Int)) = k from by omega] at hm
    have ne := hy _ hm
    rw [if_neg (by omega)]
    refine ⟨by omega, ?_⟩
    rw [if_neg ne, w32_id (x := k + (-1)) (by omega) (by omega)]
    exact ih (k + (-1)) (by omega) (by rw [List.length_append]; omega)
theorem snoc_ex {α : Type} : ∀ {S : List α}, S ≠ [] → ∃ S0 y, S = S0 ++ [y] := by
  intro S
  induction S with
  | nil => intro h; exact absurd rfl h
  | cons x r ih =>
    intro _
    by_cases e : r = []
    · exact ⟨[], x, by rw [e]; rfl⟩
    · obtain ⟨S0, y, h⟩ := ih e
      exact ⟨x :: S0, y, by rw [h]; rfl⟩
theorem srtL_last {S0 : List (List Int)} {y : List Int} : srtL (S0 ++ [y]) → ∀ z ∈ S0, ncmp z y < 0 := by
  induction S0 with
  | nil => intro _ z hz; exact absurd hz (by simp)
  | cons u r ih =>
    intro ⟨h1, h2⟩ z hz
    rcases List.mem_cons.mp hz with e | e
    · rw [e]; exact h1 y (by simp)
    · exact ih h2 z e
theorem all_lt {S0 : List (List Int)} {y x : List Int} (hs : srtL (S0 ++ [y])) (h1 : 1 ∈ y) : (∀ z ∈ S0 ++ [y], ncmp z x < 0) ↔ ncmp y x < 0 := by
  refine ⟨fun h => h y (by simp), fun h z hz => ?_⟩
  rcases List.mem_append.mp hz with e | e
  · exact ncmp_tr z y x h1 (srtL_last hs z e) h
  · rw [List.mem_singleton.mp e]; exact h
theorem lnT_mln {a b : Int} (h : ∃ p, mu D T n p) (ha : 0 ≤ a) (hb : b ≤ n) : mlnP D a b ↔ lnT T a b := by
  obtain ⟨p, hp⟩ := h
  have t1 : ∀ j, 0 ≤ j → j < n → D 1978 j = T j := fun j u v => (hp.2.2 j u v).1
  unfold mlnP lnT
  refine ⟨fun ⟨q1, q2, q3, q4, q5⟩ => ⟨q1, q2, ?_, fun j u v => ?_, ?_⟩, fun ⟨q1, q2, q3, q4, q5⟩ => ⟨q1, q2, ?_, fun j u v => ?_, ?_⟩⟩
  · rw [← t1 a ha (by omega)]; exact q3
  · rw [← t1 j (by omega) (by omega)]; exact q4 j u v
  · by_cases z : b - a < 2
    · exact Or.inl z
    · rw [t1 a ha (by omega), t1 (a + 1) (by omega) (by omega)] at q5; exact q5
  · rw [t1 a ha (by omega)]; exact q3
  · rw [t1 j (by omega) (by omega)]; exact q4 j u v
  · by_cases z : b - a < 2
    · exact Or.inl z
    · rw [t1 a ha (by omega), t1 (a + 1) (by omega) (by omega)]; exact q5
theorem u_ord {a x most : Int} {S : List (List Int)} (h : ∃ p, mu D T n p) (ha : 0 ≤ a ∧ a ≤ n) (hS : setIs D S.flatten) (h62 : D 1977 62 = (S.length : Int)) (hso : (∀ x ∈ S, lbl x) ∧ srtL S ∧ (S.length : Int) ≤ most) (hx : (x < 0 ∧ most = 2) ∨ (0 ≤ x ∧ most = 3)) (hT : ((S.length : Int) < most ∧ lnT T a (lbE T n a) ∧ ∀ y ∈ S, ncmp y (lbx T n a) < 0) → K D 1) (hF : ¬ ((S.length : Int) < most ∧ lnT T a (lbE T n a) ∧ ∀ y ∈ S, ncmp y (lbx T n a) < 0) → K D 0) : WP sc 266 0 D [(0, (1211, 1977)), (1, (0, a)), (2, (0, lbE T n a)), (3, (0, x))] [] K E := by
  obtain ⟨p, hp⟩ := h
  have c := hp.2
  obtain ⟨so1, so2, so3⟩ := hso
  have rb := ru_b (s := 5) (T := T) (n := n) (a := a) (by omega)
  have ri := ru_in (s := 5) (T := T) (n := n) (a := a) (by omega)
  have eb : ru 5 T n a = lbE T n a := rfl
  rw [eb] at rb ri
  refine v266_0 (m_lname ⟨by omega, by omega⟩ ⟨by omega, by omega⟩ (fun e => ?_) (fun e => ?_))
  · rw [if_neg (by omega)]
    rw [lnT_mln ⟨p, hp⟩ ha.1 rb.2] at e
    rw [h62, hS.1]
    /- room is left -/
    have rest : (S.length : Int) < most → (if (S.length : Int) = 0 then (K D 1) else (WP sc 266 44 D [(0, (1211, 1977)), (1, (0, a)), (2, (0, lbE T n a)), (4, (0, w32 ((S.flatten.length : Int) - 2)))] [] K E)) := fun hm => by
      by_cases z : (S.length : Int) = 0
      · rw [if_pos z]
        have : S = [] := List.eq_nil_of_length_eq_zero (by omega)
        subst this
        exact hT ⟨hm, e, fun y hy => absurd hy (by simp)⟩
      · rw [if_neg z]
        obtain ⟨S0, y, rfl⟩ : ∃ S0 y, S = S0 ++ [y] := snoc_ex (fun w => z (by rw [w]; rfl))
        have ly := so1 y (by simp)
        obtain ⟨y', ey, hy'⟩ := lbl_2 ly
        have l0 : ∀ x ∈ S0, lbl x := fun x hx => so1 x (by simp [hx])
        have f22 := fl22 so1
        have lyl := lbl_len ly
        have fe : (S0 ++ [y]).flatten = S0.flatten ++ y := by simp
        have hfl : ((S0 ++ [y]).flatten.length : Int) = (S0.flatten.length : Int) + (y.length : Int) := by rw [fe, List.length_append]; omega
        have hy1 : y.length = y'.length + 1 := by rw [ey, List.length_append, List.length_singleton]
        rw [List.length_append, List.length_singleton] at hm f22
        have at1 : atL D 2009 0 (S0.flatten ++ y) := by rw [← fe]; exact hS.2
        have at2 : atL D 2009 0 (S0.flatten ++ y') := by
          rw [ey, ← List.append_assoc, atL_app] at at1
          exact at1.1
        rw [w32_id (by omega) (by omega)]
        have hz : S0.flatten = [] ∨ ∃ z', S0.flatten = z' ++ [2] := by
          by_cases q : S0 = []
          · exact Or.inl (by rw [q]; rfl)
          · obtain ⟨S1, u, rfl⟩ : ∃ S1 u, S0 = S1 ++ [u] := snoc_ex q
            obtain ⟨u', eu, _⟩ := lbl_2 (l0 u (by simp))
            exact Or.inr ⟨S1.flatten ++ u', by rw [eu]; simp⟩
        refine u_ord44 (z := S0.flatten) (y := y') hz hy' at2 (by rw [List.length_append]; omega) ?_ (((S0 ++ [y]).flatten.length : Int) - 2 + 1 - (S0.flatten.length : Int)).toNat _ (by omega) (by rw [List.length_append]; omega)
        have lx : lbx T n a = spn T a (lbE T n a - a).toNat ++ 1 :: ((es T n (lbE T n a + 2)).2.1 ++ [2]) := rfl
        have at3 := at1
        rw [atL_app, show (0 : Int) + (S0.flatten.length : Int) = (S0.flatten.length : Int) from by omega] at at3
        refine u_ord72 ⟨p, hp⟩ rb.2 (w := (es T n (lbE T n a + 2)).2.1 ++ [2]) (lbE T n a - a).toNat a _ y (by omega) ha.1 (fun j u v => by have := srt5_lt (ri j u v); omega) (by omega) (by omega) at3.2 (lbl_1 ly) (fun b hb => (lbl_rng ly b hb).1) (fun q => ?_) (fun q => ?_)
        · rw [← lx] at q
          exact hT ⟨by rw [List.length_append, List.length_singleton]; exact hm, e, (all_lt so2 (lbl_1 ly)).mpr q⟩
        · rw [← lx] at q
          exact hF (fun w => q ((all_lt so2 (lbl_1 ly)).mp w.2.2))
    rcases hx with ⟨x1, x2⟩ | ⟨x1, x2⟩
    · rw [if_pos x1]
      by_cases z : (S.length : Int) = 2
      · rw [if_pos z]; exact hF (fun w => by have := w.1; omega)
      · rw [if_neg z]; exact rest (by omega)
    · rw [if_neg (by omega)]
      by_cases z : (S.length : Int) = 3
      · rw [if_pos z]; exact hF (fun w => by have := w.1; omega)
      · rw [if_neg z]; exact rest (by omega)
  · rw [if_pos rfl]
    rw [lnT_mln ⟨p, hp⟩ ha.1 rb.2] at e
    exact hF (fun w => e w.2.1)
end LBM
