/-! reading a sample: its name -/
section SNM
variable {sc : Nat × (Nat → Int32)} {D D' A A' : tD} {K : tD → Int → Prop} {E : tD → Nat → Prop} {T : Int → Int} {n : Int}
theorem twd_pt {w : Int} (h : 0 ≤ w ∧ w ≤ 6) : twd w (ptx w) := by
  have : w = 0 ∨ w = 1 ∨ w = 2 ∨ w = 3 ∨ w = 4 ∨ w = 5 ∨ w = 6 := by omega
  rcases this with e | e | e | e | e | e | e <;> subst e
  · exact twd_mk (by decide +kernel)
  · exact twd_mk (by decide +kernel)
  · exact twd_mk (by decide +kernel)
  · exact twd_mk (by decide +kernel)
  · exact twd_mk (by decide +kernel)
  · exact twd_mk (by decide +kernel)
  · exact twd_mk (by decide +kernel)
/-- a name and a part's word stand in the tape -/
def owT (T : Int → Int) (a b : Int) (N : Int → Int) (z w : Int) : Prop := b - a = z + ltn w ∧ ∀ j, 0 ≤ j → j < b - a → T (a + j) = jn N z w j
theorem owT_ext {a b z w : Int} {N M : Int → Int} (h : ∀ j, 0 ≤ j → j < z → N j = M j) : owT T a b N z w ↔ owT T a b M z w := by
  unfold owT
  refine ⟨fun ⟨h1, h2⟩ => ⟨h1, fun j u v => ?_⟩, fun ⟨h1, h2⟩ => ⟨h1, fun j u v => ?_⟩⟩
  · rw [h2 j u v]; unfold jn; split
    · exact h j u (by assumption)
    · rfl
  · rw [h2 j u v]; unfold jn; split
    · exact (h j u (by assumption)).symm
    · rfl
theorem spj_owT {s e F w : Int} (hok : okD D) (h : ∃ p, cu D 1957 1 T n p) (hs : 0 ≤ s ∧ s ≤ e ∧ e ≤ n) (hin : ∀ j, s ≤ j → j < e → srt 5 (T j) = true) (hz : 0 ≤ D (F + 1) 1) (hw : 0 ≤ w ∧ w ≤ 6) : spjn D 1 s e (F + 1) (ptx w) ↔ owT T s e (D (F + 2)) (D (F + 1) 1) w := by
  obtain ⟨p, hc⟩ := h
  have tw := twd_pt hw
  have by1 : ∀ j, s ≤ j → j < e → D 2 j = T j := fun j u v => cu_by hok hc ⟨by omega, by omega⟩ (by have := srt5_lt (hin j u v); omega)
  have eF : F + 1 + 1 = F + 2 := by omega
  have jj : ∀ k, 0 ≤ k → k < D (F + 1) 1 + ltn w → jnb D (F + 1) (ptx w) k = jn (D (F + 2)) (D (F + 1) 1) w k := fun k u v => by
    unfold jnb jn
    rw [eF]
    split
    · rfl
    · exact (tw.2 _ (by omega) (by omega)).1.symm
  unfold spjn owT
  rw [← tw.1]
  refine ⟨fun ⟨_, _, h3, h4⟩ => ⟨h3, fun j u v => ?_⟩, fun ⟨h3, h4⟩ => ⟨hs.1, by rw [hc.2.1.1]; exact hs.2.2, h3, fun j u v => ?_⟩⟩
  · have q := h4 (s + j) (by omega) (by omega)
    rw [show s + j - s = j from by omega, jj j u (by omega)] at q
    rw [← q]
    exact (by1 (s + j) (by omega) (by omega)).symm
  · rw [jj _ (by omega) (by omega), ← h4 (j - s) (by omega) (by omega), show s + (j - s) = j from by omega]
    exact by1 j u v
/-- which part a sample tells: 2 is the time of making -/
noncomputable def smW (T : Int → Int) (a b : Int) (N : Int → Int) (z due may : Int) : Int := cif (owT T a b N z due) due (cif (may = 1 ∧ owT T a b N z 2) 2 (-1))
theorem t_isNamed {a b w F : Int} (hc : cu D 1957 1 T n b) (hF : D 1956 5 = F ∧ 0 ≤ F) (h8 : D 1956 8 = a) (hs : 0 ≤ a ∧ a ≤ b) (hin : ∀ j, a ≤ j → j < b → srt 5 (T j) = true) (hz : 0 ≤ D (F + 1) 1 ∧ D (F + 1) 1 ≤ 24 ∧ ln (F + 2) = 24) (hw : 0 ≤ w ∧ w ≤ 6) (hT : owT T a b (D (F + 2)) (D (F + 1) 1) w → K D 1) (hN : ¬ owT T a b (D (F + 2)) (D (F + 1) 1) w → K D 0) : WP sc 135 0 D [(0, (1209, 1956)), (1, (0, w))] [] K E := by
  refine wp_ok (fun hok => ?_)
  have c := hc.2
  refine v135_0 ?_
  rw [hF.1, if_neg (by omega), hc.1.1, hc.1.2, h8]
  refine c_ptx ?_
  have key := spj_owT (F := F) (w := w) hok ⟨b, hc⟩ ⟨hs.1, hs.2, c.2.1.2⟩ hin hz.1 hw
  refine c_join (by rw [c.1.1]; exact c.1.2.1) (by rw [show F + 1 + 1 = F + 2 from by omega, hz.2.2]; exact hz.2.1) (by rw [c.1.1]; omega) ⟨hz.1, by omega⟩ ⟨by omega, by omega, by omega, by omega⟩ (fun q => ?_) (fun q => ?_)
  · exact tbl_of (Or.inr rfl) (hT (key.mp q))
  · exact tbl_of (Or.inl rfl) (hN (fun y => q (key.mpr y)))
/-- the outcome of a sample's name -/
def snO (n a b fam w : Int) : Int × Int := if b = a then (1, a) else if fam = -1 then (5, a) else if w < 0 then (2, a) else (0, b)
theorem t_sname {a F : Int} (hc : cu D 1957 1 T n a) (hF : D 1956 5 = -1 ∨ (D 1956 5 = F ∧ 0 ≤ F ∧ F + 2 < 1956 ∧ 0 ≤ D (F + 1) 1 ∧ D (F + 1) 1 ≤ 24 ∧ ln (F + 2) = 24)) (hd0 : D 1956 5 = -1 ∨ (0 ≤ D 1956 10 ∧ D 1956 10 ≤ 6)) (hT : (snO n a (lbE T n a) (D 1956 5) (smW T a (lbE T n a) (D (F + 2)) (D (F + 1) 1) (D 1956 10) (D 1956 12))).1 = 0 → K (wr (wr (wr D 1957 1 (lbE T n a)) 1956 8 a) 1956 9 (smW T a (lbE T n a) (D (F + 2)) (D (F + 1) 1) (D 1956 10) (D 1956 12))) 1) (hN : (snO n a (lbE T n a) (D 1956 5) (smW T a (lbE T n a) (D (F + 2)) (D (F + 1) 1) (D 1956 10) (D 1956 12))).1 ≠ 0 → ∀ D', D' 1957 2 = (snO n a (lbE T n a) (D 1956 5) (smW T a (lbE T n a) (D (F + 2)) (D (F + 1) 1) (D 1956 10) (D 1956 12))).1 → D' 1957 3 = (snO n a (lbE T n a) (D 1956 5) (smW T a (lbE T n a) (D (F + 2)) (D (F + 1) 1) (D 1956 10) (D 1956 12))).2 → frZ D D' → K D' 0) : WP sc 134 0 D [(0, (1209, 1956))] [] K E := by
  have c := hc.2
  have rb := ru_b (s := 5) (T := T) (n := n) (a := a) (by omega)
  have ri := ru_in (s := 5) (T := T) (n := n) (a := a) (by omega)
  have eb : ru 5 T n a = lbE T n a := rfl
  rw [eb] at rb ri
  refine v134_0 (t_run (by omega) hc ?_)
  rw [eb]
  have e1 : (wr (wr D 1957 1 (lbE T n a)) 1956 8 a) 1957 1 = lbE T n a := by rw [wr_ne (by omega), wr_self]
  have e8 : (wr (wr D 1957 1 (lbE T n a)) 1956 8 a) 1956 8 = a := wr_self
  have e5 : (wr (wr D 1957 1 (lbE T n a)) 1956 8 a) 1956 5 = D 1956 5 := by rw [wr_ni (by omega), wr_ne (by omega)]
  have e10 : (wr (wr D 1957 1 (lbE T n a)) 1956 8 a) 1956 10 = D 1956 10 := by rw [wr_ni (by omega), wr_ne (by omega)]
  have e12 : (wr (wr D 1957 1 (lbE T n a)) 1956 8 a) 1956 12 = D 1956 12 := by rw [wr_ni (by omega), wr_ne (by omega)]
  rw [e1, e8, e5, e10]
  generalize hD1 : wr (wr D 1957 1 (lbE T n a)) 1956 8 a = D1 at *
  have f1 : frZ D D1 := by rw [← hD1]; exact frZ_tr (frZ_wr (by omega)) (frZ_wr (by omega))
  have o1 : ∀ x j, x ≠ 1956 → x ≠ 1957 → D1 x j = D x j := fun x j u v => by rw [← hD1, wr_ne u, wr_ne v]
  unfold snO at hT hN
  by_cases z1 : lbE T n a = a
  · rw [if_pos z1]
    rw [if_pos z1] at hN
    exact t_fc (hN (show (1 : Int) ≠ 0 from by decide) _ fc_2 fc_3 (frZ_tr f1 frZ_fc))
  rw [if_neg z1]
  rw [if_neg z1] at hT hN
  by_cases z5 : D 1956 5 = -1
  · rw [if_pos z5]
    rw [if_pos z5] at hN
    exact t_fc (hN (show (5 : Int) ≠ 0 from by decide) _ fc_2 fc_3 (frZ_tr f1 frZ_fc))
  rw [if_neg z5]
  rw [if_neg z5] at hT hN
  have hF2 : D 1956 5 = F ∧ 0 ≤ F ∧ F + 2 < 1956 ∧ 0 ≤ D (F + 1) 1 ∧ D (F + 1) 1 ≤ 24 ∧ ln (F + 2) = 24 := by
    rcases hF with w | w
    · exact absurd w z5
    · exact w
  have hd : 0 ≤ D 1956 10 ∧ D 1956 10 ≤ 6 := hd0.resolve_left z5
  /- asked of a memory with the part set -/
  have ask : ∀ (D2 : tD) (w : Int) {Q : tD → Int → Prop}, (∀ x j, x ≠ 1956 → D2 x j = D1 x j) → (∀ j, j ≠ 9 → D2 1956 j = D1 1956 j) → 0 ≤ w ∧ w ≤ 6 → (owT T a (lbE T n a) (D (F + 2)) (D (F + 1) 1) w → Q D2 1) → (¬ owT T a (lbE T n a) (D (F + 2)) (D (F + 1) 1) w → Q D2 0) → WP sc 135 0 D2 [(0, (1209, 1956)), (1, (0, w))] [] Q E := fun D2 w {Q} g1 g2 hw q1 q2 => by
    have k1 : D2 (F + 1) 1 = D (F + 1) 1 := by rw [g1 _ _ (by omega), o1 _ _ (by omega) (by omega)]
    have k2 : D2 (F + 2) = D (F + 2) := funext (fun j => by rw [g1 _ _ (by omega), o1 _ _ (by omega) (by omega)])
    refine t_isNamed (F := F) (a := a) (b := lbE T n a) (cu_to hc ⟨by omega, by omega⟩ (by rw [g1 _ _ (by omega), f1 _ _ (by omega)]) (by rw [g1 _ _ (by omega)]; exact e1) (fun x j u => by rw [g1 _ _ (by omega), f1 _ _ (by omega)])) ⟨by rw [g2 _ (by omega), e5]; exact hF2.1, hF2.2.1⟩ (by rw [g2 _ (by omega)]; exact e8) ⟨c.2.1.1, rb.1⟩ ri (by rw [k1]; exact ⟨hF2.2.2.2.1, hF2.2.2.2.2.1, hF2.2.2.2.2.2⟩) hw (fun w => ?_) (fun w => ?_)
    · rw [k1, k2] at w; exact q1 w
    · rw [k1, k2] at w; exact q2 w
  have bad : ∀ D2, (∀ x j, x ≠ 1956 → D2 x j = D1 x j) → (∀ j, j ≠ 9 → D2 1956 j = D1 1956 j) → smW T a (lbE T n a) (D (F + 2)) (D (F + 1) 1) (D 1956 10) (D 1956 12) = -1 → WP sc 42 0 D2 [(0, (1202, 1957)), (1, (0, 2)), (2, (0, D2 1956 8))] [] (fun D16 r17 => if r17 = 0 then (K D16 0) else (K D16 1)) E := fun D2 g1 g2 ew => by
    rw [ew, if_pos (by omega)] at hN
    refine v42_0 ?_
    rw [if_pos rfl, g2 _ (by omega), e8]
    refine hN (show (2 : Int) ≠ 0 from by decide) _ fc_2 fc_3 (frZ_tr f1 (frZ_tr (D1 := D2) (fun x j u => ?_) frZ_fc))
    exact g1 x j (by omega)
  have rf1 : ∀ x j, x ≠ 1956 → D1 x j = D1 x j := fun _ _ _ => rfl
  have rf2 : ∀ j, j ≠ 9 → D1 1956 j = D1 1956 j := fun _ _ => rfl
  have wr1 : ∀ v x j, x ≠ 1956 → (wr D1 1956 9 v) x j = D1 x j := fun v x j u => wr_ne u
  have wr2 : ∀ v j, j ≠ 9 → (wr D1 1956 9 v) 1956 j = D1 1956 j := fun v j u => wr_ni u
  refine ask D1 (D 1956 10) rf1 rf2 hd (fun q => ?_) (fun q => ?_)
  · rw [if_neg (by omega), e10, wr_self]
    have ew : smW T a (lbE T n a) (D (F + 2)) (D (F + 1) 1) (D 1956 10) (D 1956 12) = D 1956 10 := by unfold smW; rw [cif_pos q]
    rw [ew, if_neg (by omega)] at hT
    refine ask _ _ (wr1 _) (wr2 _) hd (fun _ => ?_) (fun w => absurd q w)
    rw [if_neg (by omega)]
    exact hT rfl
  · rw [if_pos rfl, e12, e10, wr_self, wr_self]
    intro h01
    by_cases zm : D 1956 12 = 0
    · rw [if_pos zm]
      have ew : smW T a (lbE T n a) (D (F + 2)) (D (F + 1) 1) (D 1956 10) (D 1956 12) = -1 := by unfold smW; rw [cif_neg q, cif_neg (fun w => by have := w.1; omega)]
      refine ask _ _ (wr1 _) (wr2 _) hd (fun w => absurd w q) (fun _ => ?_)
      rw [if_pos rfl]
      exact bad _ (wr1 _) (wr2 _) ew
    · rw [if_neg zm]
      refine ask _ _ (wr1 _) (wr2 _) ⟨by omega, by omega⟩ (fun w => ?_) (fun w => ?_)
      · rw [if_neg (by omega)]
        have ew : smW T a (lbE T n a) (D (F + 2)) (D (F + 1) 1) (D 1956 10) (D 1956 12) = 2 := by unfold smW; rw [cif_neg q, cif_pos ⟨by omega, w⟩]
        rw [ew, if_neg (by omega)] at hT
        exact hT rfl
      · rw [if_pos rfl]
        have ew : smW T a (lbE T n a) (D (F + 2)) (D (F + 1) 1) (D 1956 10) (D 1956 12) = -1 := by unfold smW; rw [cif_neg q, cif_neg (fun y => w y.2)]
        exact bad _ (wr1 _) (wr2 _) ew
/-! the other side -/
theorem u_own1 {a b w : Int} (hb : 0 ≤ a ∧ a ≤ b ∧ b ≤ n ∧ b - a ≤ 100) (hm : ∃ p, mu A T n p) (hz : nzP A (A 1977 48)) (hT : owT T a b (nmf A (A 1977 48)) (A 1982 (A 1977 48)) w → K A 1) (hF : ¬ owT T a b (nmf A (A 1977 48)) (A 1982 (A 1977 48)) w → K A 0) : ∀ (m : Nat) (k x : Int), b - k = (m : Int) → a ≤ k → ((x = 1 ∧ b - a = A 1982 (A 1977 48) + ltn w ∧ ∀ j, 0 ≤ j → j < k - a → T (a + j) = jn (nmf A (A 1977 48)) (A 1982 (A 1977 48)) w j) ∨ (x = 0 ∧ ¬ owT T a b (nmf A (A 1977 48)) (A 1982 (A 1977 48)) w)) → WP sc 269 25 A [(0, (1211, 1977)), (1, (0, a)), (2, (0, b)), (3, (0, w)), (4, (0, x)), (5, (0, k))] [] K E := by
  obtain ⟨p, hp⟩ := hm
  have c := hp.2
  intro m
  induction m with
  | zero =>
    intro k x hm hk hx
    refine v269_25 ?_
    rw [if_neg (by omega)]
    rcases hx with ⟨e, h1, h2⟩ | ⟨e, h1⟩
    · rw [e]; exact tbl_of (Or.inr rfl) (hT ⟨h1, fun j u v => h2 j u (by omega)⟩)
    · rw [e]; exact tbl_of (Or.inl rfl) (hF h1)
  | succ m ih =>
    intro k x hm hk hx
    refine v269_25 ?_
    rw [if_pos (by omega)]
    rcases hx with ⟨e, h1, h2⟩ | ⟨e, h1⟩
    · rw [e, if_neg (by omega)]
      refine ⟨by omega, ?_⟩
      rw [w32_id (x := k - a) (by omega) (by omega), w32_id (x := k + 1) (by omega) (by omega)]
      refine m_ownByte hz ⟨by omega, by omega⟩ ?_
      have tk := (c.2 k (by omega) (by omega)).1
      by_cases y : A 1978 k = jn (nmf A (A 1977 48)) (A 1982 (A 1977 48)) w (k - a)
      · rw [if_pos y]
        refine ih (k + 1) 1 (by omega) (by omega) (Or.inl ⟨rfl, h1, fun j u v => ?_⟩)
        by_cases q : j = k - a
        · rw [q, show a + (k - a) = k from by omega, ← tk]; exact y
        · exact h2 j u (by omega)
      · rw [if_neg y]
        refine ih (k + 1) 0 (by omega) (by omega) (Or.inr ⟨rfl, fun q => y ?_⟩)
        have := q.2 (k - a) (by omega) (by omega)
        rw [show a + (k - a) = k from by omega] at this
        rw [tk]; exact this
    · rw [e, if_pos rfl]; exact tbl_of (Or.inl rfl) (hF h1)
theorem u_own {a b w : Int} (hb : 0 ≤ a ∧ a ≤ b ∧ b ≤ n) (hw : 0 ≤ w ∧ w ≤ 6) (hm : ∃ p, mu A T n p) (hz : nzP A (A 1977 48)) (hT : owT T a b (nmf A (A 1977 48)) (A 1982 (A 1977 48)) w → K A 1) (hF : ¬ owT T a b (nmf A (A 1977 48)) (A 1982 (A 1977 48)) w → K A 0) : WP sc 269 0 A [(0, (1211, 1977)), (1, (0, a)), (2, (0, b)), (3, (0, w))] [] K E := by
  have hm' := hm
  obtain ⟨p, hp⟩ := hm
  have c := hp.2
  have hl := ltn_le (w := w) ⟨hw.1, by omega⟩
  refine v269_0 (m_ownSize hz ⟨hw.1, by omega⟩ ?_)
  rw [w32_id (x := b - a) (by omega) (by omega)]
  by_cases e : b - a = A 1982 (A 1977 48) + ltn w
  · rw [if_pos e]
    have := hz.2.2
    exact u_own1 ⟨hb.1, hb.2.1, hb.2.2, by omega⟩ hm' hz hT hF (b - a).toNat a 1 (by omega) (by omega) (Or.inl ⟨rfl, e, fun j u v => by omega⟩)
  · rw [if_neg e]
    refine v269_25 ?_
    have nn : ¬ owT T a b (nmf A (A 1977 48)) (A 1982 (A 1977 48)) w := fun y => e y.1
    split
    · rw [if_pos rfl]; exact tbl_of (Or.inl rfl) (hF nn)
    · exact tbl_of (Or.inl rfl) (hF nn)
theorem u_wordOf {a b : Int} (hb : 0 ≤ a ∧ a ≤ b ∧ b ≤ n) (hm : ∃ p, mu A T n p) (hz : nzP A (A 1977 48)) (hk : 0 ≤ A 1980 (A 1977 48) ∧ A 1980 (A 1977 48) ≤ 4) (hK : K A (smW T a b (nmf A (A 1977 48)) (A 1982 (A 1977 48)) (wnt (A 1980 (A 1977 48)) (A 1977 51)) (A 1977 52))) : WP sc 268 0 A [(0, (1211, 1977)), (1, (0, a)), (2, (0, b))] [] K E := by
  have go : ∀ w, wnt (A 1980 (A 1977 48)) (A 1977 51) = w → 0 ≤ w ∧ w ≤ 6 → WP sc 269 0 A [(0, (1211, 1977)), (1, (0, a)), (2, (0, b)), (3, (0, w))] [] (fun D43 r44 => if r44 = 0 then (0 ≤ D43 1977 52 ∧ D43 1977 52 ≤ 1 → (if D43 1977 52 = 0 then (K D43 (-1)) else (WP sc 269 0 D43 [(0, (1211, 1977)), (1, (0, a)), (2, (0, b)), (3, (0, 2))] [] (fun D46 r47 => if r47 = 0 then (K D46 (-1)) else (K D46 2)) E))) else (K D43 w)) E := fun w ew hw => by
    rw [ew] at hK
    refine u_own hb hw hm hz (fun q => ?_) (fun q => ?_)
    · rw [if_neg (by omega)]
      unfold smW at hK
      rw [cif_pos q] at hK
      exact hK
    · rw [if_pos rfl]
      intro h01
      unfold smW at hK
      rw [cif_neg q] at hK
      by_cases z : A 1977 52 = 0
      · rw [if_pos z]
        rw [cif_neg (fun y => by have := y.1; omega)] at hK
        exact hK
      · rw [if_neg z]
        refine u_own hb ⟨by omega, by omega⟩ hm hz (fun q2 => ?_) (fun q2 => ?_)
        · rw [if_neg (by omega)]
          rw [cif_pos ⟨by omega, q2⟩] at hK
          exact hK
        · rw [if_pos rfl]
          rw [cif_neg (fun y => q2 y.2)] at hK
          exact hK
  refine v268_0 ⟨hz.1, ?_⟩
  unfold wnt at go
  by_cases k0 : A 1980 (A 1977 48) = 0
  · rw [if_pos k0]
    exact go 1 (by rw [if_pos k0]) (by omega)
  rw [if_neg k0]
  by_cases k1 : A 1980 (A 1977 48) = 1
  · rw [if_pos k1]
    exact go 0 (by rw [if_neg k0, if_neg (by omega), if_neg (by omega)]) (by omega)
  rw [if_neg k1]
  by_cases k2 : A 1980 (A 1977 48) = 2
  · rw [if_pos k2]
    by_cases d0 : A 1977 51 = 0
    · rw [if_pos d0]
      exact go 3 (by rw [if_neg k0, if_pos k2, if_pos (Or.inl d0)]) (by omega)
    rw [if_neg d0]
    by_cases d1 : A 1977 51 = 1
    · rw [if_pos d1]
      exact go 3 (by rw [if_neg k0, if_pos k2, if_pos (Or.inr d1)]) (by omega)
    rw [if_neg d1]
    by_cases d2 : A 1977 51 = 2
    · rw [if_pos d2]
      exact go 4 (by rw [if_neg k0, if_pos k2, if_neg (by omega), if_pos d2]) (by omega)
    rw [if_neg d2]
    exact go 5 (by rw [if_neg k0, if_pos k2, if_neg (by omega), if_neg d2]) (by omega)
  rw [if_neg k2]
  by_cases k3 : A 1980 (A 1977 48) = 3
  · rw [if_pos k3]
    exact go 6 (by rw [if_neg k0, if_neg k2, if_pos k3]) (by omega)
  rw [if_neg k3]
  exact go 0 (by rw [if_neg k0, if_neg k2, if_neg k3]) (by omega)
end SNM
