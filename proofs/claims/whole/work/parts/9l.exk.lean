/-! exemplars: kept; what stands when a child's numbers and exemplars are other than before -/
section EXK
variable {sc : Nat × (Nat → Int32)} {D D' : tD} {K : tD → Int → Prop} {E : tD → Nat → Prop} {c : Int}
def kxC (D : tD) (e : Int) : Prop := D e 1 = 0 ∨ (D e 1 = 1 ∧ 1000 ≤ D 0 8 - D e 3)
theorem c_keepEx {x b v : Int} {S : List (List Int)} (hx : 0 ≤ x ∧ x < 24) (hb : 0 ≤ b ∧ b < 7) (hS : lsIs D 1974 S) (hl : (S.flatten.length : Int) ≤ 44) (hn : 0 ≤ D 0 8 ∧ D 0 8 ≤ 2147483647 * 600) (ht : D (aX 0 x b) 1 = 1 → 0 ≤ D (aX 0 x b) 3 ∧ D (aX 0 x b) 3 ≤ 2000000000000000) (hT : kxC D (aX 0 x b) → ∀ D', D' (aX 0 x b) 1 = 1 → D' (aX 0 x b) 2 = v → D' (aX 0 x b) 3 = D 0 8 → lsIs D' (aX 0 x b + 1) S → (∀ a j, a < aX 0 x b ∨ aX 0 x b + 3 < a → D' a j = D a j) → K D' 0) (hF : ¬ kxC D (aX 0 x b) → K D 0) : WP sc 30 0 D [(0, (1200, 0)), (1, (1201, aC 0 x)), (2, (0, b)), (3, (1, v))] [] K E := by
  have eX : aX 0 x b = aC 0 x + 5 + 1 + 4 * b := by unfold aX aC; omega
  have eA : aX 0 x b = 167 + 34 * x + 4 * b := by unfold aX; omega
  have bec : kxC D (aX 0 x b) → WP sc 53 0 D [(0, (1203, aX 0 x b)), (1, (1205, 1974)), (2, (1, v)), (4, (1, D 0 8))] [] (fun D4 _ => K D4 0) (fun D4 e5 => E D4 e5) := fun hk => by
    refine v53_0 ?_
    have hS' : lsIs (wr D (aX 0 x b) 1 1) 1974 S := by
      obtain ⟨p1, p2, p3, p4⟩ := hS
      exact ⟨by rw [wr_ne (by omega)]; exact p1, by rw [wr_ne (by omega)]; exact p2, atL_fr (fun j u w => wr_ne (by omega)) p3, p4⟩
    refine c_lsbec hS' (by rw [show aX 0 x b + 1 + 2 = aX 0 x b + 3 from by omega, ln_ex (Or.inl rfl) hx hb, show ln (1974 + 2) = 88 from rfl]; omega) (by omega) (fun D1 h1 h2 h3 => ?_)
    refine hT hk _ ?_ ?_ wr_self ?_ (fun a j u => ?_)
    · rw [wr_ni (by omega), wr_ni (by omega), h2 _ _ (by omega), wr_self]
    · rw [wr_ni (by omega), wr_self]
    · obtain ⟨p1, p2, p3, p4⟩ := h1
      exact ⟨by rw [wr_ne (by omega), wr_ne (by omega)]; exact p1, by rw [wr_ne (by omega), wr_ne (by omega)]; exact p2, atL_fr (fun j u w => by rw [wr_ne (by omega), wr_ne (by omega)]) p3, p4⟩
    · rw [wr_ne (by omega), wr_ne (by omega), h2 _ _ (by omega), wr_ne (by omega)]
  refine v30_0 (v33_0 ?_)
  rw [if_neg (by omega), ln_exs (Or.inl rfl) hx, if_pos (by omega)]
  refine ⟨by omega, ?_⟩
  rw [← eX, if_neg (by omega)]
  intro h01
  split
  · rename_i h0
    exact bec (Or.inl h0)
  · rename_i h0
    have h3 := ht (by omega)
    rw [w64_id (by omega) (by omega)]
    split
    · rename_i hlt
      rw [tlc_lt] at hlt
      exact hF (fun w => by rcases w with w | w <;> omega)
    · rename_i hge
      rw [tlc_lt] at hge
      exact bec (Or.inr ⟨by omega, by omega⟩)
/-- the other side -/
def kxM (D : tD) (q : Int) : Prop := D 2003 q = 0 ∨ (D 2003 q = 1 ∧ 1000 ≤ D 1977 3 - D 2005 q)
theorem m_ks1 {q : Int} {l : List Int} (hq : 0 ≤ q ∧ q < 336) (hll : l.length ≤ 44) {D0 : tD} (hK : ∀ D', (∀ a j, a ≠ 2006 → D' a j = D0 a j) → (∀ j, ¬ (44 * q ≤ j ∧ j < 44 * q + 44) → D' 2006 j = D0 2006 j) → atL D' 2006 (44 * q) l → K D' 0) : ∀ (m : Nat) (k : Nat) (D : tD), m + k = l.length → setIs D l → (∀ a j, a ≠ 2006 → D a j = D0 a j) → (∀ j, ¬ (44 * q ≤ j ∧ j < 44 * q + (k : Int)) → D 2006 j = D0 2006 j) → (∀ j, 0 ≤ j → j < (k : Int) → D 2006 (44 * q + j) = D 2009 j) → WP sc 223 35 D [(0, (1211, 1977)), (1, (0, q)), (6, (0, (k : Int)))] [] K E := by
  intro m
  induction m with
  | zero =>
    intro k D hk hs h1 h2 h3
    refine v223_35 ?_
    rw [hs.1, if_neg (by omega)]
    refine hK D h1 (fun j u => h2 j (by omega)) (atL_mov (fun j u v => ?_) hs.2)
    rw [h3 j u (by omega), show (0 : Int) + j = j from by omega]
  | succ m ih =>
    intro k D hk hs h1 h2 h3
    refine v223_35 ?_
    rw [hs.1, if_pos (by omega), w32_id (x := 44 * q) (by omega) (by omega), w32_id (x := 44 * q + (k : Int)) (by omega) (by omega), w32_id (by omega) (by omega)]
    refine ⟨by omega, by omega, ?_⟩
    have := ih (k + 1) (wr D 2006 (44 * q + (k : Int)) (D 2009 (k : Int))) (by omega) ⟨by rw [wr_ne (by omega)]; exact hs.1, atL_fr (fun j u v => wr_ne (by omega)) hs.2⟩ (fun a j u => by rw [wr_ne u, h1 a j u]) (fun j u => by rw [wr_ni (by omega), h2 j (by omega)]) (fun j u v => ?_)
    · rw [show ((k + 1 : Nat) : Int) = (k : Int) + 1 from by omega] at this
      exact this
    · by_cases e : j = (k : Int)
      · rw [e, wr_self, wr_ne (by omega)]
      · rw [wr_ni (by omega), wr_ne (by omega), h3 j u (by omega)]
theorem m_ksamp {q v w : Int} {l : List Int} (hq : 0 ≤ q ∧ q < 336) (hs : setIs D l) (hl : l.length ≤ 44) (hK : ∀ D', D' 2003 q = 1 → D' 2004 q = v → D' 2005 q = w → D' 2007 q = (l.length : Int) → atL D' 2006 (44 * q) l → (∀ a j, a = 2003 ∨ a = 2004 ∨ a = 2005 ∨ a = 2007 → j ≠ q → D' a j = D a j) → (∀ j, ¬ (44 * q ≤ j ∧ j < 44 * q + 44) → D' 2006 j = D 2006 j) → (∀ a j, a < 2003 ∨ 2007 < a → D' a j = D a j) → K D' 0) : WP sc 223 0 D [(0, (1211, 1977)), (1, (0, q)), (2, (1, v)), (4, (1, w))] [] K E := by
  refine v223_0 ⟨hq, hq, hq, hq, ?_⟩
  rw [wr_ne (by omega), wr_ne (by omega), wr_ne (by omega), hs.1]
  refine m_ks1 (l := l) hq hl (D0 := wr (wr (wr (wr D 2003 q 1) 2004 q v) 2005 q w) 2007 q (l.length : Int)) (fun D' h1 h2 h3 => ?_) l.length 0 _ (by omega) ⟨by rw [wr_ne (by omega), wr_ne (by omega), wr_ne (by omega), wr_ne (by omega)]; exact hs.1, atL_fr (fun j u v => by rw [wr_ne (by omega), wr_ne (by omega), wr_ne (by omega), wr_ne (by omega)]) hs.2⟩ (fun _ _ _ => rfl) (fun _ _ => rfl) (fun j u v => by omega)
  refine hK D' ?_ ?_ ?_ ?_ h3 (fun a j u v => ?_) (fun j u => ?_) (fun a j u => ?_)
  · rw [h1 _ _ (by omega), wr_ne (by omega), wr_ne (by omega), wr_ne (by omega), wr_self]
  · rw [h1 _ _ (by omega), wr_ne (by omega), wr_ne (by omega), wr_self]
  · rw [h1 _ _ (by omega), wr_ne (by omega), wr_self]
  · rw [h1 _ _ (by omega), wr_self]
  · rw [h1 _ _ (by omega), wr_ni v, wr_ni v, wr_ni v, wr_ni v]
  · rw [h2 j u, wr_ne (by omega), wr_ne (by omega), wr_ne (by omega), wr_ne (by omega)]
  · rw [h1 _ _ (by omega), wr_ne (by omega), wr_ne (by omega), wr_ne (by omega), wr_ne (by omega)]
theorem m_keep {q v : Int} {l : List Int} (hq : 0 ≤ q ∧ q < 336) (hs : setIs D l) (hl : l.length ≤ 44) (hn : 0 ≤ D 1977 3 ∧ D 1977 3 ≤ 2147483647 * 600) (ht : D 2003 q = 1 → 0 ≤ D 2005 q ∧ D 2005 q ≤ 2000000000000000) (hT : kxM D q → ∀ D', D' 2003 q = 1 → D' 2004 q = v → D' 2005 q = D 1977 3 → D' 2007 q = (l.length : Int) → atL D' 2006 (44 * q) l → (∀ a j, a = 2003 ∨ a = 2004 ∨ a = 2005 ∨ a = 2007 → j ≠ q → D' a j = D a j) → (∀ j, ¬ (44 * q ≤ j ∧ j < 44 * q + 44) → D' 2006 j = D 2006 j) → (∀ a j, a < 2003 ∨ 2007 < a → D' a j = D a j) → K D' 0) (hF : ¬ kxM D q → K D 0) : WP sc 224 0 D [(0, (1211, 1977)), (1, (0, q)), (2, (1, v))] [] K E := by
  refine v224_0 ⟨hq, fun h01 => ?_⟩
  split
  · rename_i h0
    exact m_ksamp hq hs hl (hT (Or.inl h0))
  · rename_i h0
    have h3 := ht (by omega)
    refine ⟨hq, ?_⟩
    rw [w64_id (by omega) (by omega)]
    split
    · rename_i hlt
      rw [tlc_lt] at hlt
      exact hF (fun w => by rcases w with w | w <;> omega)
    · rename_i hge
      rw [tlc_lt] at hge
      exact m_ksamp hq hs hl (hT (Or.inr ⟨by omega, by omega⟩))
/-- a kept child's numbers, counts and exemplars are other than before, and the tape may be empty -/
theorem RL_chx {D2 : tD} {x : Int} (hR : RL RSc D c) (hc : c < 600) (hx : 0 ≤ x ∧ x < 24) (h3 : D (aC 0 x) 3 = 1) (h1 : D2 (-1) 0 = D (-1) 0) (ht : (D2 1977 2 = D 1977 2 ∧ ∀ j, D2 1 j = D 1 j) ∨ (D2 1 1 = 0 ∧ D2 1977 2 = 0)) (hN : chN D2 0 x) (hS : chS D2 0 x) (hK : chK (c + 1) D2 0 x) (hX : chX D2 0 x) (hC : ∀ j, j ≠ 5 → j ≠ 7 → D2 (aC 0 x) j = D (aC 0 x) j) (hM : ∀ j, j ≠ 0 → j ≠ 2 → j ≠ 37 → D2 1977 j = D 1977 j) (hA : ∀ a j, a = 1999 ∨ a = 2001 → j ≠ x → D2 a j = D a j) (hB : ∀ a j, 2002 ≤ a → a ≤ 2007 → a ≠ 2006 → ¬ (7 * x ≤ j ∧ j < 7 * x + 7) → D2 a j = D a j) (hB6 : ∀ j, ¬ (308 * x ≤ j ∧ j < 308 * x + 308) → D2 2006 j = D 2006 j) (hr : ∀ a j, (0 ≤ a ∧ a ≤ 1973 ∧ a ≠ 1 ∧ ¬ (a = aC 0 x ∨ (aC 0 x + 4 ≤ a ∧ a ≤ aC 0 x + 33))) ∨ (1978 ≤ a ∧ a ≤ 1998) ∨ a = 2000 ∨ a = 2008 ∨ a = 2013 → D2 a j = D a j) : RL RSc D2 (c + 1) := by
  have r8 := hR.2.2.2.2.2.2.2
  have hn := r8.1.1
  have eC : aC 0 x = 161 + 34 * x := by unfold aC; omega
  have hch := (r8.1.2.2.1 x hx.1 hx.2).2.2 h3
  have hlo : ∀ a j, 0 ≤ a → a ≤ 1973 → a ≠ 1 → ¬ (aC 0 x ≤ a ∧ a ≤ aC 0 x + 33) → D2 a j = D a j := fun a j u1 u2 u3 u4 => hr a j (Or.inl ⟨u1, u2, u3, by omega⟩)
  have hhi : ∀ a j, (1978 ≤ a ∧ a ≤ 1998) ∨ a = 2000 ∨ a = 2008 ∨ a = 2013 → D2 a j = D a j := fun a j u => hr a j (Or.inr u)
  have hRS : RSc (c + 1) D2 := by
    refine RSc_kept r8 (shR_chl (k := x) (Or.inl rfl) hx (by omega) (hC 3 (by omega) (by omega)) (fun _ => chR_mk (hlo _ _ (by omega) (by omega) (by omega) (by omega)) ⟨hC _ (by omega) (by omega), hC _ (by omega) (by omega)⟩ (fun a j u v => hr a j (Or.inl ⟨by omega, by omega, by omega, by omega⟩)) (fun a j u => hhi _ _ (by omega)) hN hS hK hX hch) (fun a j u1 u2 => ?_) r8.1) (fun a j u => ?_) (fun a j u1 u2 u3 u4 u5 u6 => ?_) (fun a j u => hhi _ _ (by omega))
    · have v1 : ¬ (aC 0 x ≤ a ∧ a ≤ aC 0 x + 33) := fun w => u2 (Or.inl w)
      by_cases e3 : a = 1977
      · have : j = 22 := by
          rcases u1 with w | w | w | w | w | w | w <;> omega
        rw [e3, this]; exact hM _ (by omega) (by omega) (by omega)
      · by_cases e4 : a = 1999 ∨ a = 2001
        · exact hA _ _ e4 (fun w => u2 (Or.inr (Or.inl ⟨by omega, by omega⟩)))
        · by_cases e5 : a = 2006
          · subst e5
            exact hB6 _ (fun w => u2 (Or.inr (Or.inr (Or.inr (Or.inr ⟨rfl, by omega, by omega⟩)))))
          · by_cases e6 : 2002 ≤ a ∧ a ≤ 2007
            · exact hB _ _ e6.1 e6.2 e5 (fun w => u2 (Or.inr (Or.inr (Or.inr (Or.inl ⟨by omega, by omega, by omega⟩)))))
            · rcases u1 with w | w | w | w | w | w | w
              · exact hlo _ _ (by omega) (by omega) (by omega) v1
              all_goals exact hhi _ _ (by omega)
    · by_cases e3 : a = 1977
      · rw [e3]; exact hM _ (by omega) (by omega) (by omega)
      · by_cases e4 : a = 2008
        · exact hhi _ _ (by omega)
        · exact hlo _ _ (by omega) (by omega) (by omega) (by omega)
    · have key : (a = 1999 ∨ a = 2001) → j ≠ x := fun h w => by
        rcases u6 with ⟨g, g1, g2, g3⟩ | ⟨g, g1, g2, g3⟩ | g | g
        · have := fdep_hi (Or.inr rfl) (by omega) g3 (by omega); omega
        · rcases g3 with z | z | z | z | z
          · unfold aC at z; omega
          all_goals omega
        · omega
        · omega
      have key2 : (2002 ≤ a ∧ a ≤ 2007) → a ≠ 2006 → ¬ (7 * x ≤ j ∧ j < 7 * x + 7) := fun h h' w => by
        rcases u6 with ⟨g, g1, g2, g3⟩ | ⟨g, g1, g2, g3⟩ | g | g
        · have := fdep_hi (Or.inr rfl) (by omega) g3 (by omega); omega
        · rcases g3 with z | z | z | z | z
          · unfold aC at z; omega
          all_goals omega
        · omega
        · omega
      have key3 : a = 2006 → ¬ (308 * x ≤ j ∧ j < 308 * x + 308) := fun h w => by
        rcases u6 with ⟨g, g1, g2, g3⟩ | ⟨g, g1, g2, g3⟩ | g | g
        · have := fdep_hi (Or.inr rfl) (by omega) g3 (by omega); omega
        · rcases g3 with z | z | z | z | z
          · unfold aC at z; omega
          all_goals omega
        · omega
        · omega
      by_cases e4 : a = 1999 ∨ a = 2001
      · exact hA _ _ e4 (key e4)
      · by_cases e5 : a = 2006
        · subst e5
          exact hB6 _ (key3 rfl)
        · by_cases e6 : 2002 ≤ a ∧ a ≤ 2007
          · exact hB _ _ e6.1 e6.2 e5 (key2 e6 e5)
          · exact hhi _ _ (by omega)
  rcases ht with ⟨t1, t2⟩ | ⟨t1, t2⟩
  · refine RL_upd hR hc (Or.inl h1) (fun a j u1 u2 => ?_) hRS
    rcases u1 with u1 | u1
    · exact absurd u1 u2
    · by_cases e : a = 1977
      · subst e
        by_cases e2 : j = 2
        · rw [e2]; exact t1
        · exact hM _ (by omega) e2 (by omega)
      · by_cases e1 : a = 1
        · rw [e1]; exact t2 j
        · by_cases e3 : 1978 ≤ a
          · exact hhi _ _ (by omega)
          · exact hlo _ _ (by omega) (by omega) e1 (by omega)
  · refine RL_clr hR hc (Or.inl h1) ⟨t1, t2⟩ (fun a j u => ?_) hRS
    by_cases e : a = 1977
    · subst e
      exact hM _ (by omega) (by omega) (by omega)
    · by_cases e3 : a = 2013
      · exact hhi _ _ (by omega)
      · exact hlo _ _ (by omega) (by omega) (by omega) (by omega)
end EXK
