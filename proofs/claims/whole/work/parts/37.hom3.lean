/-! what is not ours, over two heaps -/
section PHX
variable {H1 H2 : Type} {G1 : H1 → Nat → Option pv_E} {S1 : H1 → Nat → pv_E → H1} {P1 : H1 → pv_E → H1} {N1 M1 : H1 → Nat} {G2 : H2 → Nat → Option pv_E} {S2 : H2 → Nat → pv_E → H2} {P2 : H2 → pv_E → H2} {N2 M2 : H2 → Nat} {r : H1 → H2 → Prop}
theorem ph_cp (hR : ph_R G1 S1 P1 N1 M1 G2 S2 P2 N2 M2 r) {fr lo fr2 lo2 : Nat} {a : H1} {b : H2} {st : List Value} {a' : H1} {st' : List Value} (hr : r a b) (hf : fr ≤ fr2) (hl : lo ≤ lo2) (h : pt_cp G1 S1 fr lo a st = some (a', st')) : ∃ b', pt_cp G2 S2 fr2 lo2 b st = some (b', st') ∧ r a' b' := by
  unfold pt_cp at h ⊢
  split at h
  · split at h
    · rename_i hg1 hg2
      rw [hR.1 _ _ _ _ hr hg1, hR.1 _ _ _ _ hr hg2]
      split at h
      · rename_i hc
        cases h
        exact ⟨_, if_pos ⟨hc.1, hc.2.1, by omega, by omega, hc.2.2.2.2⟩, hR.2.1 _ _ _ _ _ hr hg2 rfl⟩
      · cases h
    · cases h
  · cases h
theorem ph_xt (hR : ph_R G1 S1 P1 N1 M1 G2 S2 P2 N2 M2 r) : ∀ (kd z fr lo fr2 lo2 : Nat) (a : H1) (b : H2) (st : List Value) (a' : H1) (st' : List Value), r a b → fr ≤ fr2 → lo ≤ lo2 → pt_xtA G1 S1 kd z fr lo a st = some (a', st') → ∃ b', pt_xtA G2 S2 kd z fr2 lo2 b st = some (b', st') ∧ r a' b' := by
  intro kd z fr lo fr2 lo2 a b st a' st' hr hf hl h
  unfold pt_xtA at h ⊢
  cases hb : Nat.beq kd 7 with
  | true =>
    rw [hb] at h
    exact ph_cp hR hr hf hl h
  | false =>
    rw [hb] at h
    dsimp only [cond] at h ⊢
    unfold pt_xt at h ⊢
    split at h
    · split at h
      · split at h
        · rename_i hc
          cases h
          exact ⟨b, if_pos ⟨by omega, by omega⟩, hr⟩
        · cases h
      · cases h
    · split at h
      · split at h
        · rename_i hq
          split at h
          · rename_i hc
            cases h
            refine ⟨b, ?_, hr⟩
            try dsimp only
            try rw [hq]
            try dsimp only
            exact if_pos ⟨by omega, hc.2.1, by omega⟩
          · cases h
        · cases h
      · cases h
    · split at h
      · split at h
        · rename_i hq
          split at h
          · rename_i hi
            split at h
            · rename_i hc
              cases h
              refine ⟨b, ?_, hr⟩
              try dsimp only
              try rw [hq]
              try dsimp only
              try rw [hi]
              try dsimp only
              exact if_pos ⟨by omega, hc.2.1, by omega⟩
            · cases h
          · cases h
        · cases h
      · cases h
    · cases h
end PHX
/-- more fuel and more room change no answer -/
theorem ph_more {HT : Type} {G : HT → Nat → Option pv_E} {S : HT → Nat → pv_E → HT} {P : HT → pv_E → HT} {N M : HT → Nat} {sc : Nat × (Nat → Int32)} {capC capS : Nat} {n n2 fr lo fr2 lo2 : Nat} {h h' : HT} {y pc : Nat} {lv : List (Nat × Value)} {st : List Value} {o : pv_O} (hn : n ≤ n2) (hf : fr ≤ fr2) (hl : lo ≤ lo2)
    (hrun : pv_run G S P N M sc capC capS pt_ar pt_nw pt_fty pt_cox pt_ax pt_nL pt_cst pt_rt pt_hs pt_rc (pt_xtA G S) n fr lo h y pc lv st = some (h', o)) : pv_run G S P N M sc capC capS pt_ar pt_nw pt_fty pt_cox pt_ax pt_nL pt_cst pt_rt pt_hs pt_rc (pt_xtA G S) n2 fr2 lo2 h y pc lv st = some (h', o) := by
  have hR : ph_R G S P N M G S P N M (fun a b => a = b) := ⟨fun a b i x e g => e ▸ g, fun a b i x e hr _ _ => by rw [hr], fun a b e hr => by rw [hr], fun a b hr => by rw [hr], fun a b hr => by rw [hr]⟩
  obtain ⟨b', h1, rfl⟩ := ph_run hR (ph_xt hR) n n2 hn fr lo fr2 lo2 h h y pc lv st h' o rfl hf hl hrun
  exact h1
