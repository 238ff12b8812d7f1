/-! the empty script -/
def pq_ok (o : Option (TH × pv_O)) : Bool := match o with
  | some (_, .inl (some (.int x))) => decide (x = 1)
  | _ => false
theorem pq_ok_spec {o : Option (TH × pv_O)} (h : pq_ok o = true) : ∃ h', o = some (h', .inl (some (.int 1))) := by
  unfold pq_ok at h
  split at h
  · rename_i h' x
    have e := of_decide_eq_true h
    subst e
    exact ⟨h', rfl⟩
  · cases h
theorem tr_nil : tr (tz 12 0, 0, 0) [] := by
  refine ⟨rfl, rfl, fun i x h => ?_⟩
  have hz : ∀ (d lo : Nat), tg (tz d lo) i = none := by
    intro d
    induction d with
    | zero => intro lo; rfl
    | succ d ih =>
      intro lo
      show (bif Nat.blt i (lo + 2 ^ d) then tg (tz d lo) i else tg (tz d (lo + 2 ^ d)) i) = none
      rw [ih, ih]
      cases Nat.blt i (lo + 2 ^ d) <;> rfl
  unfold TG at h
  dsimp only at h
  rw [hz] at h
  cases h
theorem pt_runs_tree {L : Nat} {xs : Nat → Int32} {n : Nat} (h : pq_ok (pv_run TG TS TP TN TM (L, xs) 601024 7293034 pt_ar pt_nw pt_fty pt_cox pt_ax pt_nL pt_cst pt_rt pt_hs pt_rc (pt_xtA TG TS) n 15 584 (tz 12 0, 0, 0) 317 0 [(0, .retAddr 0)] []) = true) : pt_runs L xs := by
  obtain ⟨h', e⟩ := pq_ok_spec h
  obtain ⟨b', e2, -⟩ := ph_run tr_R (ph_xt tr_R) n n (Nat.le_refl _) 15 584 15 584 _ [] 317 0 [(0, .retAddr 0)] [] h' _ tr_nil (Nat.le_refl _) (Nat.le_refl _) e
  exact ⟨n, b', e2⟩
