/-! a walk begun anew in the middle of a method: what was written before doesn't count -/
section PVB
variable {p : Program} {l : Launch} {e : Env} {R : Room} {s : State} {m : MethodId} {args : Array Value} {below : List Frame} {meth : Method} {c : Code} {T : State} {locs : List Loc} {cells slots : Nat}
theorem pv_rebase (X : Stand p l e R s m args below meth c T locs cells slots) (hc : cells ≤ R.cells) (hs : slots ≤ R.slots) :
    Stand p l e { frames := R.frames, cells := R.cells - cells, slots := R.slots - slots, locals := R.locals } (T.setFrames (.invoking m args :: below)) m args below meth c T [] 0 0 := by
  obtain ⟨g₀, hfr⟩ := X.frames_eq
  have hcur : T.cur < T.threads.size := State.cur_lt_of_frames hfr
  have hf1 : (T.setFrames (.invoking m args :: below)).frames = .invoking m args :: below := State.frames_setFrames _ hcur
  have hm1 : (T.setFrames (.invoking m args :: below)).vm.method? m = some meth := X.method'
  refine ⟨X.admits, X.cas, X.clock, hf1, ?_, ?_, hm1, X.code, X.here, X.tail, State.WarmedH.refl (T.setFrames (.invoking m args :: below)), ?_, ?_, ?_⟩
  · have hr := X.room
    have h1 := X.heapSize
    have h2 := X.used
    have h3 := X.book
    have h4 := X.limits
    have h5 := X.bytes
    have e1 := State.localsInUse_invoking X.frames X.method X.code
    have e2 := State.localsInUse_invoking hf1 hm1 X.code
    simp only [State.hasRoom, Bool.and_eq_true, decide_eq_true_eq] at hr ⊢
    obtain ⟨⟨⟨⟨r1, r2, r3, r4, r5, r6⟩, r7⟩, r8⟩, r9⟩ := hr
    rw [e2, hf1, State.stackLimits_setFrames, State.stackBytes_setFrames, h4, h5]
    rw [e1] at r1 r4 r5
    rw [X.frames] at r2 r3
    refine ⟨⟨⟨⟨r1, r2, r3, r4, r5, r6⟩, ?_⟩, ?_⟩, ?_⟩
    · show T.heap.size + (R.cells - cells) ≤ _
      omega
    · show T.slotsUsed + (R.slots - slots) ≤ _
      omega
    · exact h3
  · have hh := X.hears
    have hcode : ∀ k : MethodId, (T.setFrames (.invoking m args :: below)).code? k = s.code? k := by
      intro k
      rw [State.code?_eq, State.code?_eq]
      show (T.vm.method? k).bind _ = _
      rw [X.warmed.alike.method?]
    unfold State.hears at hh ⊢
    split
    · rw [hcode]
      exact hh
    · rfl
    · rfl
    · rename_i h1 h2 h3
      split at hh
      · exact absurd rfl (h1 _ _)
      · exact absurd rfl (h2 _ _)
      · exact absurd rfl (h3 _ _)
      · rw [hm1]
        rw [X.method] at hh
        exact hh
  · rw [State.stackLimits_setFrames]
  · rw [State.stackBytes_setFrames]
  · obtain ⟨t, ht, -⟩ := State.frames_cons hf1
    have hcur' : (T.setFrames (.invoking m args :: below)).cur < (T.setFrames (.invoking m args :: below)).threads.size := State.cur_lt_of_frames hf1
    have h := (State.sameButNew.refl (T.setFrames (.invoking m args :: below)) ht).setFrames T.frames hcur'
    obtain ⟨th, hth, -⟩ := State.frames_cons hfr
    rw [State.setFrames_setFrames, State.setFrames_self hth] at h
    exact h
theorem pv_same_back (X : Stand p l e R s m args below meth c T locs cells slots) {U : State} {fs : List Frame} {L : List Loc} {k n : Nat} (h : (T.setFrames fs).sameButNew ({ U with vm := (T.setFrames fs).vm } : State) L k n) : s.sameButNew ({ U with vm := s.vm } : State) (locs ++ L) (cells + k) (slots + n) := by
  have h2 : T.sameButNew ({ U with vm := T.vm } : State) L k n := by
    obtain ⟨q1, q2⟩ := h
    refine ⟨?_, q2⟩
    have q1' : ({ U with vm := T.vm } : State) = { (T.setFrames fs).setFrames ({ U with vm := T.vm } : State).frames with heap := U.heap, slotsUsed := U.slotsUsed } := q1
    rw [State.setFrames_setFrames] at q1'
    exact q1'
  exact X.same.trans (h2.setVm s.vm)
end PVB
