/-! The plain machine's stack and locals against the machine's -/
def pv_em (b : Nat) (X : Nat → Nat) (v : Value) : Value := match v with
  | .ref i => .ref (b + i)
  | .retAddr k => .ref (X k)
  | .int x => .int x
  | .long x => .long x
  | .float x => .float x
  | .double x => .double x
  | .null => .null
def pv_em2 (b : Nat) (X : Nat → Nat) (q : Nat × Value) : Nat × Value := (q.1, pv_em b X q.2)
theorem pv_em_cat (b : Nat) (X : Nat → Nat) (v : Value) : (pv_em b X v).category = v.category := by cases v <;> rfl
theorem pv_get_mem {lv : List (Nat × Value)} {i : Nat} {v : Value} (h : pv_get lv i = some v) : (i, v) ∈ lv := by
  induction lv with
  | nil => cases h
  | cons q l ih =>
    unfold pv_get at h
    split at h
    · rename_i e
      cases h
      subst e
      exact List.mem_cons_self
    · exact List.mem_cons_of_mem _ (ih h)
theorem pv_lget {b : Nat} {X : Nat → Nat} {ls : Array Slot} {nL : Nat} {lv : List (Nat × Value)} (hl : lv_has ls nL (lv.map (pv_em2 b X))) {i : Nat} {v : Value} (h : pv_get lv i = some v) : ls[i]? = some (.val (pv_em b X v)) :=
  hl.2.2 (i, pv_em b X v) (List.mem_map.mpr ⟨(i, v), pv_get_mem h, rfl⟩)
theorem pv_put1_em (b : Nat) (X : Nat → Nat) (lv : List (Nat × Value)) (i : Nat) (v : Value) : (i, pv_em b X v) :: (lv.map (pv_em2 b X)).filter (fun q => !(q.1 == i) && !(q.1 + 1 == i && q.2.category == 2)) = (pv_put1 lv i v).map (pv_em2 b X) := by
  unfold pv_put1
  rw [List.map_cons, List.filter_map]
  have e : ((fun q : Nat × Value => !(q.1 == i) && !(q.1 + 1 == i && q.2.category == 2)) ∘ pv_em2 b X) = (fun q : Nat × Value => !(q.1 == i) && !(q.1 + 1 == i && q.2.category == 2)) := by
    funext q
    simp only [Function.comp, pv_em2, pv_em_cat]
  rw [e]
  rfl
theorem pv_put2_em (b : Nat) (X : Nat → Nat) (lv : List (Nat × Value)) (i : Nat) (v : Value) : (i, pv_em b X v) :: (lv.map (pv_em2 b X)).filter (fun q => !(q.1 == i) && (!(q.1 == i + 1) && !(q.1 + 1 == i && q.2.category == 2))) = (pv_put2 lv i v).map (pv_em2 b X) := by
  unfold pv_put2
  rw [List.map_cons, List.filter_map]
  have e : ((fun q : Nat × Value => !(q.1 == i) && (!(q.1 == i + 1) && !(q.1 + 1 == i && q.2.category == 2))) ∘ pv_em2 b X) = (fun q : Nat × Value => !(q.1 == i) && (!(q.1 == i + 1) && !(q.1 + 1 == i && q.2.category == 2))) := by
    funext q
    simp only [Function.comp, pv_em2, pv_em_cat]
  rw [e]
  rfl
theorem pv_ii_some {f : Int32 → Int32 → Int32} {st st' : List Value} (h : pv_ii f st = some st') : ∃ x y r, st = .int y :: .int x :: r ∧ st' = .int (f x y) :: r := by
  unfold pv_ii at h
  split at h
  · exact ⟨_, _, _, rfl, (Option.some.inj h).symm⟩
  · cases h
theorem pv_iid_some {f : Int32 → Int32 → Int32} {st st' : List Value} (h : pv_iid f st = some st') : ∃ x y r, st = .int y :: .int x :: r ∧ ¬ y = 0 ∧ st' = .int (f x y) :: r := by
  unfold pv_iid at h
  split at h
  · split at h
    · cases h
    · rename_i e
      exact ⟨_, _, _, rfl, e, (Option.some.inj h).symm⟩
  · cases h
theorem pv_ll_some {f : Int64 → Int64 → Int64} {st st' : List Value} (h : pv_ll f st = some st') : ∃ x y r, st = .long y :: .long x :: r ∧ st' = .long (f x y) :: r := by
  unfold pv_ll at h
  split at h
  · exact ⟨_, _, _, rfl, (Option.some.inj h).symm⟩
  · cases h
theorem pv_lld_some {f : Int64 → Int64 → Int64} {st st' : List Value} (h : pv_lld f st = some st') : ∃ x y r, st = .long y :: .long x :: r ∧ ¬ y = 0 ∧ st' = .long (f x y) :: r := by
  unfold pv_lld at h
  split at h
  · split at h
    · cases h
    · rename_i e
      exact ⟨_, _, _, rfl, e, (Option.some.inj h).symm⟩
  · cases h
theorem pv_il_some {f : Int64 → Int32 → Int64} {st st' : List Value} (h : pv_il f st = some st') : ∃ x y r, st = .int y :: .long x :: r ∧ st' = .long (f x y) :: r := by
  unfold pv_il at h
  split at h
  · exact ⟨_, _, _, rfl, (Option.some.inj h).symm⟩
  · cases h
theorem pv_llc_some {f : Int64 → Int64 → Int32} {st st' : List Value} (h : pv_llc f st = some st') : ∃ x y r, st = .long y :: .long x :: r ∧ st' = .int (f x y) :: r := by
  unfold pv_llc at h
  split at h
  · exact ⟨_, _, _, rfl, (Option.some.inj h).symm⟩
  · cases h
theorem pv_1i_some {f : Int32 → Value} {st st' : List Value} (h : pv_1i f st = some st') : ∃ x r, st = .int x :: r ∧ st' = f x :: r := by
  unfold pv_1i at h
  split at h
  · exact ⟨_, _, rfl, (Option.some.inj h).symm⟩
  · cases h
theorem pv_1l_some {f : Int64 → Value} {st st' : List Value} (h : pv_1l f st = some st') : ∃ x r, st = .long x :: r ∧ st' = f x :: r := by
  unfold pv_1l at h
  split at h
  · exact ⟨_, _, rfl, (Option.some.inj h).symm⟩
  · cases h
theorem pv_dup_some {st st' : List Value} (h : pv_dup st = some st') : ∃ v r, st = v :: r ∧ v.category = 1 ∧ st' = v :: v :: r := by
  unfold pv_dup at h
  split at h
  · split at h
    · rename_i e
      exact ⟨_, _, rfl, e, (Option.some.inj h).symm⟩
    · cases h
  · cases h
theorem pv_pop_some {st st' : List Value} (h : pv_pop st = some st') : ∃ v r, st = v :: r ∧ v.category = 1 ∧ st' = r := by
  unfold pv_pop at h
  split at h
  · split at h
    · rename_i e
      exact ⟨_, _, rfl, e, (Option.some.inj h).symm⟩
    · cases h
  · cases h
theorem pv_dup2_some {st st' : List Value} (h : pv_dup2 st = some st') : ∃ v w r, st = v :: w :: r ∧ ((v.category = 2 ∧ st' = v :: v :: w :: r) ∨ (v.category = 1 ∧ w.category = 1 ∧ st' = v :: w :: v :: w :: r)) := by
  unfold pv_dup2 at h
  split at h
  · rename_i v w r
    split at h
    · rename_i e
      exact ⟨_, _, _, rfl, Or.inl ⟨e, (Option.some.inj h).symm⟩⟩
    · rename_i e
      split at h
      · rename_i e2
        exact ⟨_, _, _, rfl, Or.inr ⟨(lv_cat v).resolve_right e, e2, (Option.some.inj h).symm⟩⟩
      · cases h
  · cases h
section PVA
variable {p : Program} {l : Launch} {e : Env} {R : Room} {s : State} {m : MethodId} {args : Array Value} {below : List Frame} {meth : Method} {c : Code} {H : Heap} {locs : List Loc} {cells slots : Nat} {Q : State → Prop}
variable {cc : ByteArray} {pc : Nat} {ls : Array Slot} {b : Nat} {X : Nat → Nat}
set_option maxHeartbeats 1000000 in
theorem pv_s1_ok (hx : p.tables.exec = Jvm.exec) (hb : c.code = cc) {ins : Instr} {st st' : List Value} (h : pv_s1 ins st = some st') (hdg : decode cc pc = .ok (ins, pv_len ins))
    (k : W p l e R s m args below meth c H locs cells slots Q (F0 m (pc + pv_len ins) ls (st'.map (pv_em b X)))) : W p l e R s m args below meth c H locs cells slots Q (F0 m pc ls (st.map (pv_em b X))) := by
  unfold pv_s1 at h
  split at h
  · cases h
    exact lv_iconst hx hb hdg rfl k
  · cases h
    exact lv_bipush hx hb hdg rfl k
  · cases h
    exact lv_sipush hx hb hdg rfl k
  · cases h
    exact lv_lconst hx hb hdg rfl k
  · cases h
    exact lv_null hx hb hdg k
  · obtain ⟨x, y, r, rfl, rfl⟩ := pv_ii_some h
    exact lv_iadd hx hb hdg k
  · obtain ⟨x, y, r, rfl, rfl⟩ := pv_ii_some h
    exact lv_isub hx hb hdg k
  · obtain ⟨x, y, r, rfl, rfl⟩ := pv_ii_some h
    exact lv_imul hx hb hdg k
  · obtain ⟨x, y, r, rfl, rfl⟩ := pv_ii_some h
    exact lv_iand hx hb hdg k
  · obtain ⟨x, y, r, rfl, rfl⟩ := pv_ii_some h
    exact lv_ior hx hb hdg k
  · obtain ⟨x, y, r, rfl, rfl⟩ := pv_ii_some h
    exact lv_ixor hx hb hdg k
  · obtain ⟨x, y, r, rfl, rfl⟩ := pv_ii_some h
    exact lv_ishl hx hb hdg k
  · obtain ⟨x, y, r, rfl, rfl⟩ := pv_ii_some h
    exact lv_ishr hx hb hdg k
  · obtain ⟨x, y, r, rfl, hne, rfl⟩ := pv_iid_some h
    exact lv_idiv hx hb hdg hne k
  · obtain ⟨x, y, r, rfl, hne, rfl⟩ := pv_iid_some h
    exact lv_irem hx hb hdg hne k
  · obtain ⟨x, y, r, rfl, rfl⟩ := pv_ll_some h
    exact lv_ladd hx hb hdg k
  · obtain ⟨x, y, r, rfl, rfl⟩ := pv_ll_some h
    exact lv_lsub hx hb hdg k
  · obtain ⟨x, y, r, rfl, rfl⟩ := pv_ll_some h
    exact lv_lmul hx hb hdg k
  · obtain ⟨x, y, r, rfl, rfl⟩ := pv_ll_some h
    exact lv_land hx hb hdg k
  · obtain ⟨x, y, r, rfl, rfl⟩ := pv_ll_some h
    exact lv_lor hx hb hdg k
  · obtain ⟨x, y, r, rfl, hne, rfl⟩ := pv_lld_some h
    exact lv_ldiv hx hb hdg hne k
  · obtain ⟨x, y, r, rfl, hne, rfl⟩ := pv_lld_some h
    exact lv_lrem hx hb hdg hne k
  · obtain ⟨x, y, r, rfl, rfl⟩ := pv_il_some h
    exact lv_lshl hx hb hdg rfl k
  · obtain ⟨x, y, r, rfl, rfl⟩ := pv_il_some h
    exact lv_lshr hx hb hdg rfl k
  · obtain ⟨x, y, r, rfl, rfl⟩ := pv_il_some h
    exact lv_lushr hx hb hdg rfl k
  · obtain ⟨x, y, r, rfl, rfl⟩ := pv_llc_some h
    exact W.lcmp hx hb hdg k
  · obtain ⟨x, r, rfl, rfl⟩ := pv_1l_some h
    exact lv_lneg hx hb hdg k
  · obtain ⟨x, r, rfl, rfl⟩ := pv_1l_some h
    exact lv_l2i hx hb hdg rfl k
  · obtain ⟨x, r, rfl, rfl⟩ := pv_1i_some h
    exact lv_i2l hx hb hdg rfl k
  · obtain ⟨x, r, rfl, rfl⟩ := pv_1i_some h
    exact lv_i2b hx hb hdg rfl k
  · obtain ⟨v, r, rfl, hc, rfl⟩ := pv_dup_some h
    exact lv_dup hx hb hdg (by rw [pv_em_cat]; exact hc) k
  · obtain ⟨v, r, rfl, hc, rfl⟩ := pv_pop_some h
    exact lv_pop hx hb hdg (by rw [pv_em_cat]; exact hc) k
  · obtain ⟨v, w, r, rfl, ⟨hc, rfl⟩ | ⟨hc, hw, rfl⟩⟩ := pv_dup2_some h
    · exact lv_dup2_2 hx hb hdg (by rw [pv_em_cat]; exact hc) k
    · exact lv_dup2_11 hx hb hdg (by rw [pv_em_cat]; exact hc) (by rw [pv_em_cat]; exact hw) k
  · cases h
set_option maxHeartbeats 1000000 in
theorem pv_s2_ok (hx : p.tables.exec = Jvm.exec) (hb : c.code = cc) {nL : Nat} {ins : Instr} {lv lv' : List (Nat × Value)} {st st' : List Value} (h : pv_s2 nL ins lv st = some (lv', st')) (hdg : decode cc pc = .ok (ins, pv_len ins)) (hl : lv_has ls nL (lv.map (pv_em2 b X)))
    (k : ∀ ls' : Array Slot, lv_has ls' nL (lv'.map (pv_em2 b X)) → W p l e R s m args below meth c H locs cells slots Q (F0 m (pc + pv_len ins) ls' (st'.map (pv_em b X)))) : W p l e R s m args below meth c H locs cells slots Q (F0 m pc ls (st.map (pv_em b X))) := by
  unfold pv_s2 at h
  split at h
  · unfold pv_ldi at h
    split at h
    · rename_i hg
      cases h
      exact lv_iload hx hb hdg (pv_lget hl hg) (k ls hl)
    · cases h
  · unfold pv_ldi at h
    split at h
    · rename_i hg
      cases h
      exact lv_iload_n hx hb hdg rfl (pv_lget hl hg) (k ls hl)
    · cases h
  · unfold pv_ldl at h
    split at h
    · rename_i hg
      cases h
      exact lv_lload hx hb hdg (pv_lget hl hg) (k ls hl)
    · cases h
  · unfold pv_ldl at h
    split at h
    · rename_i hg
      cases h
      exact lv_lload_n hx hb hdg rfl (pv_lget hl hg) (k ls hl)
    · cases h
  · unfold pv_lda at h
    split at h
    · rename_i hg
      cases h
      exact lv_aload hx hb hdg (pv_lget hl hg) (k ls hl)
    · rename_i hg
      cases h
      exact lv_aload hx hb hdg (pv_lget hl hg) (k ls hl)
    · rename_i hg
      cases h
      exact lv_aloadN hx hb hdg (pv_lget hl hg) (k ls hl)
    · cases h
  · unfold pv_lda at h
    split at h
    · rename_i hg
      cases h
      exact lv_aload_n hx hb hdg rfl (pv_lget hl hg) (k ls hl)
    · rename_i hg
      cases h
      exact lv_aload_n hx hb hdg rfl (pv_lget hl hg) (k ls hl)
    · rename_i hg
      cases h
      exact lv_aload_nN hx hb hdg rfl (pv_lget hl hg) (k ls hl)
    · cases h
  · unfold pv_sti at h
    split at h
    · split at h
      · rename_i hn
        cases h
        exact lv_istore hx hb hdg hl hn (pv_put1_em b X lv _ (.int _)) k
      · cases h
    · cases h
  · unfold pv_sti at h
    split at h
    · split at h
      · rename_i hn
        cases h
        exact lv_istore_n hx hb hdg rfl hl hn (pv_put1_em b X lv _ (.int _)) k
      · cases h
    · cases h
  · unfold pv_stl at h
    split at h
    · split at h
      · rename_i hn
        cases h
        exact lv_lstore hx hb hdg hl hn (pv_put2_em b X lv _ (.long _)) k
      · cases h
    · cases h
  · unfold pv_stl at h
    split at h
    · split at h
      · rename_i hn
        cases h
        exact lv_lstore_n hx hb hdg rfl hl hn (pv_put2_em b X lv _ (.long _)) k
      · cases h
    · cases h
  · unfold pv_sta at h
    split at h
    · split at h
      · rename_i hn
        cases h
        exact lv_astore hx hb hdg hl hn (pv_put1_em b X lv _ (.ref _)) k
      · cases h
    · split at h
      · rename_i hn
        cases h
        exact lv_astore hx hb hdg hl hn (pv_put1_em b X lv _ (.retAddr _)) k
      · cases h
    · split at h
      · rename_i hn
        cases h
        exact lv_astoreN hx hb hdg hl hn (pv_put1_em b X lv _ .null) k
      · cases h
    · cases h
  · unfold pv_sta at h
    split at h
    · split at h
      · rename_i hn
        cases h
        exact lv_astore_n hx hb hdg rfl hl hn (pv_put1_em b X lv _ (.ref _)) k
      · cases h
    · split at h
      · rename_i hn
        cases h
        exact lv_astore_n hx hb hdg rfl hl hn (pv_put1_em b X lv _ (.retAddr _)) k
      · cases h
    · split at h
      · rename_i hn
        cases h
        exact lv_astore_nN hx hb hdg rfl hl hn (pv_put1_em b X lv _ .null) k
      · cases h
    · cases h
  · unfold pv_inc at h
    split at h
    · rename_i hg
      split at h
      · rename_i hn
        cases h
        obtain ⟨kk, hkk⟩ := List.mem_iff_getElem?.mp (List.mem_map.mpr ⟨_, pv_get_mem hg, rfl⟩ : pv_em2 b X _ ∈ lv.map (pv_em2 b X))
        exact lv_iinc hx hb hdg hl hkk rfl hn (pv_put1_em b X lv _ (.int _)) k
      · cases h
    · cases h
  · cases h
theorem pv_tgt {pc : Nat} {off : Int} (h : 0 ≤ (pc : Int) + off) : (pc : Int) + off = ((((pc : Int) + off).toNat : Nat) : Int) := by omega
set_option maxHeartbeats 1000000 in
theorem pv_j_ok (hx : p.tables.exec = Jvm.exec) (hb : c.code = cc) {ins : Instr} {st st' : List Value} {tk : Bool} {off : Int} {len : Nat} (h : pv_j ins st = some (tk, off, st')) (hdg : decode cc pc = .ok (ins, len)) (hlen : pv_len ins = 0 ∨ pv_len ins = len) (ht : 0 ≤ (pc : Int) + off)
    (kt : tk = true → W p l e R s m args below meth c H locs cells slots Q (F0 m ((pc : Int) + off).toNat ls (st'.map (pv_em b X)))) (kf : tk = false → W p l e R s m args below meth c H locs cells slots Q (F0 m (pc + 3) ls (st'.map (pv_em b X)))) : W p l e R s m args below meth c H locs cells slots Q (F0 m pc ls (st.map (pv_em b X))) := by
  unfold pv_j at h
  split at h
  · cases h
    have hlen : 3 = len := hlen.resolve_left (by simp [pv_len])
    subst hlen
    exact lv_goto hx hb hdg (pv_tgt ht) (kt rfl)
  · rename_i cnd off0
    have hlen : 3 = len := hlen.resolve_left (by simp [pv_len])
    subst hlen
    split at h
    · cases h
      cases cnd
      · exact lv_if_eq hx hb hdg (pv_tgt ht) (fun q => kt (by simpa [pv_cmp] using q)) (fun q => kf (by simpa [pv_cmp] using q))
      · exact lv_if_ne hx hb hdg (pv_tgt ht) (fun q => kt (by simpa [pv_cmp] using q)) (fun q => kf (by simpa [pv_cmp] using q))
      · exact lv_if_lt hx hb hdg (pv_tgt ht) (fun q => kt (by simpa [pv_cmp] using q)) (fun q => kf (by simpa [pv_cmp] using q))
      · exact lv_if_ge hx hb hdg (pv_tgt ht) (fun q => kt (by simpa [pv_cmp] using q)) (fun q => kf (by simpa [pv_cmp] using q))
      · exact lv_if_gt hx hb hdg (pv_tgt ht) (fun q => kt (by simpa [pv_cmp] using q)) (fun q => kf (by simpa [pv_cmp] using q))
      · exact lv_if_le hx hb hdg (pv_tgt ht) (fun q => kt (by simpa [pv_cmp] using q)) (fun q => kf (by simpa [pv_cmp] using q))
    · cases h
  · rename_i cnd off0
    have hlen : 3 = len := hlen.resolve_left (by simp [pv_len])
    subst hlen
    split at h
    · cases h
      cases cnd
      · exact lv_icmp_eq hx hb hdg (pv_tgt ht) (fun q => kt (by simpa [pv_cmp] using q)) (fun q => kf (by simpa [pv_cmp] using q))
      · exact lv_icmp_ne hx hb hdg (pv_tgt ht) (fun q => kt (by simpa [pv_cmp] using q)) (fun q => kf (by simpa [pv_cmp] using q))
      · exact lv_icmp_lt hx hb hdg (pv_tgt ht) (fun q => kt (by simpa [pv_cmp] using q)) (fun q => kf (by simpa [pv_cmp] using q))
      · exact lv_icmp_ge hx hb hdg (pv_tgt ht) (fun q => kt (by simpa [pv_cmp] using q)) (fun q => kf (by simpa [pv_cmp] using q))
      · exact lv_icmp_gt hx hb hdg (pv_tgt ht) (fun q => kt (by simpa [pv_cmp] using q)) (fun q => kf (by simpa [pv_cmp] using q))
      · exact lv_icmp_le hx hb hdg (pv_tgt ht) (fun q => kt (by simpa [pv_cmp] using q)) (fun q => kf (by simpa [pv_cmp] using q))
    · cases h
  · have hlen : 3 = len := hlen.resolve_left (by simp [pv_len])
    subst hlen
    split at h
    · cases h
      exact lv_ifnullN hx hb hdg (pv_tgt ht) (kt rfl)
    · cases h
      exact lv_ifnull hx hb hdg (kf rfl)
    · cases h
      exact lv_ifnull hx hb hdg (kf rfl)
    · cases h
  · have hlen : 3 = len := hlen.resolve_left (by simp [pv_len])
    subst hlen
    split at h
    · cases h
      exact lv_ifnonnullN hx hb hdg (kf rfl)
    · cases h
      exact lv_ifnonnull hx hb hdg (pv_tgt ht) (kt rfl)
    · cases h
      exact lv_ifnonnull hx hb hdg (pv_tgt ht) (kt rfl)
    · cases h
  · split at h
    · split at h
      · rename_i hc
        cases h
        exact lv_tableOut hx hb hdg hc (pv_tgt ht) (kt rfl)
      · rename_i hc
        split at h
        · rename_i ho
          cases h
          exact lv_tableIn hx hb hdg (fun q => hc (Or.inl q)) (fun q => hc (Or.inr q)) ho (pv_tgt ht) (kt rfl)
        · cases h
    · cases h
  · split at h
    · split at h
      · rename_i hc
        cases h
        exact lv_lookup hx hb hdg hc rfl (pv_tgt ht) (kt rfl)
      · cases h
    · cases h
  · cases h
end PVA
