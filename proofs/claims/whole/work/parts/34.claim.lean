/-! the claim out of the plain machine's run -/
/-- the plain machine runs the law's body, for the script of L ints xs, to true -/
def pt_runs (L : Nat) (xs : Nat → Int32) : Prop := ∃ (n : Nat) (h' : List pv_E), pv_run pv_G pv_S pv_P pv_N pv_M (L, xs) 601024 7293034 pt_ar pt_nw pt_fty pt_cox pt_ax pt_nL pt_cst pt_rt pt_hs pt_rc (pt_xtA pv_G pv_S) n 15 584 [] 317 0 [(0, .retAddr 0)] [] = some (h', .inl (some (.int 1)))
theorem pt_sbn {s t : State} {L : List Loc} {c n : Nat} (h : s.sameButNew t L c n) (hL : ∀ q ∈ L, s.heap.size ≤ q.base) : s.sameButNew t [] c n := by
  refine ⟨h.1, h.2.1, h.2.2.1, h.2.2.2.1, h.2.2.2.2.1, fun a cell ha => ?_⟩
  obtain ⟨c', h1, h2, h3, h4⟩ := h.2.2.2.2.2 a cell ha
  refine ⟨c', h1, h2, h3, fun i _ => h4 i fun hm => ?_⟩
  have h5 := hL _ hm
  have h6 := (Array.getElem?_eq_some_iff.mp ha).1
  exact absurd h6 (Nat.not_lt.mpr h5)
theorem pt_start {p : Program} {e : Env} {s : State} {m : MethodId} {below : List Frame} {meth : Method} {c : Code} (l : Launch) (hfl : l.flags = flags0) {b L : Nat} {xs : Nat → Int32} (hruns : pt_runs L xs) (C0 : lw_At p s m meth c b L xs) : W p l e room_1 s m #[Value.ref b] below meth c s.heap [] 0 0 (lw_Z below #[Value.ref b] s) (entryFrame m ([Value.ref b] : List Value).toArray 8) := by
  obtain ⟨n, h', hrun⟩ := hruns
  obtain ⟨D, aC, xC, X, hX0, hG, hS⟩ := pt_G_ex hfl C0
  obtain ⟨hx, hb, hr, hml, hown, hts, hX, hbl, hlk, hg, hnm, hcw⟩ := C0
  have hSX := pt_strX_of hG hS
  rw [lg_entry_eq]
  refine pv_W_mono (Q := pv_Q room_1 below s (aC, xC, D) s.heap.size X s.heap 0 0 h' (.inl (some (.int 1)))) ?_ ?_
  · intro t ht
    obtain ⟨o', L1, t1, t2, t3, t4, t5, t6, t7, t8, t9, t10, t11⟩ := ht
    have t3 : o' = .returned (some (.int 1)) := t3
    subst t3
    refine ⟨_, t1, t2, rfl, ⟨_, rfl⟩, t5, ?_⟩
    exact pt_sbn (State.sameButNew.mono t6 (by have : room_1.cells = 601024 := rfl; omega) (by have : room_1.slots = 7293034 := rfl; omega)) t7
  · intro T hT Xs
    obtain ⟨methk, ck, h1, h2, h3, h4, h5, h6, h7, h8⟩ := Cond.code_spec hnm hcw
    cases h1.symm.trans Xs.method
    cases h2.symm.trans Xs.code
    have het : c.exceptionTable.toList.map px_raw = pt_hr 317 := by
      have h9 : c.exceptionTable = #[] := by simpa using h7
      rw [h9]
      rfl
    have hnme := (name_of_methodNamed hnm Xs.method).1
    have Cx := pt_Cx_of (e := e) (R := room_1) (args := #[Value.ref b]) (below := below) (y := 317) hG hSX (State.WarmedH.refl s) (by decide) hown Xs.code hb hnme hml hr hlk het
    have hl : lv_has ((lg_sl [Value.ref b] ++ List.replicate (8 - (lg_sl [Value.ref b]).length) Slot.unset).toArray) (pt_nL 317) ([(0, Value.retAddr 0)].map (pv_em2 s.heap.size X)) := by
      have h := lv_entry [Value.ref b] (n := 8) (Nat.le_of_ble_eq_true rfl)
      have e1 : ([(0, Value.retAddr 0)].map (pv_em2 s.heap.size X)) = lv_args 0 [Value.ref b] := by
        show [(0, Value.ref (X 0))] = [(0, Value.ref b)]
        rw [hX0]
      rw [e1]
      exact h
    have hall := pv_sound (p := p) (l := l) (e := e) (b := s.heap.size) (X := X) (Z := (aC, xC, D)) (Hb := s.heap) (s0 := s) (sc := (L, xs)) (capC := 601024) (capS := 7293034) (nm := pt_nm) (by_ := pt_by) (yn := pt_yn) (zN := pt_zN) (by rw [hX0]; exact hbl) (fun z R U mk a bl methk ck hw => pt_Cx hG hSX hw) n
    exact hall 15 584 [] 317 0 [(0, .retAddr 0)] [] h' _ hrun room_1 s m #[Value.ref b] below meth c 0 0 s.heap [] 0 0 _ Cx ⟨Nat.le_refl _, Nat.le_refl _⟩ (Nat.le_refl _) (Nat.le_refl _) ⟨rfl, fun i x h => by simp at h, fun q _ => rfl⟩ hl (fun q h => by cases h) ⟨rfl, rfl, Nat.zero_le _, Nat.zero_le _⟩ (fun q hq cell hc => absurd (Array.getElem?_eq_some_iff.mp hc).1 (Nat.not_lt.mpr hq)) rfl T hT Xs
set_option maxHeartbeats 4000000 in
theorem lw_walk (hall : ∀ (L : Nat) (xs : Nat → Int32), L ≤ 2560 → pt_runs L xs) (l : Launch) (hfl : l.flags = flags0) (b : Addr) (xs : List Int32) : MetFree l x (headSpec (Jvm.Cond.code x code maxLocals ret :: tables_1) room_1) (lw_P b xs) (fun _ _ _ _ _ => True) lw_Q := by
  refine MetFree.of_bodyS (code := code) (maxLocals := maxLocals) (ret := ret) (by decide) ?_ ?_
  · intro args s m h hn
    obtain ⟨meth, c, h1, h2, h3, h4, h5, h6, -, -⟩ := Cond.code_spec hn (atoms_spec (ws := Jvm.Cond.code x code maxLocals ret :: tables_1) h _ List.mem_cons_self)
    exact ⟨meth, c, h1, h2, h3, h4, h5, h6⟩
  · intro p e s m args below meth c s₁ B hml0 hP _
    obtain ⟨rfl, hx, hbd, hgv⟩ := hP
    obtain ⟨scr, harrAt, hlist, hof, hsmall⟩ := hx
    obtain ⟨hcb, hkn, -, -⟩ := State.arrayAt?_spec harrAt
    have hown : s.vm.findClass R_law = some m.cls := findClass_of_methodNamed B.named
    have hts0 : ∀ c ∈ (Jvm.Cond.code x code maxLocals ret :: tables_1), c.before #[Value.ref b] s = true := atoms_spec (ws := Jvm.Cond.code x code maxLocals ret :: tables_1) B.pre
    have hts : ∀ w ∈ lw_tbl, w.before #[Value.ref b] s = true := k2_hts_sels lw_privs (fun w hw => hts0 w (List.mem_cons_of_mem _ hw)) lw_privs_ok
    have hml : c.maxLocals = 8 := B.maxLocals_eq (hts0 _ List.mem_cons_self)
    have X₀ : Stand p l e room_1 s m #[Value.ref b] below meth c s₁ [] 0 0 := Stand.of_body B
    have hh0 : s₁.heap = s.heap := by rw [B.state]; rfl
    have hsz : scr.slots.size = xs.length := by rw [← Array.length_toList, hlist, List.length_map]
    have hval : ∀ j : Nat, j < xs.length → scr.slots[j]? = some (.int (xs.getD j 0)) := fun j hj => by
      rw [← Array.getElem?_toList, hlist]
      simp [hj]
    have hbl : b < s.heap.size := (Array.getElem?_eq_some_iff.mp hcb).1
    have hX : va_X b xs.length (fun j => xs.getD j 0) s s.heap := ⟨scr, hcb, hof, hkn, hsz, hval⟩
    have K : W p l e room_1 s m #[Value.ref b] below meth c s₁.heap [] 0 0 (lw_Z below #[Value.ref b] s) (entryFrame m ([Value.ref b] : List Value).toArray 8) := by
      rw [hh0]
      exact pt_start l hfl (hall _ _ hbd) ⟨B.exec, B.bytes, B.returns, hml, hown, hts, hX, hbl, B.notSynchronized, hgv, B.named, hts0 _ List.mem_cons_self⟩
    obtain ⟨t, a1, o, b1, b2, b3⟩ := K s₁ rfl X₀
    exact ⟨t, o, a1, b1, b2, b3⟩
theorem lw_pre_spec {args : Array Value} {s : State} (h : (Jvm.Cond.and given_1 narrow_1).before args s = true) (hr : rest_1_c.before args s = true) : ∃ (b : Addr) (xs : List Int32), lw_P b xs args s := by
  have hs := flat_of_before _ h
  have hq := flat_of_before _ hr
  have hc : (Cond.count 1).before args s = true := hs _ (by decide +kernel)
  have harr : (Cond.arrayOf (.arg 0) .int).before args s = true := hs _ (by decide +kernel)
  have hle : (Cond.le (.length (.arg 0)) (.int 2560)).before args s = true := hs _ (by decide +kernel)
  have hlen : (Cond.isInt (.length (.arg 0))).before args s = true := hq _ (by decide +kernel)
  have hall : (Cond.all (.arg 0) (.isInt (.elem (.arg 0) (.index 0)))).before args s = true := hq _ (by decide +kernel)
  obtain ⟨b, xs, hb, hx⟩ := State.ints_of_pre rfl harr hlen hall
  have hsm : xs.length < 2 ^ 31 := hx.choose_spec.2.2.2
  have hev : (Term.length (.arg 0)).eval args s none [] s = some (.int xs.length.toInt32) := hx.length_eval hb
  have hv := Cond.le_ints hev (show (Term.int 2560).eval args s none [] s = some (.int 2560) from rfl)
  have hd : xs.length.toInt32 ≤ 2560 := by
    simpa [Cond.before, Cond.holds, hv] using hle
  have hN : xs.length ≤ 2560 := (Int32.ofNat_le_ofNat hsm (by decide)).mp (show Int32.ofNat xs.length ≤ Int32.ofNat 2560 from hd)
  exact ⟨b, xs, Cond.one_arg hc (show args[0]? = some (.ref b) from hb), hx, hN, h⟩
theorem lw_comes (hall : ∀ (L : Nat) (xs : Nat → Int32), L ≤ 2560 → pt_runs L xs) (l : Launch) (hfl : l.flags = flags0) : Comes l x (Jvm.Cond.code x code maxLocals ret :: tables_1) room_1 (fun tb e args s => Calls_1 tb e args s ∧ rest_1 tb e args s ∧ Pre_1 tb e args s)
    (fun _ _ args s o t => lw_Q args s o t) := by
  intro p e ha hc hk s m args below hf hfit hheap happ hpre
  obtain ⟨b, xs, hP⟩ := lw_pre_spec hpre.2.2 hpre.2.1
  obtain ⟨k, o, h1, h2, h3, hQ⟩ := lw_walk hall l hfl b xs p e ha hc hk s m args below hf ((Spec.applies_iff_loose hf).mp happ).1 hP trivial
  exact ⟨k, o, h1, h2, h3, hQ⟩
theorem lw_frame {s t : State} {o : Outcome} {args : Array Value} (h : Framed s o t [] 601024 7293034) :
    Framed s o t (fieldLocs frame_1_writes args s ++ arrayLocs frame_1_arrays args s ++ staticLocs frame_1_statics s) 601024 7293034 := h
theorem lw_limb (hall : ∀ (L : Nat) (xs : Nat → Int32), L ≤ 2560 → pt_runs L xs) (L : Cond) (hL : ∀ (args : Array Value) (s t : State), L.after args s (.returned (some (.int 1))) t = true) :
    ArmFor flags0 classFile x code maxLocals ret World_1 tables_1 room_1 Calls_1 rest_1 Pre_1
      (fun tb e a s o t => postC L tb e a s o t ∧ Framed s o t (fieldLocs frame_1_writes a s ++ arrayLocs frame_1_arrays a s ++ staticLocs frame_1_statics s) 601024 7293034) := by
  intro l hfl _ _ p e ha hc hk s m args below hf hfit hheap happ hpre
  obtain ⟨k, o, h1, h2, h3, rfl, hF⟩ := lw_comes hall l hfl p e ha hc hk s m args below hf hfit hheap happ hpre
  exact ⟨k, _, h1, h2, h3, hL args s _, lw_frame hF⟩
theorem pt_claim (hall : ∀ (L : Nat) (xs : Nat → Int32), L ≤ 2560 → pt_runs L xs) : Claimed_1_1 ∧ Claimed_1_2 := ⟨lw_limb hall limb_1_1 (fun args s t => by simp [limb_1_1, Cond.after, Cond.holds, Cond.value]), lw_limb hall limb_1_2 (fun args s t => Cond.after_iff.mpr (by
  first | (rw [show limb_1_2 = Cond.eq .result (.int 1) from rfl, Cond.eq_ints (x := 1) (y := 1) rfl rfl]; simp; done) | (simp [limb_1_2, Cond.value, Term.eval]; done)))⟩
