/-! all that a method's frame knows: put together -/
/-- what the JDK's own methods do: Object's constructor, String.length, String.charAt -/
def pt_xt {HT : Type} (kd _z fr lo : Nat) (h : HT) (st : List Value) : Option (HT × List Value) := match kd with
  | 3 => match st with
    | .ref _ :: r => if 1 ≤ fr ∧ (r.map Value.category).sum + 12 ≤ lo then some (h, r) else none
    | _ => none
  | 5 => match st with
    | .retAddr (k + 1) :: r => match pt_str[k]? with
      | some q => if 2 ≤ fr ∧ (r.map Value.category).sum ≤ 8 ∧ 40 ≤ lo then some (h, .int (Int32.ofNat q.2.2.length) :: r) else none
      | none => none
    | _ => none
  | 6 => match st with
    | .int j :: .retAddr (k + 1) :: r => match pt_str[k]? with
      | some q => match pv_idx j q.2.2.length with
        | some n => if 4 ≤ fr ∧ (r.map Value.category).sum ≤ 8 ∧ 85 ≤ lo then some (h, .int (q.2.2.getD n 0) :: r) else none
        | none => none
      | none => none
    | _ => none
  | _ => none
noncomputable def pt_okX (q : Nat × Nat) : Bool := !Nat.beq (pt_il q.1 q.2).1 3 || decide (pt_wd (pt_mp q.1 q.2) = some (.methodLink (pt_nm q.1) q.2 objectInit))
theorem pt_okX_all : pt_keyX.all pt_okX = true := by decide +kernel
noncomputable def pt_okK (q : Nat × Nat) : Bool := match pt_kl q.1 q.2 with
  | some (.long v) => decide (pt_wd (pt_kp q.1 q.2) = some (.constantLong (pt_nm q.1) q.2 v))
  | _ => false
theorem pt_okK_all : pt_keyK.all pt_okK = true := by decide +kernel
theorem pt_has_mem {L : List (Nat × Nat)} {c n : Nat} (h : pt_has L c n = true) : (c, n) ∈ L := by
  unfold pt_has at h
  obtain ⟨q, hq, h2⟩ := List.any_eq_true.mp h
  obtain ⟨h3, h4⟩ := pt_and h2
  have e1 : q.1 = c := Nat.eq_of_beq_eq_true h3
  have e2 : q.2 = n := Nat.eq_of_beq_eq_true h4
  rw [← e1, ← e2]
  exact hq
theorem pt_dok_spec {b : ByteArray} {pc : Nat} {i : Instr} (h : pt_dok b pc i = true) : ∃ len, decode b pc = .ok (i, len) ∧ (pv_len i = 0 ∨ pv_len i = len) := by
  unfold pt_dok at h
  split at h
  · rename_i j n hd
    obtain ⟨h1, h2⟩ := pt_and h
    have e1 : j = i := of_decide_eq_true h1
    subst e1
    refine ⟨n, hd, ?_⟩
    rcases (Bool.or_eq_true _ _).mp h2 with h3 | h3
    · exact Or.inl (Nat.eq_of_beq_eq_true h3)
    · exact Or.inr (Nat.eq_of_beq_eq_true h3)
  · cases h
theorem pt_cox_spec {y pc : Nat} {i : Instr} (h : pt_cox y pc = some i) : pc < pt_cz y ∧ pt_co y pc = some i := by
  unfold pt_cox at h
  cases hb : Nat.blt pc (pt_cz y) with
  | false => rw [hb] at h; cases h
  | true =>
    rw [hb] at h
    exact ⟨Nat.le_of_ble_eq_true hb, h⟩
theorem px_kc_in (i : Nat) : 90 ≤ px_kc i ∧ px_kc i ≤ 93 := by
  unfold px_kc
  split <;> omega
theorem px_catch_in {L : List (Nat × Nat × Nat × Nat)} {pc x pc' : Nat} (h : pv_catch (L.map px_hk) pc x = some pc') : 90 ≤ x ∧ x ≤ 93 := by
  induction L with
  | nil => cases h
  | cons q t ih =>
    simp only [List.map_cons, pv_catch] at h
    split at h
    · rename_i hc
      rw [← hc.2.2]
      exact px_kc_in _
    · exact ih h
/-- all that holds at the start -/
def pt_G (p : Program) (l : Launch) (s0 : State) (a0 : Array Value) (sc : Nat × (Nat → Int32)) (D : va_G) (aC xC : Nat → ClassId) (X : Nat → Nat) : Prop :=
  (∀ w ∈ lw_tbl, w.before a0 s0 = true) ∧ pt_D s0 D ∧ pt_A s0 D aC ∧ (∀ x, 90 ≤ x → x ≤ 93 → ClassAt s0 (px_xn x) (xC x)) ∧ (∀ x y, 90 ≤ x → x ≤ 93 → 90 ≤ y → y ≤ 93 → y ≠ x → va_Nc (px_xn x) (px_xn y) s0) ∧
  (∀ q n, (q, n) ∈ pt_keyS → ∃ (tx : String) (k : Nat), pt_kl q n = some (.retAddr (k + 1)) ∧ vk_R (pt_nm q) n tx (X (k + 1)) s0) ∧
  (Cond.isRef (.static Bundle.tN "UNASSIGNED_STACK" Bundle.steD)).before a0 s0 = true ∧ (Cond.isRef (.static Bundle.tN "SUPPRESSED_SENTINEL" Bundle.listD)).before a0 s0 = true ∧ l.flags = flags0 ∧ p.tables.exec = Jvm.exec ∧ va_X (X 0) sc.1 sc.2 s0 s0.heap ∧ X 0 < s0.heap.size
section PTX
variable {p : Program} {l : Launch} {e : Env} {R : Room} {s0 s : State} {a0 : Array Value} {m : MethodId} {args : Array Value} {below : List Frame} {meth : Method} {c : Code} {sc : Nat × (Nat → Int32)} {D : va_G} {aC xC : Nat → ClassId} {X : Nat → Nat}
theorem pt_row_ok (hG : pt_G p l s0 a0 sc D aC xC X) (hs : s0.WarmedH s.vm) {y : Nat} (hy : y < 318) (hown : s.vm.findClass (pt_nm (pt_k y)) = some m.cls) (hb : c.code = pt_by y) (hname : meth.name = (pt_m y).2.1) {pc : Nat} {i : Instr} (hco : pt_co y pc = some i) (hcz : pc < pt_cz y) :
    pv_row p l e R s m args below meth c (aC, xC, D) s0.heap.size X pt_fty pt_nw pc i (pt_ax y i).1 (pt_ax y i).2.1 := by
  obtain ⟨hts, hD, hA, hxC, hnc, hstr, hz1, hz2, hfl, hx, hsc, hXb⟩ := hG
  have hH := pt_holds_of hts
  have hchk := pt_chk_all hy hcz
  unfold pt_chk at hchk
  rw [hco] at hchk
  dsimp only at hchk
  obtain ⟨hd, hr⟩ := pt_and hchk
  obtain ⟨len, hdec, hlen⟩ := pt_dok_spec hd
  rw [← hb] at hdec
  unfold pv_row
  split
  · rename_i n
    obtain rfl : 3 = len := hlen.resolve_left (by simp [pv_len])
    have hk := pt_has_mem hr
    refine ⟨?_, pt_rG hH hD hx hs hown hk hdec⟩
    have := (pt_okF_spec hk).1
    show (pt_fl (pt_k y) n).1 < 90
    omega
  · rename_i n
    obtain rfl : 3 = len := hlen.resolve_left (by simp [pv_len])
    obtain ⟨hr1, hr2⟩ := pt_and hr
    have hk := pt_has_mem hr1
    refine ⟨(pt_okF_spec hk).1, pt_rP hH hD hx hs hown hk hdec ?_⟩
    rcases (Bool.or_eq_true _ _).mp hr2 with h3 | h3
    · exact Or.inl (by simpa using h3)
    · obtain ⟨h4, h5⟩ := pt_and h3
      exact Or.inr ⟨hname.trans (of_decide_eq_true h4), of_decide_eq_true h5⟩
  · rename_i n
    obtain rfl : 3 = len := hlen.resolve_left (by simp [pv_len])
    intro h90
    have h90' : Nat.blt (pt_nl (pt_k y) n).1 90 = true := Nat.ble_eq_true_of_le h90
    dsimp only at hr
    rw [h90'] at hr
    obtain ⟨h1, h2⟩ := pt_and hr
    exact pt_rN rfl hH hD hx hs hown (Nat.le_of_ble_eq_true h1) (of_decide_eq_true h2) hdec
  · rename_i t
    obtain rfl : 2 = len := hlen.resolve_left (by simp [pv_len])
    exact pt_rA (fun w hw a U hW hg => word_at hW (good_of_word hg) (hts w hw)) hA hx hs (Nat.le_of_ble_eq_true hr) hdec
  · rename_i n
    obtain rfl : 3 = len := hlen.resolve_left (by simp [pv_len])
    obtain ⟨h1, h2⟩ := pt_and hr
    exact pt_rR hH hA hx hs hown h1 (of_decide_eq_true h2) hdec
  · trivial
end PTX
