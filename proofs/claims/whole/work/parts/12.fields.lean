/-! fields, objects, arrays: what the tables say -/
noncomputable def pt_okC (c : Nat) : Bool :=
  (List.range (pt_N c)).all (fun k => decide (pt_wd (pt_lp c k) = some (u_lay (pt_nm c) (pt_F c) k)) && decide (parseFieldDescriptor (pt_F c k).2.2.1 = some (pt_fty c k)) && decide ((pt_F c k).1 = pt_nm c) && decide ((pt_nw c)[k]? = some (defaultValue (pt_fty c k))) && (List.range (pt_N c)).all (fun j => j == k || decide ((pt_F c j).2.1 ≠ (pt_F c k).2.1))) &&
  decide (pt_wd (pt_ip c) = some (.instantiable (pt_nm c) (pt_N c))) && decide (pt_wd (pt_zp c) = some (.initialized (pt_nm c))) && decide ((pt_nw c).length = pt_N c)
set_option maxRecDepth 20000 in
theorem pt_okC_all : (List.range 12).all pt_okC = true := by decide +kernel
abbrev pt_ws (c : Nat) : List Cond := u_ws (pt_nm c) (pt_F c) (pt_N c)
theorem pt_okC_spec {c : Nat} (hc : c < 12) : (∀ k, k < pt_N c → pt_wd (pt_lp c k) = some (u_lay (pt_nm c) (pt_F c) k) ∧ parseFieldDescriptor (pt_F c k).2.2.1 = some (pt_fty c k) ∧ (pt_F c k).1 = pt_nm c ∧ (pt_nw c)[k]? = some (defaultValue (pt_fty c k)) ∧ ∀ j, j < pt_N c → j ≠ k → (pt_F c j).2.1 ≠ (pt_F c k).2.1) ∧ pt_wd (pt_ip c) = some (.instantiable (pt_nm c) (pt_N c)) ∧ pt_wd (pt_zp c) = some (.initialized (pt_nm c)) ∧ (pt_nw c).length = pt_N c := by
  have h := List.all_eq_true.mp pt_okC_all c (List.mem_range.mpr hc)
  unfold pt_okC at h
  obtain ⟨h, h4⟩ := pt_and h
  obtain ⟨h, h3⟩ := pt_and h
  obtain ⟨h1, h2⟩ := pt_and h
  refine ⟨fun k hk => ?_, of_decide_eq_true h2, of_decide_eq_true h3, of_decide_eq_true h4⟩
  have hq := List.all_eq_true.mp h1 k (List.mem_range.mpr hk)
  obtain ⟨hq, q5⟩ := pt_and hq
  obtain ⟨hq, q4⟩ := pt_and hq
  obtain ⟨hq, q3⟩ := pt_and hq
  obtain ⟨q1, q2⟩ := pt_and hq
  refine ⟨of_decide_eq_true q1, of_decide_eq_true q2, of_decide_eq_true q3, of_decide_eq_true q4, fun j hj hjk => ?_⟩
  have q6 := List.all_eq_true.mp q5 j (List.mem_range.mpr hj)
  rcases (Bool.or_eq_true _ _ ▸ q6 : (j == k) = true ∨ decide ((pt_F c j).2.1 ≠ (pt_F c k).2.1) = true) with q7 | q7
  · exact absurd (by simpa using q7) hjk
  · exact of_decide_eq_true q7
section PTF
variable {s0 : State} {p : Program} {l : Launch} {e : Env} {R : Room} {s : State} {m : MethodId} {args : Array Value} {below : List Frame} {meth : Method} {c : Code}
theorem pt_ws_hold (hH : pt_holds s0) {q : Nat} (hq : q < 12) (a : Array Value) (hs : s0.WarmedH s.vm) : ∀ w ∈ pt_ws q, w.before a s = true := by
  intro w hw
  obtain ⟨k, hk, rfl⟩ := List.mem_map.mp hw
  refine hH _ _ ((pt_okC_spec hq).1 k (List.mem_range.mp hk)).1 ?_ a s hs
  unfold u_lay
  split <;> rfl
/-- the classes' numbers and slots at the start -/
def pt_D (s0 : State) (D : va_G) : Prop := ∀ q, q < 12 → u_Kn s0 (pt_nm q) (pt_F q) (pt_N q) (D.1 q) (D.2 q)
theorem pt_D_ex (hH : pt_holds s0) : ∃ D : va_G, pt_D s0 D := by
  have h : ∀ q, ∃ x : ClassId × (Nat → Nat), q < 12 → u_Kn s0 (pt_nm q) (pt_F q) (pt_N q) x.1 x.2 := by
    intro q
    by_cases hq : q < 12
    · obtain ⟨cC, iS, hk⟩ := u_known (args := #[]) (C := pt_nm q) (T := pt_F q) (N := pt_N q) (n := pt_N q) (ws := pt_ws q) (pt_ws_hold hH hq #[] (State.WarmedH.refl s0)) (fun w h => h) (hH _ _ (pt_okC_spec hq).2.1 rfl #[] s0 (State.WarmedH.refl s0))
      exact ⟨(cC, iS), fun _ => hk⟩
    · exact ⟨(0, fun _ => 0), fun h => absurd h hq⟩
  exact ⟨(fun q => (Classical.choose (h q)).1, fun q => (Classical.choose (h q)).2), fun q hq => Classical.choose_spec (h q) hq⟩
theorem pt_D.at {D : va_G} (h : pt_D s0 D) (hs : s0.WarmedH s.vm) {q : Nat} (hq : q < 12) : u_Kn s (pt_nm q) (pt_F q) (pt_N q) (D.1 q) (D.2 q) := u_Kn_moved hs.alike (h q hq)
theorem pt_okF_spec {q n : Nat} (hk : (q, n) ∈ pt_keyF) : (pt_fl q n).1 < 12 ∧ (pt_fl q n).2.1 < pt_N (pt_fl q n).1 ∧ pt_wd (pt_fp q n) = some (.fieldLink (pt_nm q) n (pt_nm (pt_fl q n).1) (pt_F (pt_fl q n).1 (pt_fl q n).2.1).2.1 (pt_F (pt_fl q n).1 (pt_fl q n).2.1).2.2.1) := by
  have h := List.all_eq_true.mp pt_okF_all (q, n) hk
  unfold pt_okF at h
  obtain ⟨h, h3⟩ := pt_and h
  obtain ⟨h1, h2⟩ := pt_and h
  exact ⟨Nat.le_of_ble_eq_true h1, Nat.le_of_ble_eq_true h2, of_decide_eq_true h3⟩
/-- a field is read -/
theorem pt_rG {D : va_G} (hH : pt_holds s0) (hD : pt_D s0 D) (hx : p.tables.exec = Jvm.exec) (hs : s0.WarmedH s.vm) {q n : Nat} (hown : s.vm.findClass (pt_nm q) = some m.cls) (hk : (q, n) ∈ pt_keyF) {pc : Nat} (hdg : decode c.code pc = .ok (.getfield n, 3)) :
    pv_rG p l e R s m args below meth c pc (D.1 (pt_fl q n).1) (D.2 (pt_fl q n).1 (pt_fl q n).2.1) := by
  intro H locs cells slots Q ls rest a cell v h1 h2 h3 h4 kk
  obtain ⟨f1, f2, f3⟩ := pt_okF_spec hk
  have hlink := hH _ _ f3 rfl args s hs
  obtain ⟨hS, hfc, kC, hkC, hkind⟩ := hD.at hs f1
  obtain ⟨cf, kf, fi, f, hi, hsl⟩ := hS _ f2
  have hst := (u_facts hfc hkC (u_lays (args := args) (pt_ws_hold hH f1 args hs) (fun w h => h) f2) hi).1
  rw [((pt_okC_spec f1).1 _ f2).2.2.1] at hi
  refine W.getf hx rfl hown hlink hi hst h1 (by rw [h3]; exact fun h => by cases h) (v := v) ?_ rfl rfl hdg kk
  rw [hsl]
  exact h4
theorem pt_apart {D : va_G} (hH : pt_holds s0) (hD : pt_D s0 D) {q : Nat} (hq : q < 12) : ∀ x y, x < pt_N q → y < pt_N q → x ≠ y → D.2 q x ≠ D.2 q y := by
  intro x y hx hy hxy
  have hK : va_K (fun _ => D.1 q, fun _ => D.2 q) [(pt_nm q, pt_F q, pt_N q)] [] s0 := by
    refine ⟨fun k r hk => ?_, fun k r hk => by cases hk⟩
    have h0 : k < 1 := (List.getElem?_eq_some_iff.mp hk).1
    rw [show k = 0 by omega] at hk
    cases hk
    exact hD q hq
  exact va_apart (own := "") (ci := 0) (args := #[]) (pt_ws_hold hH hq #[] (State.WarmedH.refl s0)) (fun w h => h) (pt_fty q) (fun k hk => ((pt_okC_spec hq).1 k hk).2.1) (fun a ha b hb hab => ((pt_okC_spec hq).1 b hb).2.2.2.2 a ha hab) hK rfl x y hx hy hxy
/-- a field is set -/
theorem pt_rP {D : va_G} (hH : pt_holds s0) (hD : pt_D s0 D) (hx : p.tables.exec = Jvm.exec) (hs : s0.WarmedH s.vm) {q n : Nat} (hown : s.vm.findClass (pt_nm q) = some m.cls) (hk : (q, n) ∈ pt_keyF) {pc : Nat} (hdg : decode c.code pc = .ok (.putfield n, 3)) (hfin : (pt_F (pt_fl q n).1 (pt_fl q n).2.1).2.2.2 = false ∨ (meth.name = "<init>" ∧ pt_nm (pt_fl q n).1 = pt_nm q)) :
    pv_rP p l e R s m args below meth c pc (D.1 (pt_fl q n).1) (D.2 (pt_fl q n).1 (pt_fl q n).2.1) (pt_fty (pt_fl q n).1 (pt_fl q n).2.1) := by
  intro H locs cells slots Q ls rest a cell v h1 h2 h3 h4 hn hf kk
  obtain ⟨f1, f2, f3⟩ := pt_okF_spec hk
  have hlink := hH _ _ f3 rfl args s hs
  obtain ⟨hS, hfc, kC, hkC, hkind⟩ := hD.at hs f1
  obtain ⟨cf, kf, fi, f, hi, hsl⟩ := hS _ f2
  have hts := pt_ws_hold hH f1 args hs
  have hst := (u_facts hfc hkC (u_lays (args := args) hts (fun w h => h) f2) hi).1
  have hlay := hts _ (u_in_lay f2)
  obtain ⟨-, hd, hdecl, -⟩ := (pt_okC_spec f1).1 _ f2
  have hi' := hi
  rw [hdecl] at hi'
  unfold u_lay at hlay
  by_cases hz : (pt_F (pt_fl q n).1 (pt_fl q n).2.1).2.2.2 = true
  · rw [if_pos hz] at hlay
    obtain ⟨hin2, hcls⟩ := hfin.resolve_left (by rw [hz]; decide)
    have hcf : m.cls = cf := by
      obtain ⟨_, _, c', _, _, _, -, -, hf', -, -, -, hown2, -⟩ := Cond.laysFinal_spec hlay
      have e1 : c' = cf := by have := hi.symm.trans hf'; simp at this; exact this.1.symm
      rw [hdecl, hcls] at hown2
      rw [← e1]; exact Option.some.inj (hown.symm.trans hown2)
    have h6 := u_fits hfc hkC hkind (Or.inr hlay) hi hd hn hf
    refine W.putFinK hx rfl hown hlink hi' hst hcf hin2 (by rw [h2]; exact h6) h1 h3 (by rw [hsl]; exact h4) rfl rfl hdg fun H' e1 e2 e3 => ?_
    rw [hsl] at e1 ⊢
    exact kk H' e1 e2 e3
  · rw [if_neg hz] at hlay
    have h6 := u_store hfc hkC hkind hlay hi hd hn hf
    refine W.putK hx rfl (f := f) ⟨hown, hlink, ⟨_, _, _, hi'⟩, hst⟩ (by rw [h2]; exact h6) h1 h3 (by rw [hsl]; exact h4) rfl rfl hdg fun H' e1 e2 e3 => ?_
    rw [hsl] at e1 ⊢
    exact kk H' e1 e2 e3
/-- an object comes -/
theorem pt_rN {D : va_G} {Z : pv_T} {b : Nat} {X : Nat → Nat} (hZ : Z.2.2 = D) (hH : pt_holds s0) (hD : pt_D s0 D) (hx : p.tables.exec = Jvm.exec) (hs : s0.WarmedH s.vm) {q n t : Nat} (hown : s.vm.findClass (pt_nm q) = some m.cls) (ht : t < 12) (hl : pt_wd (pt_np q n) = some (.classLink (pt_nm q) n (pt_nm t))) {pc : Nat} (hdg : decode c.code pc = .ok (.new n, 3)) :
    pv_rN p l e R s m args below meth c pc (pt_nw t).length (fun a H => pv_at1 Z b X a (.inr (t, pt_nw t)) H) := by
  intro H locs cells slots Q ls rest hc1 hc2 kk
  obtain ⟨k1, k2, k3, k4⟩ := pt_okC_spec ht
  have hcl := hH _ _ hl rfl args s hs
  have hinst := hH _ _ k2 rfl args s hs
  have hini := hH _ _ k3 rfl args s hs
  have hKn := hD.at hs ht
  rw [k4] at hc2
  refine W.newcK hx rfl hown hcl hinst hini rfl hdg hc1 hc2 hKn.2.1 rfl fun H1 kC hkC e1 z1 o1 => ?_
  rw [← k4]
  refine kk H1 z1 o1 ?_
  unfold pv_at1
  dsimp only
  rw [if_pos (by omega), hZ, k4]
  refine (u_born (args := args) (pt_fty t) (pt_ws_hold hH ht args hs) (fun w h => h) hKn hkC e1 (fun k hk => (k1 k hk).2.1)).to fun j hj => ?_
  have h8 := (k1 j hj).2.2.2.1
  unfold vp_V
  rw [List.getD_eq_getElem?_getD, List.getElem?_map, h8]
  generalize pt_fty t j = T
  cases T <;> rfl
end PTF
