/-! exceptions: the words on Throwable and its kin, at every state -/
def px_d (w : Cond) : Bool := match w with
  | .declares _ => true
  | .laysStatic _ _ _ => true
  | _ => goodWord w
def px_L0 : List Cond := Bundle.throwableAtoms ++ Bundle.throwableSAtoms ++ [.fieldLink Bundle.tN 198 Bundle.tN "backtrace" "Ljava/lang/Object;", .lays Bundle.tN Bundle.tN "backtrace" "Ljava/lang/Object;"] ++ Bundle.passSAtoms "java/lang/RuntimeException" "java/lang/Exception" 7 Bundle.six ++ Bundle.passSAtoms "java/lang/Exception" Bundle.tN 7 Bundle.six
def px_thirteen : ByteArray := ⟨#[0x2a, 0x2b, 0xb7, 0x00, 0x0d, 0xb1]⟩
def px_LX (ic : Nat) (x : String) (ix : Nat) (by6 : ByteArray) : List Cond := Bundle.passSAtoms x "java/lang/RuntimeException" ix by6 ++
  [.methodLink "MeterSheet" ic (Bundle.initS x), .instantiable x 6, .initialized x, .selects x Bundle.tFill0 Bundle.tFill0, .selects x Bundle.tFill Bundle.tFill,
   .lays x Bundle.tN "cause" "Ljava/lang/Throwable;", .lays x Bundle.tN "stackTrace" Bundle.steD, .lays x Bundle.tN "suppressedExceptions" Bundle.listD, .lays x Bundle.tN "detailMessage" "Ljava/lang/String;", .lays x Bundle.tN "backtrace" "Ljava/lang/Object;"]
def px_ok (L : List Cond) : Bool := L.all (fun w => px_d w && tables_1.contains w)
theorem px_ok0 : px_ok px_L0 = true := by decide +kernel
theorem px_ok1 : px_ok (px_LX 66 "java/lang/IllegalArgumentException" 7 Bundle.six) = true := by decide +kernel
theorem px_ok2 : px_ok (px_LX 77 "java/lang/IllegalStateException" 7 Bundle.six) = true := by decide +kernel
theorem px_ok3 : px_ok (px_LX 116 "java/lang/UnsupportedOperationException" 7 Bundle.six) = true := by decide +kernel
theorem px_ok4 : px_ok (px_LX 229 "java/util/NoSuchElementException" 13 px_thirteen) = true := by decide +kernel
section PX
variable {s0 : State} {a0 : Array Value}
theorem px_lays {C n d : String} (h : (Cond.laysStatic C n d).before a0 s0 = true) {U : State} (hW : s0.WarmedH U.vm) (hq : ∀ q, q < s0.heap.size → U.heap[q]? = s0.heap[q]?) (a : Array Value) : (Cond.laysStatic C n d).before a U = true := by
  obtain ⟨c, k, i, f, ad, cell, hc, hi, hst, ha, hcell, hs, hcls, hlt, hty⟩ := Cond.laysStatic_spec h
  obtain ⟨k', hi', he⟩ := State.fieldFound?_setVm hW.alike hi
  have hc' : U.vm.findClass C = some c := by rw [hW.alike.findClass]; exact hc
  have hcell' : U.heap[ad]? = some cell := by rw [hq ad (Array.getElem?_eq_some_iff.mp hcell).1]; exact hcell
  exact Cond.laysStatic_of hc' hi' hst (by rw [he]; exact ha) hcell' hs hcls hlt (by rw [he]; exact hty)
theorem px_ref {C n d : String} (hl : (Cond.laysStatic C n d).before a0 s0 = true) (hini : (Cond.initialized C).before a0 s0 = true) (h : (Cond.isRef (.static C n d)).before a0 s0 = true) {U : State} (hW : s0.WarmedH U.vm) (hq : ∀ q, q < s0.heap.size → U.heap[q]? = s0.heap[q]?) (a : Array Value) : (Cond.isRef (.static C n d)).before a U = true := by
  have h1 : va_Zq C n d (fun q => s0.heap.size ≤ q) s0 s0.heap := va_Zqof hl hini h (fun a ha hA => absurd hA (Nat.not_le.mpr ha))
  have h2 : va_Zq C n d (fun q => s0.heap.size ≤ q) U U.heap := (va_Zq.moved hW.alike h1).kept (fun q hq1 _ => hq q hq1)
  rcases h2 with ⟨cf, kf, fi, f, ad, cell, g1, g2, g3, g4, g5, g6, g7, -⟩ | ⟨t, cf, kf, fi, f, ad, cell, g1, g2, g3, g4, g5, g6, g7, -⟩
  · simp [Cond.before, Cond.holds, Cond.value, Term.eval, State.fieldNamed?, g1, g2, g4, g5, g6, g7]
  · simp [Cond.before, Cond.holds, Cond.value, Term.eval, State.fieldNamed?, g1, g2, g4, g5, g6, g7]
theorem px_hold (hts : ∀ w ∈ lw_tbl, w.before a0 s0 = true) {L : List Cond} (hL : px_ok L = true) {U : State} (hW : s0.WarmedH U.vm) (hq : ∀ q, q < s0.heap.size → U.heap[q]? = s0.heap[q]?) (a : Array Value) : ∀ w ∈ L, w.before a U = true := by
  intro w hw
  have h := List.all_eq_true.mp hL w hw
  obtain ⟨h1, h2⟩ := pt_and h
  have hm : w ∈ lw_tbl := List.mem_append_right _ (by simpa using h2)
  unfold px_d at h1
  split at h1
  · exact va_Nw.use rfl (va_Nw.warmD hW (va_Nw.of rfl (hts _ hm)))
  · exact px_lays (hts _ hm) hW hq a
  · exact word_at hW (good_of_word h1) (hts _ hm)
end PX
