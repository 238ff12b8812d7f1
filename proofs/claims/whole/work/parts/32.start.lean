/-! what holds at the law's entry -/
def pt_sord : List Nat := [41, 42, 28, 29, 30, 31, 32, 33, 34, 35, 36, 37, 38, 39, 43, 45, 44, 40, 46, 0, 1, 2, 3, 4, 5, 6, 7, 8, 9, 10, 11, 12, 13, 14, 15, 16, 17, 18, 19, 20, 21, 22, 23, 49, 48, 50, 54, 59, 60, 55, 56, 57, 58, 61, 51, 52, 53, 47, 24, 25, 26, 27]
def pt_se (k : Nat) : Nat × Nat × List Int32 := pt_str.getD k (0, 0, [])
def pt_stm (k : Nat) : Term := .string (pt_nm (pt_se k).1) (pt_se k).2.1
def pt_sva (k : Nat) : Term := .field (pt_stm k) "java/lang/String" "value" "[B"
def pt_sel (k : Nat) (j : Nat) : Cond := .eq (.elem (pt_sva k) (.int (Int32.ofNat j))) (.int ((pt_se k).2.2.getD j 0))
def pt_sneed (k : Nat) : List Cond := .exactly (pt_stm k) "java/lang/String" :: .eq (.field (pt_stm k) "java/lang/String" "coder" "B") (.int 0) :: .arrayOf (pt_sva k) .byte :: .eq (.length (pt_sva k)) (.int (Int32.ofNat (pt_se k).2.2.length)) :: (List.range (pt_se k).2.2.length).map (pt_sel k)
def pt_subl : List Cond → List Cond → Bool
  | [], _ => true
  | _ :: _, [] => false
  | a :: r, x :: t => if a = x then pt_subl r t else pt_subl (a :: r) t
theorem pt_subl_mem : ∀ (M L : List Cond), pt_subl L M = true → ∀ x ∈ L, x ∈ M := by
  intro M
  induction M with
  | nil =>
    intro L h x hx
    cases L with
    | nil => cases hx
    | cons a r => cases h
  | cons y t ih =>
    intro L h x hx
    cases L with
    | nil => cases hx
    | cons a r =>
      unfold pt_subl at h
      split at h
      · rename_i hay
        rcases List.mem_cons.mp hx with rfl | hx
        · rw [hay]; exact List.mem_cons_self
        · exact List.mem_cons_of_mem _ (ih r h x hx)
      · exact List.mem_cons_of_mem _ (ih _ h x hx)
theorem pt_sneed_ok : pt_subl (pt_sord.flatMap pt_sneed) (flatC (Jvm.Cond.and given_1 narrow_1)) = true := by decide +kernel
theorem pt_sord_ok : (List.range 62).all (fun k => pt_sord.contains k) = true ∧ pt_str.length = 62 := by decide +kernel
def pt_srw (k : Nat) : Option Cond := tables_1.find? (fun w => match w with
  | .stringRef o n _ => Nat.beq n (pt_se k).2.1 && decide (o = pt_nm (pt_se k).1)
  | _ => false)
theorem pt_srw_ok : (List.range 62).all (fun k => (pt_srw k).isSome) = true := by decide +kernel
noncomputable def pt_okS2 (q : Nat × Nat) : Bool := match pt_kl q.1 q.2 with
  | some (.retAddr (k + 1)) => Nat.blt k 62 && Nat.beq (pt_se k).1 q.1 && Nat.beq (pt_se k).2.1 q.2
  | _ => false
theorem pt_okS2_all : pt_keyS.all pt_okS2 = true := by decide +kernel
theorem pt_s_all {args : Array Value} {s : State} (hg : (Jvm.Cond.and given_1 narrow_1).before args s = true) {k : Nat} (hk : k < 62) : ∀ w ∈ pt_sneed k, w.before args s = true := by
  intro w hw
  have h1 := List.all_eq_true.mp pt_sord_ok.1 k (List.mem_range.mpr hk)
  have h2 : k ∈ pt_sord := by simpa using h1
  exact flat_of_before _ hg _ (pt_subl_mem _ _ pt_sneed_ok w (List.mem_flatMap.mpr ⟨k, h2, hw⟩))
theorem pt_s_one {args : Array Value} {s : State} (hg : (Jvm.Cond.and given_1 narrow_1).before args s = true) (k : Nat) : ∃ q : Nat, k < 62 → (pt_stm k).eval args s none [] s = some (.ref q) ∧ ∃ v, px_Sf q v (pt_se k).2.2.length (fun j => (pt_se k).2.2.getD j 0) s s.heap := by
  by_cases hk : k < 62
  · have hA : ∀ a : Nat, a < s.heap.size → ¬ px_N a := fun _ _ h => h
    have h := pt_s_all hg hk
    have hlen : (pt_se k).2.2.length < 2 ^ 31 := by
      have hk2 : k < pt_str.length := by rw [pt_sord_ok.2]; exact hk
      have hm : pt_se k ∈ pt_str := by
        unfold pt_se
        rw [List.getD_eq_getElem?_getD, List.getElem?_eq_getElem hk2]
        exact List.getElem_mem hk2
      have := Nat.le_of_ble_eq_true (pt_and (List.all_eq_true.mp pt_asc _ hm)).2
      omega
    obtain ⟨a, c, cA, kA, q1, q2, q3, q4, q5, q6, -⟩ := Cond.exactly_spec (args := args) (first := s) (o := none) (s := s) (idx := []) (t := pt_stm k) (cls := "java/lang/String") (h _ (by simp [pt_sneed]))
    obtain ⟨t, ht, hT⟩ := va_Tof (f := fun j => .int ((pt_se k).2.2.getD j 0)) (A := px_N) hlen (h (.arrayOf (pt_sva k) .byte) (by simp [pt_sneed])) (va_eqt (h (.eq (.length (pt_sva k)) (.int (Int32.ofNat (pt_se k).2.2.length))) (by simp [pt_sneed]))) (fun j hj => va_eqt (h (pt_sel k j) (by simp only [pt_sneed, List.mem_cons, List.mem_map, List.mem_range]; exact Or.inr (Or.inr (Or.inr (Or.inr ⟨j, hj, rfl⟩)))))) hA
    exact ⟨a, fun _ => ⟨q1, t, ⟨cA, q3, q5, by rw [q6]; exact q2, hA a (Array.getElem?_eq_some_iff.mp q3).1⟩, vk_OFof q1 (va_eqt (h (.eq (.field (pt_stm k) "java/lang/String" "coder" "B") (.int 0)) (by simp [pt_sneed]))) hA, vk_OFof q1 ht hA, hT⟩⟩
  · exact ⟨0, fun h => absurd h hk⟩
