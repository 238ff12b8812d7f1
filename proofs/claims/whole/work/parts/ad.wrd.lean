/-! the writer of the class: children -/
section WRD
variable {sc : Nat × (Nat → Int32)} {D D0 D' : tD} {K : tD → Int → Prop} {E : tD → Nat → Prop} {F fl c s : Int} {L : List Int}
def nmX (D : tD) (f : Int) : List Int := spn (D 1981) (24 * f) (D 1982 f).toNat
def unX (D : tD) (f : Int) : List Int := spn (D 1983) (8 * f) (D 1984 f).toNat
def hlX (D : tD) (f : Int) : List Int := spn (D 1985) (40 * f) (D 1986 f).toNat
def slX (D : tD) (f k : Int) : List Int := spn (D 1989) (12 * (4 * f + k)) (D 1990 (4 * f + k)).toNat
def lbX (D : tD) (x : Int) : List Int := spn (D 1997) (66 * x) (D 1998 x).toNat
def elX (D : tD) (q : Int) : List Int := spn (D 2006) (44 * q) (D 2007 q).toNat
def exX (D : tD) (fl q : Int) : List Int := exT fl (D 2003 q) (elX D q) (D 2004 q) (D 2005 q)
def leX (D : tD) (f b : Int) : List Int := wdl 17 ++ [61, 34] ++ (if b = D 1988 f then wdl 16 else numT (D 1987 (6 * f + b))) ++ [34]
def bkX (D : tD) (f x fl : Int) : Nat → Int → Int → List Int
  | 0, _, _ => []
  | q + 1, b, a => smT (nmX D f) (wdl 3) (lbX D x) (leX D f b) ++ numT (1000 * (a + D 2002 (7 * x + b))) ++ exX D fl (7 * x + b) ++ [10] ++ bkX D f x fl q (b + 1) (a + D 2002 (7 * x + b))
def stX (D : tD) (f k : Int) : List Int := nmX D f ++ [61, 34] ++ (slX D f k).flatMap (escT true) ++ [34]
def bitX (v k : Int) : Int := if tia v (tsl 1 k) = 0 then 48 else 49
def ssX (D : tD) (f x : Int) : Nat → Int → List Int
  | 0, _ => []
  | q + 1, k => smT (nmX D f) (wdl 0) (lbX D x) (stX D f k) ++ [bitX (D 2001 x) k, 10] ++ ssX D f x q (k + 1)
def lnX (D : tD) (f x w v : Int) : List Int := smT (nmX D f) (wdl w) (lbX D x) [] ++ numT v ++ [10]
def crX (D : tD) (f x fl : Int) : List Int := if fl = 1 ∧ 0 ≤ D 2000 x then lnX D f x 2 (D 2000 x) else []
def bdX (D : tD) (f x fl : Int) : List Int := if D 1980 f = 0 then smT (nmX D f) (wdl 1) (lbX D x) [] ++ numT (D 1999 x) ++ exX D fl (7 * x) ++ [10] else if D 1980 f = 1 then lnX D f x 0 (D 1999 x) else if D 1980 f = 2 then bkX D f x fl (D 1988 f + 1).toNat 0 0 ++ lnX D f x 4 (1000 * sm (fun b => D 2002 (7 * x + b)) 7) ++ lnX D f x 5 (D 1999 x) else if D 1980 f = 3 then lnX D f x 6 1000 else ssX D f x (D 1991 f).toNat 0
def ckX (D : tD) (f x fl : Int) : List Int := bdX D f x fl ++ crX D f x fl
theorem rs_row {r cap arr off n : Int} (h : rowm D r cap arr off n) (hl : cap = ln (r + 1) ∧ cap ≤ 20000) (hr : 5 ≤ r ∧ r + 1 < 1955) (hb : ∀ j, 0 ≤ j → j < n → -128 ≤ D (r + 1) j ∧ D (r + 1) j ≤ 127) : rs D r (spn (D arr) off n.toNat) := by
  refine ⟨rowm_rl h hb, ?_, hr, fun b hbm => ?_⟩
  · have h1 := h.1
    have h2 := h.2.2.1
    omega
  · obtain ⟨j, j1, j2, j3⟩ := spn_mem hbm
    have := h.2.2.2 (j - off) (by omega) (by omega)
    rw [show off + (j - off) = j from by omega] at this
    omega
theorem kd_ex_n : ((List.range 48).all fun k => (List.range 7).all fun b => Nat.beq (tkd (170 + 975 * (k / 24) + 34 * (k % 24) + 4 * b)) 2) = true := by decide +kernel
theorem kd_ex {s k b : Int} (hs : s = 0 ∨ s = 1) (hk : 0 ≤ k ∧ k < 24) (hb : 0 ≤ b ∧ b < 7) : tkd (aX s k b + 3).toNat = 2 := by
  have h := List.all_eq_true.mp (List.all_eq_true.mp kd_ex_n (24 * s.toNat + k.toNat) (List.mem_range.mpr (by omega))) b.toNat (List.mem_range.mpr (by omega))
  rw [show (aX s k b + 3).toNat = 170 + 975 * ((24 * s.toNat + k.toNat) / 24) + 34 * ((24 * s.toNat + k.toNat) % 24) + 4 * b.toNat from by unfold aX; omega]
  exact Nat.eq_of_beq_eq_true h
theorem kd_sts_n : ((List.range 18).all fun f => (List.range 4).all fun k => Nat.beq (tkd (17 + 975 * (f / 9) + 17 * (f % 9) + 2 * k)) 2) = true := by decide +kernel
theorem kd_sts {s f k : Int} (hs : s = 0 ∨ s = 1) (hf : 0 ≤ f ∧ f < 9) (hk : 0 ≤ k ∧ k < 4) : tkd (aF s f + 10 + 2 * k).toNat = 2 := by
  have h := List.all_eq_true.mp (List.all_eq_true.mp kd_sts_n (9 * s.toNat + f.toNat) (List.mem_range.mpr (by omega))) k.toNat (List.mem_range.mpr (by omega))
  rw [show (aF s f + 10 + 2 * k).toNat = 17 + 975 * ((9 * s.toNat + f.toNat) / 9) + 17 * ((9 * s.toNat + f.toNat) % 9) + 2 * k.toNat from by unfold aF; omega]
  exact Nat.eq_of_beq_eq_true h
/-- what the writer of the class knows of a family -/
theorem wf_of (hok : okD D) {f : Int} (hs : s = 0 ∨ s = 1) (hf : 0 ≤ f ∧ f < 8) (h : faR D s f) : wfam D (aF s f) (nmX D (8 * s + f)) (unX D (8 * s + f)) (hlX D (8 * s + f)) (D 1980 (8 * s + f)) := by
  obtain ⟨g0, ⟨g1, _⟩, g2, ⟨g3, _⟩, _⟩ := h
  obtain ⟨d1, d2, d3⟩ := kd_fam (f := f) hs (by omega)
  have eF : aF s f = 7 + 975 * s + 17 * f := rfl
  have n1 : aF s f + 1 + 1 = aF s f + 2 := by omega
  have n2 : aF s f + 3 + 1 = aF s f + 4 := by omega
  have n3 : aF s f + 5 + 1 = aF s f + 6 := by omega
  refine ⟨⟨by omega, g0.1, by omega, by omega⟩, rs_row g1 (by rw [n1, ln_nam hs (by omega)]; omega) (by omega) (fun j u v => ?_), rs_row g2 (by rw [n2, ln_uni hs (by omega)]; omega) (by omega) (fun j u v => ?_), rs_row g3 (by rw [n3, ln_hel hs (by omega)]; omega) (by omega) (fun j u v => ?_)⟩
  · rw [n1]; exact okD_byte hok (by omega) d1 ⟨u, by rw [ln_nam hs (by omega)]; have := g1.2.2.1; omega⟩
  · rw [n2]; exact okD_byte hok (by omega) d2 ⟨u, by rw [ln_uni hs (by omega)]; have := g2.2.2.1; omega⟩
  · rw [n3]; exact okD_byte hok (by omega) d3 ⟨u, by rw [ln_hel hs (by omega)]; have := g3.2.2.1; omega⟩
theorem wl_of (hok : okD D) {k : Int} (hs : s = 0 ∨ s = 1) (hk : 0 ≤ k ∧ k < 24) (h : chR c D s k) : rs D (aC s k + 2) (lbX D (24 * s + k)) ∧ (0 < D (aC s k + 1) 1 ↔ lbX D (24 * s + k) ≠ []) := by
  obtain ⟨_, ⟨g1, g2⟩, _⟩ := h
  have eC : aC s k = 161 + 975 * s + 34 * k := rfl
  have n1 : aC s k + 2 + 1 = aC s k + 3 := by omega
  have hb : ∀ j, 0 ≤ j → j < D 1998 (24 * s + k) → -128 ≤ D (aC s k + 3) j ∧ D (aC s k + 3) j ≤ 127 := fun j u v => okD_byte hok (by omega) (kd_lab hs hk) ⟨u, by rw [ln_lab hs hk]; have := g1.2.2.1; omega⟩
  refine ⟨rs_row g1 (by rw [n1, ln_lab hs hk]; omega) (by omega) (fun j u v => by rw [n1]; exact hb j u v), ?_⟩
  obtain ⟨S, s1, s2⟩ := lsW_lsIs (D := D) (a := aC s k + 1) (n := D (aC s k + 1) 1) (fun j u v => by
    rw [show aC s k + 1 + 1 = aC s k + 2 from by omega, g1.1] at v
    rw [show aC s k + 1 + 2 = aC s k + 3 from by omega]
    exact hb j u v) rfl (by rw [show aC s k + 1 + 1 = aC s k + 2 from by omega]; exact g2)
  obtain ⟨p1, p2, p3, p4⟩ := s1
  rw [show aC s k + 1 + 1 = aC s k + 2 from by omega, g1.1] at p2
  have ll : (lbX D (24 * s + k)).length = S.flatten.length := by
    unfold lbX
    rw [spn_len]
    omega
  have zz : S.flatten.length = 0 ↔ S = [] := by
    constructor
    · intro z
      cases S with
      | nil => rfl
      | cons x t =>
        have := lbl_len (p4 x (by simp))
        rw [List.flatten_cons, List.length_append] at z
        omega
    · intro z; rw [z]; rfl
  rw [p1]
  constructor
  · intro z e
    rw [e] at ll
    have := zz.mp (by simpa using ll.symm)
    rw [this] at z
    simp at z
  · intro z
    have : S ≠ [] := fun e => z (List.length_eq_zero_iff.mp (by rw [ll, e]; rfl))
    have := List.length_pos_iff.mpr this
    omega
theorem we_of (hok : okD D) {k b : Int} (hs : s = 0 ∨ s = 1) (hk : 0 ≤ k ∧ k < 24) (hb : 0 ≤ b ∧ b < 7) (h : exR D (aX s k b) (7 * (24 * s + k) + b)) : (D (aX s k b) 1 = D 2003 (7 * (24 * s + k) + b)) ∧ (D 2003 (7 * (24 * s + k) + b) = 1 → rs D (aX s k b + 2) (elX D (7 * (24 * s + k) + b)) ∧ D (aX s k b) 2 = D 2004 (7 * (24 * s + k) + b) ∧ D (aX s k b) 3 = D 2005 (7 * (24 * s + k) + b) ∧ (-1000000000000000000 ≤ D 2004 (7 * (24 * s + k) + b) ∧ D 2004 (7 * (24 * s + k) + b) ≤ 1000000000000000000) ∧ (-1000000000000000000 ≤ D 2005 (7 * (24 * s + k) + b) ∧ D 2005 (7 * (24 * s + k) + b) ≤ 1000000000000000000)) := by
  have mN : mostN = 999999999999999 := rfl
  obtain ⟨h1, h2, _⟩ := h
  have eX : aX s k b = 167 + 975 * s + 34 * k + 4 * b := rfl
  have n1 : aX s k b + 2 + 1 = aX s k b + 3 := by omega
  refine ⟨h1, fun z => ?_⟩
  obtain ⟨g1, g2, g3, g4⟩ := h2 (by rw [h1]; exact z)
  refine ⟨rs_row g3 (by rw [n1, ln_ex hs hk hb]; omega) (by omega) (fun j u v => by rw [n1]; exact okD_byte hok (by omega) (kd_ex hs hk hb) ⟨u, by rw [ln_ex hs hk hb]; have := g3.2.2.1; omega⟩), g1.1, g2.1, by omega, by omega⟩
theorem w_lin {kd part C v : Int} {nm un hl m : List Int} (hF : wfam D0 F nm un hl kd) (hp : 0 ≤ part ∧ part ≤ 6) (hm : rs D0 (C + 2) m) (hc : 0 < D0 (C + 1) 1 ↔ m ≠ []) (hC : 5 ≤ C + 1 ∧ C + 1 < 1955) (hv : -1000000000000000000 ≤ v ∧ v ≤ 1000000000000000000) (h : ws D0 F fl D L) (hK : ∀ D', ws D0 F fl D' (L ++ (smT nm (wdl part) m [] ++ numT v ++ [10])) → K D' 0) : WP sc 160 0 D [(0, (1210, 1955)), (1, (1201, C)), (2, (0, part)), (3, (1, v))] [] K E :=
  v160_0 (w_samp0 hF hp hm hc hC h (fun D1 h1 => w_num hv h1 (fun D2 h2 => w_push h2 (fun D3 h3 => hK D3 (by simpa [List.append_assoc] using h3)))))
/-- a child whose parts the writer has at hand -/
def wch (c : Int) (D0 : tD) (s f k : Int) : Prop := okD D0 ∧ (s = 0 ∨ s = 1) ∧ (0 ≤ f ∧ f < 8) ∧ (0 ≤ k ∧ k < 24) ∧ (0 ≤ c ∧ c ≤ 700) ∧ faR D0 s f ∧ chR c D0 s k ∧ D0 (aC s k) 4 = f
theorem w_total {f k : Int} (hw : wch c D0 s f k) (hfl : fl = 0 ∨ fl = 1) (h : ws D0 (aF s f) fl D L) (hK : ∀ D', ws D0 (aF s f) fl D' (L ++ (smT (nmX D0 (8 * s + f)) (wdl 1) (lbX D0 (24 * s + k)) [] ++ numT (D0 1999 (24 * s + k)) ++ exX D0 fl (7 * (24 * s + k)) ++ [10])) → K D' 0) : WP sc 157 0 D [(0, (1210, 1955)), (1, (1201, aC s k))] [] K E := by
  have mN : mostN = 999999999999999 := rfl
  obtain ⟨hok, hs, hf, hk, hc, hfa, hch, h4⟩ := hw
  have hF := wf_of hok hs hf hfa
  obtain ⟨l1, l2⟩ := wl_of hok hs hk hch
  have eC : aC s k = 161 + 975 * s + 34 * k := rfl
  have hn := hch.2.2.1
  obtain ⟨e1, e2⟩ := we_of hok hs hk (b := 0) (by omega) (hch.2.2.2.2.2.2 0 (by omega) (by omega))
  have eX : aX s k 0 = aC s k + 6 := by unfold aX aC; omega
  rw [show 7 * (24 * s + k) + 0 = 7 * (24 * s + k) from by omega] at e1 e2
  refine v157_0 (w_samp0 hF (by omega) l1 l2 (by omega) h (fun D1 h1 => ?_))
  rw [h1.1 _ 5 (by omega) (by omega) (by omega), hn.1]
  refine w_num (by omega) h1 (fun D2 h2 => v33_0 ?_)
  rw [if_neg (by omega), ln_exs hs hk, if_pos (by omega), if_neg (by omega), show aC s k + 5 + 1 + 4 * 0 = aX s k 0 from by omega]
  refine ⟨by omega, w_ex (has := D0 2003 (7 * (24 * s + k))) hfl (by omega) e1 e2 h2 (fun D3 h3 => w_push h3 (fun D4 h4 => hK D4 ?_))⟩
  unfold exX
  simpa [List.append_assoc] using h4
theorem leX_ne {f b : Int} : leX D f b ≠ [] := by unfold leX; simp
theorem w_bk1 {f k : Int} (hw : wch c D0 s f k) (hkd : D0 1980 (8 * s + f) = 2) (hfl : fl = 0 ∨ fl = 1) {M : List Int} (hK : ∀ D', ws D0 (aF s f) fl D' (M ++ bkX D0 (8 * s + f) (24 * s + k) fl (D0 1988 (8 * s + f) + 1).toNat 0 0) → K D' 0) : ∀ (q : Nat) (b a : Int) (P : List Int) (D : tD), D0 1988 (8 * s + f) + 1 - b = (q : Int) → 0 ≤ b → (0 ≤ a ∧ a ≤ 1000000001000 * b) → ws D0 (aF s f) fl D (M ++ P) → P ++ bkX D0 (8 * s + f) (24 * s + k) fl q b a = bkX D0 (8 * s + f) (24 * s + k) fl (D0 1988 (8 * s + f) + 1).toNat 0 0 → WP sc 158 5 D [(0, (1210, 1955)), (1, (1201, aC s k)), (2, (1, a)), (4, (0, b))] [] K E := by
  have mN : mostN = 999999999999999 := rfl
  obtain ⟨hok, hs, hf, hk, hc, hfa, hch, h4⟩ := hw
  have hF := wf_of hok hs hf hfa
  obtain ⟨l1, l2⟩ := wl_of hok hs hk hch
  have eC : aC s k = 161 + 975 * s + 34 * k := rfl
  have eF : aF s f = 7 + 975 * s + 17 * f := rfl
  have hb := hfa.2.2.2.2.1
  have hk5 := hfa.1
  intro q
  induction q with
  | zero =>
    intro b a P D hq hb0 ha h hP
    refine v158_5 ?_
    rw [h.2.1, if_neg (show ¬ aF s f = -1 from by omega)]
    refine c_bcnt (by rw [h.1 _ 6 (by omega) (by omega) (by omega)]; omega) ?_
    rw [h.1 _ 5 (by omega) (by omega) (by omega), h.1 _ 6 (by omega) (by omega) (by omega), if_pos (show D0 (aF s f) 5 = 2 from by omega), if_neg (by omega)]
    refine hK D ?_
    rw [← hP]
    simpa [bkX] using h
  | succ q ih =>
    intro b a P D hq hb0 ha h hP
    refine v158_5 ?_
    rw [h.2.1, if_neg (show ¬ aF s f = -1 from by omega)]
    refine c_bcnt (by rw [h.1 _ 6 (by omega) (by omega) (by omega)]; omega) ?_
    rw [h.1 _ 5 (by omega) (by omega) (by omega), h.1 _ 6 (by omega) (by omega) (by omega), if_pos (show D0 (aF s f) 5 = 2 from by omega), if_pos (by omega)]
    have hcn := hch.2.2.2.2.2.1 b hb0 (by omega)
    refine v34_0 ?_
    rw [if_neg (by omega), ln_cnt hs hk, if_pos (by omega), h.1 (aC s k + 4) b (by omega) (by omega) (by omega), hcn.1]
    rw [hcn.1] at hcn
    refine ⟨by omega, w_samp1 hF (by omega) l1 l2 (by omega) h (fun D1 h1 => w_text h1 (fun D2 h2 => ?_))⟩
    obtain ⟨e1, e2⟩ := we_of hok hs hk (b := b) (by omega) (hch.2.2.2.2.2.2 b hb0 (by omega))
    have eX : aX s k b = aC s k + 6 + 4 * b := by unfold aX aC; omega
    rw [w64_id (x := a + D0 2002 (7 * (24 * s + k) + b)) (by omega) (by omega), w64_id (x := (a + D0 2002 (7 * (24 * s + k) + b)) * 1000) (by omega) (by omega), show (a + D0 2002 (7 * (24 * s + k) + b)) * 1000 = 1000 * (a + D0 2002 (7 * (24 * s + k) + b)) from by omega, w32_id (x := b + 1) (by omega) (by omega), h2.2.1, if_neg (show ¬ aF s f = -1 from by omega), h2.1 _ 6 (by omega) (by omega) (by omega)]
    have tail : ∀ {D3 : tD} {B : List Int}, ws D0 (aF s f) fl D3 (M ++ P ++ nmX D0 (8 * s + f) ++ wdl 3 ++ 123 :: (labB (lbX D0 (24 * s + k)) ++ (if lbX D0 (24 * s + k) = [] then [] else [44])) ++ txl 51 ++ B) → leX D0 (8 * s + f) b = wdl 17 ++ [61, 34] ++ B ++ [34] → WP sc 92 0 D3 [(0, (1207, 3)), (1, (4, 53))] [] (fun D19 _ => WP sc 96 0 D19 [(0, (1207, 3)), (1, (1, 1000 * (a + D0 2002 (7 * (24 * s + k) + b))))] [] (fun D22 _ => WP sc 33 0 D22 [(0, (1201, aC s k)), (1, (0, b))] [] (fun D25 r26 => if r26 = -1 then (WP sc 163 0 D25 [(0, (1210, 1955)), (1, (2, 0))] [] (fun D28 _ => WP sc 91 0 D28 [(0, (1207, 3)), (1, (0, 10))] [] (fun D31 _ => WP sc 158 5 D31 [(0, (1210, 1955)), (1, (1201, aC s k)), (2, (1, a + D0 2002 (7 * (24 * s + k) + b))), (4, (0, b + 1))] [] K E) E) E) else (WP sc 163 0 D25 [(0, (1210, 1955)), (1, (1203, r26))] [] (fun D34 _ => WP sc 91 0 D34 [(0, (1207, 3)), (1, (0, 10))] [] (fun D37 _ => WP sc 158 5 D37 [(0, (1210, 1955)), (1, (1201, aC s k)), (2, (1, a + D0 2002 (7 * (24 * s + k) + b))), (4, (0, b + 1))] [] K E) E) E)) E) E) E := fun {D3 B} h3 hB => by
      refine w_text h3 (fun D4 h4 => w_num (by omega) h4 (fun D5 h5 => v33_0 ?_))
      rw [if_neg (by omega), ln_exs hs hk, if_pos (by omega), if_neg (by omega), show aC s k + 5 + 1 + 4 * b = aX s k b from by omega]
      refine ⟨by omega, w_ex (has := D0 2003 (7 * (24 * s + k) + b)) hfl (by omega) e1 e2 h5 (fun D6 h6 => w_push h6 (fun D7 h7 => ih (b + 1) _ (P ++ (smT (nmX D0 (8 * s + f)) (wdl 3) (lbX D0 (24 * s + k)) (leX D0 (8 * s + f) b) ++ numT (1000 * (a + D0 2002 (7 * (24 * s + k) + b))) ++ exX D0 fl (7 * (24 * s + k) + b) ++ [10])) D7 (by omega) (by omega) (by omega) ?_ ?_))⟩
      · rw [← smT_1 leX_ne, hB]
        rw [tx_n.2.2.2.2.1, tx_n.2.2.2.2.2.2.1] at h7
        unfold exX
        simpa [List.append_assoc] using h7
      · rw [← hP]
        show _ = P ++ (smT _ _ _ _ ++ numT _ ++ exX _ _ _ ++ [10] ++ bkX _ _ _ _ _ _ _)
        simp [List.append_assoc]
    by_cases e : b < D0 (aF s f) 6
    · rw [if_pos e, if_neg (show ¬ aF s f = -1 from by omega)]
      refine v74_0 ?_
      have hbb := hb.2.2.2.2.1 b hb0 e
      rw [if_neg (by omega), h2.1 _ 6 (by omega) (by omega) (by omega), if_pos e, if_pos (by omega), ln_bnd hs (by omega), h2.1 (aF s f + 7) b (by omega) (by omega) (by omega), hbb.1]
      rw [hbb.1] at hbb
      refine ⟨by omega, w_num (by omega) h2 (fun D3 h3 => tail h3 ?_)⟩
      unfold leX
      rw [if_neg (by omega)]
    · rw [if_neg e]
      refine w_text h2 (fun D3 h3 => tail h3 ?_)
      unfold leX
      rw [if_pos (by omega), tx_n.2.2.2.2.2.1]
theorem w_bk {f k : Int} (hw : wch c D0 s f k) (hkd : D0 1980 (8 * s + f) = 2) (hfl : fl = 0 ∨ fl = 1) (h : ws D0 (aF s f) fl D L) (hK : ∀ D', ws D0 (aF s f) fl D' (L ++ bkX D0 (8 * s + f) (24 * s + k) fl (D0 1988 (8 * s + f) + 1).toNat 0 0) → K D' 0) : WP sc 158 0 D [(0, (1210, 1955)), (1, (1201, aC s k))] [] K E := by
  have hb := hw.2.2.2.2.2.1.2.2.2.2.1
  exact v158_0 (w_bk1 hw hkd hfl hK (D0 1988 (8 * s + f) + 1).toNat 0 0 [] D (by omega) (by omega) (by omega) (by simpa using h) (by rw [List.nil_append]))
theorem stX_ne {f k : Int} : stX D f k ≠ [] := by unfold stX; simp
theorem w_st2 {f k x : Int} {m M : List Int} (hw : wch c D0 s f k) (hx : 0 ≤ x ∧ x < 4) (hm : rs D0 (aF s f + 9 + 2 * x) m) {R : tD → Prop} (hK : ∀ D', ws D0 (aF s f) fl D' (M ++ m.flatMap (escT true) ++ [34, 125, 32]) → R D') : ∀ (t p : List Int) (D : tD), m = p ++ t → ws D0 (aF s f) fl D (M ++ p.flatMap (escT true)) → (∀ D7 : tD, R D7 → if tia (D7 (aC s k) 7) (tsl 1 x) = 0 then (WP sc 91 0 D7 [(0, (1207, 3)), (1, (0, 48))] [] (fun D10 _ => WP sc 91 0 D10 [(0, (1207, 3)), (1, (0, 10))] [] (fun D13 _ => WP sc 159 2 D13 [(0, (1210, 1955)), (1, (1201, aC s k)), (2, (0, w32 (x + 1)))] [] K E) E) E) else (WP sc 91 0 D7 [(0, (1207, 3)), (1, (0, 49))] [] (fun D16 _ => WP sc 91 0 D16 [(0, (1207, 3)), (1, (0, 10))] [] (fun D19 _ => WP sc 159 2 D19 [(0, (1210, 1955)), (1, (1201, aC s k)), (2, (0, w32 (x + 1)))] [] K E) E) E)) → WP sc 159 47 D [(0, (1210, 1955)), (1, (1201, aC s k)), (2, (0, x)), (3, (0, (p.length : Int)))] [] K E := by
  obtain ⟨hok, hs, hf, hk, hc, hfa, hch, h4⟩ := hw
  have eF : aF s f = 7 + 975 * s + 17 * f := rfl
  have ml := hm.1.1
  have mz := hm.2.1.2
  intro t
  induction t with
  | nil =>
    intro p D hp h hR
    rw [List.append_nil] at hp
    subst hp
    refine v159_47 ?_
    rw [h.2.1, if_neg (show ¬ aF s f = -1 from by omega), ln_sts hs (by omega), show aF s f + 8 + 1 + 2 * x = aF s f + 9 + 2 * x from by omega, h.1 _ 1 (by omega) (by omega) (by omega), ml, if_neg (by omega)]
    refine ⟨by omega, w_text h (fun D1 h1 => hR D1 (hK D1 ?_))⟩
    rw [tx_n.2.2.2.2.2.2.1] at h1
    exact h1
  | cons b t ih =>
    intro p D hp h hR
    have ll : (m.length : Int) = (p.length : Int) + (t.length : Int) + 1 := by rw [hp, List.length_append, List.length_cons]; omega
    have hat := rs_at (D0 := D0) (q := aF s f + 9 + 2 * x) (p := p) (t := t) (b := b) (by rw [← hp]; exact hm)
    refine v159_47 ?_
    rw [h.2.1, if_neg (show ¬ aF s f = -1 from by omega), ln_sts hs (by omega), show aF s f + 8 + 1 + 2 * x = aF s f + 9 + 2 * x from by omega, h.1 _ 1 (by omega) (by omega) (by omega), ml, if_pos (by omega), if_neg (show ¬ aF s f = -1 from by omega)]
    refine ⟨by omega, by omega, w_at hm h ?_⟩
    rw [hat]
    refine w_esc (q := true) h (fun D1 h1 => ?_)
    rw [w32_id (by omega) (by omega)]
    have q := ih (p ++ [b]) D1 (by rw [hp]; simp) (by simpa [List.flatMap_append, List.append_assoc] using h1) hR
    rw [List.length_append, List.length_singleton] at q
    exact q
theorem w_st1 {f k : Int} (hw : wch c D0 s f k) {M : List Int} (hK : ∀ D', ws D0 (aF s f) fl D' (M ++ ssX D0 (8 * s + f) (24 * s + k) (D0 1991 (8 * s + f)).toNat 0) → K D' 0) : ∀ (q : Nat) (x : Int) (P : List Int) (D : tD), D0 1991 (8 * s + f) - x = (q : Int) → 0 ≤ x → ws D0 (aF s f) fl D (M ++ P) → P ++ ssX D0 (8 * s + f) (24 * s + k) q x = ssX D0 (8 * s + f) (24 * s + k) (D0 1991 (8 * s + f)).toNat 0 → WP sc 159 2 D [(0, (1210, 1955)), (1, (1201, aC s k)), (2, (0, x))] [] K E := by
  have hw0 := hw
  obtain ⟨hok, hs, hf, hk, hc, hfa, hch, h4⟩ := hw
  have hF := wf_of hok hs hf hfa
  obtain ⟨l1, l2⟩ := wl_of hok hs hk hch
  have eC : aC s k = 161 + 975 * s + 34 * k := rfl
  have eF : aF s f = 7 + 975 * s + 17 * f := rfl
  have h7 := hfa.2.2.2.2.2.1
  have hst := hch.2.2.2.2.1
  intro q
  induction q with
  | zero =>
    intro x P D hq hx h hP
    refine v159_2 ?_
    rw [h.2.1, if_neg (show ¬ aF s f = -1 from by omega), h.1 _ 7 (by omega) (by omega) (by omega), if_neg (by omega)]
    refine hK D ?_
    rw [← hP]
    simpa [ssX] using h
  | succ q ih =>
    intro x P D hq hx h hP
    obtain ⟨g1, _⟩ := h7.2.2.2.2 x hx (by omega)
    have n1 : aF s f + 9 + 2 * x + 1 = aF s f + 10 + 2 * x := by omega
    have hm : rs D0 (aF s f + 9 + 2 * x) (slX D0 (8 * s + f) x) := rs_row g1 (by rw [n1, ln_st hs (by omega) (by omega)]; omega) (by omega) (fun j u v => by rw [n1]; exact okD_byte hok (by omega) (kd_sts hs (by omega) (by omega)) ⟨u, by rw [ln_st hs (by omega) (by omega)]; have := g1.2.2.1; omega⟩)
    refine v159_2 ?_
    rw [h.2.1, if_neg (show ¬ aF s f = -1 from by omega), h.1 _ 7 (by omega) (by omega) (by omega), if_pos (by omega), if_pos (by omega)]
    refine w_samp1 hF (by omega) l1 l2 (by omega) h (fun D1 h1 => ?_)
    rw [h1.2.1, if_neg (show ¬ aF s f = -1 from by omega)]
    refine w_row hF.2.1 h1 (fun D2 h2 => w_text h2 (fun D3 h3 => ?_))
    rw [tx_n.2.2.2.2.2.2.2.1] at h3
    refine w_st2 hw0 (by omega) hm (R := fun D7 => ws D0 (aF s f) fl D7 (M ++ P ++ smT (nmX D0 (8 * s + f)) (wdl 0) (lbX D0 (24 * s + k)) (stX D0 (8 * s + f) x))) (fun D7 h7 => ?_) _ [] D3 rfl (by simpa using h3) (fun D7 h7 => ?_)
    · rw [← smT_1 stX_ne]
      unfold stX
      simpa [List.append_assoc] using h7
    · rw [h7.1 _ 7 (by omega) (by omega) (by omega), hst.1, w32_id (x := x + 1) (by omega) (by omega)]
      have go : ∀ {D8 : tD}, ws D0 (aF s f) fl D8 (M ++ P ++ smT (nmX D0 (8 * s + f)) (wdl 0) (lbX D0 (24 * s + k)) (stX D0 (8 * s + f) x) ++ [bitX (D0 2001 (24 * s + k)) x] ++ [10]) → WP sc 159 2 D8 [(0, (1210, 1955)), (1, (1201, aC s k)), (2, (0, x + 1))] [] K E := fun {D8} h8 => ih (x + 1) (P ++ (smT (nmX D0 (8 * s + f)) (wdl 0) (lbX D0 (24 * s + k)) (stX D0 (8 * s + f) x) ++ [bitX (D0 2001 (24 * s + k)) x, 10])) D8 (by omega) (by omega) (by simpa [List.append_assoc] using h8) (by
        rw [← hP]
        show _ = P ++ (smT _ _ _ _ ++ [bitX _ _, 10] ++ ssX _ _ _ _ _)
        simp [List.append_assoc])
      by_cases e : tia (D0 2001 (24 * s + k)) (tsl 1 x) = 0
      · rw [if_pos e]
        exact w_push h7 (fun D8 h8 => w_push h8 (fun D9 h9 => go (by unfold bitX; rw [if_pos e]; exact h9)))
      · rw [if_neg e]
        exact w_push h7 (fun D8 h8 => w_push h8 (fun D9 h9 => go (by unfold bitX; rw [if_neg e]; exact h9)))
theorem w_child {f k : Int} (hw : wch c D0 s f k) (hfl : fl = 0 ∨ fl = 1) (h : ws D0 (aF s f) fl D L) (hK : ∀ D', ws D0 (aF s f) fl D' (L ++ ckX D0 (8 * s + f) (24 * s + k) fl) → K D' 0) : WP sc 156 0 D [(0, (1210, 1955)), (1, (1201, aC s k))] [] K E := by
  have mN : mostN = 999999999999999 := rfl
  have hw0 := hw
  obtain ⟨hok, hs, hf, hk, hc, hfa, hch, h4⟩ := hw
  have hF := wf_of hok hs hf hfa
  obtain ⟨l1, l2⟩ := wl_of hok hs hk hch
  have eC : aC s k = 161 + 975 * s + 34 * k := rfl
  have eF : aF s f = 7 + 975 * s + 17 * f := rfl
  have hk5 := hfa.1
  have hn := hch.2.2.1
  have hcr := hch.2.2.2.1
  have fin : ∀ {D1 : tD}, ws D0 (aF s f) fl D1 (L ++ bdX D0 (8 * s + f) (24 * s + k) fl) → 0 ≤ D1 1955 2 ∧ D1 1955 2 ≤ 1 → (if D1 1955 2 = 0 then (K D1 0) else (if tlc (D1 (aC s k) 6) 0 < 0 then (K D1 0) else (WP sc 160 0 D1 [(0, (1210, 1955)), (1, (1201, aC s k)), (2, (0, 2)), (3, (1, D1 (aC s k) 6))] [] (fun D37 _ => K D37 0) E))) := fun {D1} h1 _ => by
    unfold ckX crX at hK
    rw [h1.2.2.1, h1.1 _ 6 (by omega) (by omega) (by omega), hcr.1]
    by_cases e : fl = 0
    · rw [if_pos e]
      rw [if_neg (fun w => by omega), List.append_nil] at hK
      exact hK D1 h1
    rw [if_neg e]
    by_cases e2 : D0 2000 (24 * s + k) < 0
    · rw [if_pos (tlc_lt.mpr e2)]
      rw [if_neg (fun w => by omega), List.append_nil] at hK
      exact hK D1 h1
    · rw [if_neg (fun w => e2 (tlc_lt.mp w))]
      rw [if_pos ⟨by omega, by omega⟩] at hK
      exact w_lin hF (by omega) l1 l2 (by omega) (by omega) h1 (fun D2 h2 => hK D2 (by unfold lnX; simpa [List.append_assoc] using h2))
  refine v156_0 ?_
  rw [h.2.1, if_neg (show ¬ aF s f = -1 from by omega), h.1 _ 5 (by omega) (by omega) (by omega), hk5.1]
  unfold bdX at fin
  by_cases k0 : D0 1980 (8 * s + f) = 0
  · rw [if_pos k0] at fin ⊢
    exact w_total hw0 hfl h (fun D1 h1 => fin h1)
  rw [if_neg k0] at fin ⊢
  by_cases k1 : D0 1980 (8 * s + f) = 1
  · rw [if_pos k1] at fin ⊢
    rw [h.1 _ 5 (by omega) (by omega) (by omega), hn.1]
    exact w_lin hF (by omega) l1 l2 (by omega) (by omega) h (fun D1 h1 => fin (by unfold lnX; exact h1))
  rw [if_neg k1] at fin ⊢
  by_cases k2 : D0 1980 (8 * s + f) = 2
  · rw [if_pos k2] at fin ⊢
    refine w_bk hw0 k2 hfl h (fun D1 h1 => ?_)
    have hcn : ∀ b, 0 ≤ b → b < 7 → D1 (aC s k + 4) b = D0 2002 (7 * (24 * s + k) + b) ∧ 0 ≤ D0 2002 (7 * (24 * s + k) + b) ∧ D0 2002 (7 * (24 * s + k) + b) ≤ 1000000001000 := fun b u v => by
      have q := hch.2.2.2.2.2.1 b u v
      rw [h1.1 _ b (by omega) (by omega) (by omega)]
      omega
    refine c_obs hs hk (fun b u v => by have := hcn b u v; omega) ?_
    have e1 : obs D1 s k = sm (fun b => D0 2002 (7 * (24 * s + k) + b)) 7 := sm_ext (fun b u v => (hcn b u (by omega)).1)
    have e2 := sm_bound (g := fun b => D0 2002 (7 * (24 * s + k) + b)) (a := 0) (b := 1000000001000) (n := 7) (fun b u v => by have := hcn b u (by omega); omega)
    rw [e1, w64_id (by omega) (by omega), show sm (fun b => D0 2002 (7 * (24 * s + k) + b)) 7 * 1000 = 1000 * sm (fun b => D0 2002 (7 * (24 * s + k) + b)) 7 from by omega]
    refine w_lin hF (by omega) l1 l2 (by omega) (by omega) h1 (fun D2 h2 => ?_)
    rw [h2.1 _ 5 (by omega) (by omega) (by omega), hn.1]
    exact w_lin hF (by omega) l1 l2 (by omega) (by omega) h2 (fun D3 h3 => fin (by unfold lnX; simpa [List.append_assoc] using h3))
  rw [if_neg k2] at fin ⊢
  by_cases k3 : D0 1980 (8 * s + f) = 3
  · rw [if_pos k3] at fin ⊢
    exact w_lin hF (by omega) l1 l2 (by omega) (by omega) h (fun D1 h1 => fin (by unfold lnX; exact h1))
  · rw [if_neg k3] at fin ⊢
    have h7 := hfa.2.2.2.2.2.1
    exact v159_0 (w_st1 hw0 (fun D1 h1 => fin h1) (D0 1991 (8 * s + f)).toNat 0 [] D (by omega) (by omega) (by simpa using h) (by rw [List.nil_append]))
/-- the text of a family's children, of all families -/
def csX (D : tD) (s f fl : Int) (l : List Int) : List Int := l.flatMap (fun k => ckX D (8 * s + f) (24 * s + k) fl)
def faX (D : tD) (s f fl : Int) : List Int := fhT (nmX D (8 * s + f)) (unX D (8 * s + f)) (hlX D (8 * s + f)) (D 1980 (8 * s + f)) fl ++ csX D s f fl (chl D s f 0)
def fsX (D : tD) (s fl : Int) : Nat → Int → List Int
  | 0, _ => []
  | q + 1, f => faX D s f fl ++ fsX D s fl q (f + 1)
def shX (D : tD) (s fl : Int) : List Int := fsX D s fl (D (5 + 975 * s) 4).toNat 0 ++ (if fl = 1 then 35 :: 32 :: (wdl 15 ++ [10]) else [])
theorem w_chs1 {f : Int} (hok : okD D0) (hs : s = 0 ∨ s = 1) (hc : 0 ≤ c ∧ c ≤ 700) (hsh : shR c D0 s) (hf : 0 ≤ f ∧ f < D0 (5 + 975 * s) 4) (hfl : fl = 0 ∨ fl = 1) {M : List Int} (hK : ∀ D', ws D0 (aF s f) fl D' (M ++ csX D0 s f fl (chl D0 s f 0)) → WP sc 151 14 D' [(0, (1210, 1955)), (1, (1208, 5 + 975 * s)), (3, (0, f + 1))] [] K E) : ∀ (m : Nat) (p : Int) (P : List Int) (D : tD), oN D0 s - p = (m : Int) → 0 ≤ p → ws D0 (aF s f) fl D (M ++ P) → P ++ csX D0 s f fl (chl D0 s f p) = csX D0 s f fl (chl D0 s f 0) → WP sc 151 39 D [(0, (1210, 1955)), (1, (1208, 5 + 975 * s)), (3, (0, f)), (4, (0, p))] [] K E := by
  have h8 := hsh.1
  have ho := hsh.2.2.2
  have h24 : oN D0 s ≤ 24 := ho.1.2.1
  have eF : aF s f = 7 + 975 * s + 17 * f := rfl
  intro m
  induction m with
  | zero =>
    intro p P D hm hp h hP
    refine v151_39 ?_
    rw [h.1 (5 + 975 * s) 5 (by omega) (by omega) (by omega), if_neg (by show ¬ p < oN D0 s; omega), w32_id (by omega) (by omega)]
    refine hK D ?_
    rw [← hP, chl_end (by omega)]
    simpa [csX] using h
  | succ m ih =>
    intro p P D hm hp h hP
    refine v151_39 ?_
    have fr : ∀ a j, 5 ≤ a → a < 1955 → D a j = D0 a j := fun a j u v => h.1 a j (by omega) (by omega) (by omega)
    have ho2 : orR D s := orR_fr2 hs (fr _ _ (by omega) (by omega)) (fun j => fr _ _ (by omega) (by omega)) (fun k u v => fr _ _ (by unfold aC; omega) (by unfold aC; omega)) (fun j u v => h.1 _ _ (by omega) (by omega) (by omega)) (h.1 _ _ (by omega) (by omega) (by omega)) ho
    have eN : oN D s = oN D0 s := fr _ _ (by omega) (by omega)
    have eO : oC D s p = oC D0 s p := fr _ _ (by omega) (by omega)
    rw [if_pos (by show p < oN D s; omega), w32_id (x := p + 1) (by omega) (by omega)]
    refine c_inOrd hs ho2 hp (fun u => ?_) (fun u => absurd (by omega) u)
    rw [eO]
    have q3 := or_in ho (p := p) (by omega)
    have eC : aC s (oC D0 s p) = 161 + 975 * s + 34 * oC D0 s p := rfl
    rw [if_neg (by omega), fr _ 4 (by omega) (by omega)]
    have hch := (hsh.2.2.1 _ q3.1 q3.2.1).2.2 q3.2.2
    by_cases e : D0 (aC s (oC D0 s p)) 4 = f
    · rw [if_pos e]
      rw [chl_yes (by omega) e] at hP
      refine w_child ⟨hok, hs, by omega, ⟨q3.1, q3.2.1⟩, hc, hsh.2.1 f hf.1 hf.2, hch, e⟩ hfl h (fun D1 h1 => ih (p + 1) (P ++ ckX D0 (8 * s + f) (24 * s + oC D0 s p) fl) D1 (by omega) (by omega) (by simpa [List.append_assoc] using h1) ?_)
      rw [← hP]
      unfold csX
      simp [List.append_assoc]
    · rw [if_neg e]
      rw [chl_no (by omega) e] at hP
      exact ih (p + 1) P D (by omega) (by omega) h hP
theorem w_fams {D1 : tD} (hok : okD D0) (hs : s = 0 ∨ s = 1) (hc : 0 ≤ c ∧ c ≤ 700) (hsh : shR c D0 s) (hfl : fl = 0 ∨ fl = 1) (hK : ∀ D' F', ws D0 F' fl D' (shX D0 s fl) → ((shX D0 s fl).length ≤ 12000 → K D' ((shX D0 s fl).length : Int)) ∧ (12000 < (shX D0 s fl).length → K (rclear D' 3) 0)) : ∀ (q : Nat) (f : Int) (P : List Int) (D : tD) (F' : Int), D0 (5 + 975 * s) 4 - f = (q : Int) → 0 ≤ f → ws D0 F' fl D P → P ++ fsX D0 s fl q f = fsX D0 s fl (D0 (5 + 975 * s) 4).toNat 0 → WP sc 151 14 D [(0, (1210, 1955)), (1, (1208, 5 + 975 * s)), (3, (0, f))] [] K E := by
  have h8 := hsh.1
  have fin : ∀ (D : tD) (F' : Int), ws D0 F' fl D (shX D0 s fl) → 0 ≤ D 3 2 ∧ D 3 2 ≤ 1 → (if D 3 2 = 0 then (K D (D 3 1)) else (WP sc 89 0 D [(0, (1207, 3))] [] (fun D10 _ => K D10 (D10 3 1)) E)) := fun D F' h _ => by
    obtain ⟨g1, g2⟩ := hK D F' h
    obtain ⟨_, w⟩ := h.2.2.2
    rw [l4] at w
    rcases w with ⟨w1, w2, w3, w4⟩ | ⟨w1, w2⟩
    · rw [if_pos w2, w3]
      exact g1 (by omega)
    · rw [if_neg (by omega)]
      refine c_clear ?_
      rw [show (rclear D 3) 3 1 = 0 from by unfold rclear; rw [wr_ni (by omega), wr_self]]
      exact g2 (by omega)
  intro q
  induction q with
  | zero =>
    intro f P D F' hq hf h hP
    refine v151_14 ?_
    rw [h.1 (5 + 975 * s) 4 (by omega) (by omega) (by omega), if_neg (by omega), h.2.2.1]
    refine fun _ => ?_
    rw [show fsX D0 s fl 0 f = [] from rfl, List.append_nil] at hP
    by_cases e : fl = 0
    · rw [if_pos e]
      refine fin D F' ?_
      unfold shX
      rw [if_neg (by omega), List.append_nil, ← hP]
      exact h
    · rw [if_neg e]
      refine w_text h (fun D2 h2 => fin D2 F' ?_)
      unfold shX
      rw [if_pos (by omega), ← hP, ← tx_n.1]
      exact h2
  | succ q ih =>
    intro f P D F' hq hf h hP
    refine v151_14 ?_
    have eF : aF s f = 7 + 975 * s + 17 * f := rfl
    rw [h.1 (5 + 975 * s) 4 (by omega) (by omega) (by omega), if_pos (by omega), ln_fams hs, show 5 + 975 * s + 1 + 1 + 17 * f = aF s f from by omega]
    have h2 : ws D0 (aF s f) fl (wr D 1955 1 (aF s f)) P := ⟨fun a j u v w => by rw [wr_ne w]; exact h.1 a j u v w, wr_self, by rw [wr_ni (by omega)]; exact h.2.2.1, wo_fr (fun j => wr_ne (by omega)) (fun j => wr_ne (by omega)) h.2.2.2⟩
    refine ⟨by omega, w_fhead hfl (wf_of hok hs (by omega) (hsh.2.1 f hf (by omega))) h2 (fun D3 h3 => w_chs1 hok hs hc hsh ⟨hf, by omega⟩ hfl (fun D4 h4 => ih (f + 1) _ D4 (aF s f) (by omega) (by omega) h4 ?_) (oN D0 s).toNat 0 [] D3 (by have : 0 ≤ oN D0 s := hsh.2.2.2.1.1; omega) (by omega) (by simpa using h3) (by rw [List.nil_append]))⟩
    rw [← hP]
    show _ = P ++ (faX D0 s f fl ++ fsX D0 s fl q (f + 1))
    unfold faX
    simp [List.append_assoc]
theorem c_write {x y : Int} (hok : okD D) (h600 : 0 ≤ c ∧ c ≤ 700) (h0 : shR c D 0) (h1 : shR c D 1) (hg : 0 ≤ D (-1) 0 ∧ D (-1) 0 < 599000) (hB : ¬ ((x = 0 ∨ x = 1) ∧ (y = 0 ∨ y = 1)) → E (bump D) 90) (hT : ∀ D', (x = 0 ∨ x = 1) → (y = 0 ∨ y = 1) → (∀ a j, a ≠ 3 → a ≠ 4 → a ≠ 1955 → D' a j = D a j) → (shX D x (1 - y)).length ≤ 12000 → D' 3 1 = ((shX D x (1 - y)).length : Int) → atL D' 4 0 ((shX D x (1 - y)).map w8) → K D' ((shX D x (1 - y)).length : Int)) (hO : ∀ D', (x = 0 ∨ x = 1) → (y = 0 ∨ y = 1) → (∀ a j, a ≠ 3 → a ≠ 4 → a ≠ 1955 → D' a j = D a j) → 12000 < (shX D x (1 - y)).length → D' 3 1 = 0 → K D' 0) : WP sc 17 0 D [(0, (1200, 0)), (1, (0, x)), (2, (0, y))] [] K E := by
  refine v17_0 ?_
  by_cases ex : x = 0 ∨ x = 1
  · refine sheetEq ex ?_
    rw [if_neg (by omega)]
    by_cases e1 : y < 0
    · rw [if_pos e1]; exact ⟨hg.2, hB (by omega)⟩
    rw [if_neg e1]
    by_cases e2 : 1 < y
    · rw [if_pos e2]; exact ⟨hg.2, hB (by omega)⟩
    rw [if_neg e2]
    have hsh : shR c D x := by rcases ex with e | e <;> rw [e] <;> assumption
    have go : ∀ fl, fl = 1 - y → (fl = 0 ∨ fl = 1) → WP sc 151 0 D [(0, (1210, 1955)), (1, (1208, 5 + 975 * x)), (2, (0, fl))] [] K E := fun fl efl hfl => by
      refine v151_0 (tbl_of hfl (c_clear ?_))
      have hw : ws D (D 1955 1) fl (rclear (wr D 1955 2 fl) 3) [] := ⟨fun a j u v w => by unfold rclear; rw [wr_ne u, wr_ne u, wr_ne w], by unfold rclear; rw [wr_ne (by omega), wr_ne (by omega), wr_ni (by omega)], by unfold rclear; rw [wr_ne (by omega), wr_ne (by omega), wr_self], wo_clear (by rw [l4]; omega)⟩
      have h8 := hsh.1
      refine w_fams (D1 := D) hok ex h600 hsh hfl (fun D' F' h' => ⟨fun hl => ?_, fun hl => ?_⟩) (D (5 + 975 * x) 4).toNat 0 [] _ (D 1955 1) (by omega) (by omega) hw (by rw [List.nil_append])
      · obtain ⟨a1, a2, a3, a4⟩ := h'
        rw [efl] at a4 hl ⊢
        rcases a4.2 with ⟨w1, w2, w3, w4⟩ | ⟨w1, w2⟩
        · exact hT D' ex (by omega) a1 hl w3 w4
        · rw [l4] at w1; omega
      · obtain ⟨a1, a2, a3, a4⟩ := h'
        rw [efl] at hl
        exact hO _ ex (by omega) (fun a j u v w => by unfold rclear; rw [wr_ne u, wr_ne u]; exact a1 a j u v w) hl (by unfold rclear; rw [wr_ni (by omega), wr_self])
    by_cases e3 : y = 0
    · rw [if_pos e3]; exact go 1 (by omega) (by omega)
    · rw [if_neg e3]; exact go 0 (by omega) (by omega)
  · refine sheetNe ex ?_
    rw [if_pos rfl]
    exact ⟨hg.2, hB (fun w => ex w.1)⟩
end WRD
