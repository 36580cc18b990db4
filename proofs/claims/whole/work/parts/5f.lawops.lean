/-! CALLS that ask laws: of, hears, year -/
/-- what is held beside the row: texts, names, that it is written -/
def LR (h : DT) (t : Nat) (TT : Nat → TXT) : Prop := (∀ j, j < t → TxR h j (TT j)) ∧ NmA h 41 ∧ NmA h 78 ∧ gF h 72 23 = 1
def rulP (a : Int32) : Option Nat := if a = -1 then none else some (txc a.toNatClampNeg)
def rulL (a : Int32) (TT : Nat → TXT) : Option Cd := if a = -1 then none else (TT a.toNatClampNeg).2.1
def rulH (a : Int32) (TT : Nat → TXT) : Option Cd := if a = -1 then none else (TT a.toNatClampNeg).2.2
theorem rul_S {h : DT} {t : Nat} {TT : Nat → TXT} {A : Nat → Int32} (H : TxtOk A t) (HT : ∀ j, j < t → TxR h j (TT j)) : TxS h (rulP (A 2)) (rulL (A 2) TT) := by
  obtain ⟨-, ht, hr⟩ := H
  unfold rulP rulL
  by_cases h1 : A 2 = -1
  · rw [if_pos h1, if_pos h1]; exact Or.inl ⟨rfl, rfl⟩
  · rcases hr with q | ⟨r, hr, e⟩
    · exact absurd q h1
    · rw [if_neg h1, if_neg h1, e, clI (by omega)]
      exact Or.inr ⟨r, TT r, by omega, rfl, HT r hr, rfl⟩
theorem rul_K {h : DT} {t : Nat} {TT : Nat → TXT} {A : Nat → Int32} (H : TxtOk A t) (HT : ∀ j, j < t → TxR h j (TT j)) : KxS h (A 2) (rulL (A 2) TT) := by
  obtain ⟨-, ht, hr⟩ := H
  unfold rulL
  by_cases h1 : A 2 = -1
  · rw [if_pos h1]; exact Or.inl ⟨h1, rfl⟩
  · rcases hr with q | ⟨r, hr, e⟩
    · exact absurd q h1
    · rw [if_neg h1, e, clI (by omega)]
      exact Or.inr ⟨r, TT r, by omega, rfl, HT r hr, rfl⟩
theorem Inv.t {A : Nat → Int32} {n t k : Nat} (H : Inv A n t k) : TxtOk A t := H.2.1
theorem XA.pa {h h1 : DT} {A : Nat → Int32} {n t k x y : Nat} {o : Option Cd} (HI : Inv A n t k) (H : XA h A k) (s : smX (isPs 1) h h1) (hq : XQ true h1 1 (pasF o n true A x y)) : XA h1 (pasF o n true A x y) k := by
  have hk := HI.2.2.1.2.1
  refine ⟨hq.row, (H.2.1.cg fun c _ _ => ⟨smF s (by unfold isPs; omega), smA s (by unfold isPs; omega)⟩).cA (pasF_o HI.rv (by omega) (by omega)) (fun i _ _ => pasF_o HI.rv (by omega) (by omega)), (H.2.2.cg fun c _ _ => ⟨smF s (by unfold isPs; omega), smA s (by unfold isPs; omega)⟩).cA fun i hi => pasF_o HI.rv (by omega) (by omega)⟩
theorem ps_xl {h h1 : DT} (s : smX (isPs 1) h h1) : smX isXl h h1 := s.mo fun c hc => by unfold isPs at hc; unfold isXl isXa; omega
theorem xl_T {h h1 : DT} (s : smX isXl h h1) : smT h h1 := smT_of s (by unfold isXl isXa; omega) (fun c _ _ => by unfold isXl isXa; omega)
theorem smX.xl {h h1 : DT} (s : smX isXa h h1) : smX isXl h h1 := s.mo fun c hc => Or.inl hc
theorem xa_N {h h1 : DT} (s : smX isXa h h1) (hN : NmA h 41) : NmA h1 41 := fun k hk => by rw [smA s (by unfold isXa; omega)]; exact hN k hk
theorem sl73 {h h1 : DT} (H : smX isXl h h1) : gA h1 73 = gA h 73 := smA H (by unfold isXl isXa; omega)
theorem sl78 {h h1 : DT} (H : smX isXl h h1) (hN : NmA h 78) : NmA h1 78 := fun k hk => by rw [smA H (by unfold isXl isXa; omega)]; exact hN k hk
theorem sl72 {h h1 : DT} (H : smX isXl h h1) : gF h1 72 = gF h 72 := smF H (by unfold isXl isXa; omega)
section LP
variable (X : XS) (d : Nat) (tx tu gu : Option Nat) (tl : List SC)
theorem x_ruling (h : DT) {A : Nat → Int32} {t : Nat} (H : TxtOk A t) (HT : XTold h 9 A) : cal X (d + 3) 151 [vP (some 0)] (SK tx tu gu tl, h) = some (some (vP (rulP (A 2))), (SK tx tu gu tl, h)) := by
  obtain ⟨e1, ht, hr⟩ := H
  have x0 : gF h 9 0 = nI t := HT.1.trans e1
  rw [c_X10_ruling, e_X10_ruling_0, x_isText X tx tu gu tl h d, x0, HT.2.1, bI_s, e_X10_ruling_11]
  unfold rulP
  by_cases h1 : A 2 = -1
  · rw [if_pos h1, h1, per_f (by omega) (Or.inl (by decide)), bz_f, if_pos rfl]
  · rcases hr with q | ⟨r, hr, e⟩
    · exact absurd q h1
    · rw [if_neg h1, e, per_t (by omega) hr, bz_t, if_neg one0, HT.2.1, e, inbI (by omega) (by omega), clI (by omega)]
      obtain rfl | rfl | rfl | rfl : r = 0 ∨ r = 1 ∨ r = 2 ∨ r = 3 := by omega
      all_goals rfl
theorem op_of {n t k : Nat} {TT : Nat → TXT} (h : DT) (H : RA h (gA h 73) n t k) (HL : LR h t TT) (x1 x2 : Int32) : OpA X tx tu gu tl h n t k 113 [vP (some 0), vI x1, vI x2] 247 [vP (some 72), vI x1, vI x2] := by
  obtain ⟨a0, hn, x0⟩ := H.p
  obtain ⟨hI, hX⟩ := id H
  obtain ⟨hT, hN1, hN2, -⟩ := HL
  rcases per_cs x1 (n := n) (by omega) with ⟨j, hj, rfl⟩ | hx
  · by_cases h0 : x2 = 0
    · refine OpA_id (v := vI (gA h 73 (12 + j))) H ?_ ?_
      · rw [c_X10_of, e_X10_of_0, x_has_t X _ tx tu gu tl h (Or.inl rfl) x0 hn hj, bI_s, e_X10_of_8, if_neg one0, if_pos h0, inbI (by omega) (by omega), H.sl (by omega)]
      · rw [c_X11_of, e_X11_of_0, k_per_t X _ tx tu gu tl h a0 hn hj, bI_s, e_X11_of_5, if_neg one0, if_pos h0, litI 12, addI, inbI (by omega) (by omega)]
    by_cases h1 : x2 = 1
    · refine OpA_id (v := vI (gA h 73 (22 + j))) H ?_ ?_
      · rw [c_X10_of, e_X10_of_0, x_has_t X _ tx tu gu tl h (Or.inl rfl) x0 hn hj, bI_s, e_X10_of_8, if_neg one0, if_neg h0, if_pos h1, inbI (by omega) (by omega), H.we (by omega)]
      · rw [c_X11_of, e_X11_of_0, k_per_t X _ tx tu gu tl h a0 hn hj, bI_s, e_X11_of_5, if_neg one0, if_neg h0, if_pos h1, litI 22, addI, inbI (by omega) (by omega)]
    by_cases h2 : x2 = 2
    · obtain ⟨s1, s2, s3⟩ := hI.rv.seat hj
      refine OpA_id (v := vI (nI (seatF (gA h 73) j))) H ?_ ?_
      · rw [c_X10_of, e_X10_of_0, x_has_t X _ tx tu gu tl h (Or.inl rfl) x0 hn hj, bI_s, e_X10_of_8, if_neg one0, if_neg h0, if_neg h1, if_pos h2, x_seatOf X _ tx tu gu tl h (Or.inl rfl) x0 hn ((H.si (by omega)).trans s2) s1 (fun i hi => by rw [show gA h (1 + 4) i = gA h 73 (17 + i) from H.si (by omega)]; exact s3 i hi), bI_s]
      · rw [c_X11_of, e_X11_of_0, k_per_t X _ tx tu gu tl h a0 hn hj, bI_s, e_X11_of_5, if_neg one0, if_neg h0, if_neg h1, if_pos h2, k_seatOf X _ tx tu gu tl h s2 (by omega) s3, bI_s]
    by_cases h3 : x2 = 3
    · have hS := rul_S hI.t hT
      obtain ⟨g, l1, l2, l3⟩ := x_lean X 95 tx tu gu tl (Or.inl rfl) hI.rv hX.1.r0 hj hS hN1
      have xl : smX isXl h g := l2.mo fun c hc => by unfold isXl isXa; omega
      have hK := (rul_K hI.t hT).cg (xl_T xl)
      rw [← sl73 xl] at hK
      obtain ⟨g', r1, r2, r3⟩ := k_leansOf X 92 tx tu gu tl g (p := j) (by rw [sl73 xl]; exact hI.rv) hj (sl78 xl hN2) hK
      rw [sl73 xl] at r1
      refine ⟨vI (zI (lnV (rulL (gA h 73 2) TT) (gA h 73) n j)), g, g', n, k, ?_, ?_, xl, (KS_of r2).ms, ?_, fun _ => l3, fun _ => r3⟩
      · rw [c_X10_of, e_X10_of_0, x_has_t X _ tx tu gu tl h (Or.inl rfl) x0 hn hj, bI_s, e_X10_of_8, if_neg one0, if_neg h0, if_neg h1, if_neg h2, if_pos h3, x_ruling X 96 tx tu gu tl h hI.t hX.2.2, bP_s]
        rcases hS.tp with q | ⟨t', ht', q⟩
        · rw [q] at l1 ⊢
          rw [e_X10_of_86, l1, bI_s]
        · rw [q] at l1 ⊢
          rw [e_X10_of_86_2 (ht := ht'), l1, bI_s]
      · rw [c_X11_of, e_X11_of_0, k_per_t X _ tx tu gu tl g (by rw [sl73 xl]; exact a0) hn hj, bI_s, e_X11_of_5, if_neg one0, if_neg h0, if_neg h1, if_neg h2, if_pos h3, sl73 xl, r1, bI_s]
      · have e73 : gA g' 73 = gA h 73 := (smA r2 (by omega)).trans (sl73 xl)
        rw [e73]
        exact ⟨hI, hX.1.cg (fun c _ _ => ⟨smF l2 (by omega), smA l2 (by omega)⟩), hX.2.1.cg (fun c _ _ => ⟨smF l2 (by omega), smA l2 (by omega)⟩), hX.2.2.cg (fun c _ _ => ⟨smF l2 (by omega), smA l2 (by omega)⟩)⟩
    · refine OpA_id (v := vI (-100)) H ?_ ?_
      · rw [c_X10_of, e_X10_of_0, x_has_t X _ tx tu gu tl h (Or.inl rfl) x0 hn hj, bI_s, e_X10_of_8, if_neg one0, if_neg h0, if_neg h1, if_neg h2, if_neg h3]
      · rw [c_X11_of, e_X11_of_0, k_per_t X _ tx tu gu tl h a0 hn hj, bI_s, e_X11_of_5, if_neg one0, if_neg h0, if_neg h1, if_neg h2, if_neg h3]
  · refine OpA_id (v := vI (-100)) H ?_ ?_
    · rw [c_X10_of, e_X10_of_0, x_has_f X _ tx tu gu tl h (Or.inl rfl) x0 hx, bI_s, e_X10_of_8, if_pos rfl]
    · rw [c_X11_of, e_X11_of_0, k_per_f X _ tx tu gu tl h a0 hn hx, bI_s, e_X11_of_5, if_pos rfl]
/-- what somebody hears by the text that rules, in the class -/
theorem x_hear {n t k p q w : Nat} {TT : Nat → TXT} {A : Nat → Int32} (h : DT) (HI : Inv A n t k) (HX : XRow h 1 A) (HT : ∀ j, j < t → TxR h j (TT j)) (hN : NmA h 41) (hp : p < n) (hq : q < n) (hw : w < 100) : ∃ h1, cal X (d + 4) 8 [vP (some 40), vP (some 1), vI (nI p), vI (nI q), vI (nI w), vP (rulP (A 2))] (SK tx tu gu tl, h) = some (some (vI (zI (hrV (rulH (A 2) TT) A n p q w))), (SK tx tu gu tl, h1)) ∧ smX (fun c => c = 40 ∨ c = 41 ∨ c = 42) h h1 ∧ NmA h1 41 := by
  obtain ⟨-, ht, hr⟩ := HI.t
  unfold rulP rulH
  by_cases h1 : A 2 = -1
  · rw [if_pos h1, if_pos h1]
    exact ⟨h, x_hearing_n X (d + 3) tx tu gu tl HI.rv HX.r0 hp hq, smX.rf _ h, hN⟩
  · rcases hr with q | ⟨r, hr, e⟩
    · exact absurd q h1
    · rw [if_neg h1, if_neg h1, e, clI (by omega)]
      exact x_hearing X d tx tu gu tl HI.rv HX.r0 hp hq hw (by omega) (HT r hr).2.2.2.2.2 hN
theorem k_hear {n t k p q w : Nat} {TT : Nat → TXT} (h : DT) (HI : Inv (gA h 73) n t k) (HT : ∀ j, j < t → TxR h j (TT j)) (hN : NmA h 78) (hp : p < n) (hq : q < n) (hw : w < 100) : ∃ h', cal X (d + 7) 227 [vP (some 72), vI (nI p), vI (nI q), vI (nI w)] (SK tx tu gu tl, h) = some (some (vI (zI (hrV (rulH (gA h 73 2) TT) (gA h 73) n p q w))), (SK tx tu gu tl, h')) ∧ smX (fun c => c = 78 ∨ c = 79 ∨ c = 80) h h' ∧ NmA h' 78 := by
  refine k_hearsOf X d tx tu gu tl h HI.rv hp hq hw hN ?_
  obtain ⟨-, ht, hr⟩ := HI.t
  unfold rulH
  by_cases h1 : gA h 73 2 = -1
  · rw [if_pos h1]; exact Or.inl ⟨h1, rfl⟩
  · rcases hr with q | ⟨r, hr, e⟩
    · exact absurd q h1
    · rw [if_neg h1, e, clI (by omega)]
      exact Or.inr ⟨r, TT r, by omega, rfl, HT r hr, rfl⟩
theorem op_hears {n t k : Nat} {TT : Nat → TXT} (h : DT) (H : RA h (gA h 73) n t k) (HL : LR h t TT) (x1 x2 x3 : Int32) : OpA X tx tu gu tl h n t k 115 [vP (some 0), vI x1, vI x2, vI x3] 249 [vP (some 72), vI x1, vI x2, vI x3] := by
  obtain ⟨a0, hn, x0⟩ := H.p
  obtain ⟨hI, hX⟩ := id H
  obtain ⟨hT, hN1, hN2, -⟩ := HL
  rcases per_cs x1 (n := n) (by omega) with ⟨p, hp, rfl⟩ | hx
  · rcases per_cs x2 (n := n) (by omega) with ⟨q, hq, rfl⟩ | hx
    · by_cases hv : 0 ≤ x3 ∧ x3 ≤ 99
      · have hd := in_dec hv
        obtain ⟨w, hw, rfl⟩ := in_nI (m := 99) hv.1 hv.2 (by omega)
        obtain ⟨g, l1, l2, l3⟩ := x_hear X 95 tx tu gu tl h hI hX.1 hT hN1 hp hq (w := w) (by omega)
        have xl : smX isXl h g := l2.mo fun c hc => by unfold isXl isXa; omega
        obtain ⟨g', r1, r2, r3⟩ := k_hear X 92 tx tu gu tl g (n := n) (t := t) (k := k) (TT := TT) (p := p) (q := q) (w := w) (by rw [sl73 xl]; exact hI) (fun j hj => (hT j hj).cg (by have := hI.t.2.1; omega) (xl_T xl)) (sl78 xl hN2) hp hq (by omega)
        rw [sl73 xl] at r1
        refine ⟨vI (zI (hrV (rulH (gA h 73 2) TT) (gA h 73) n p q w)), g, g', n, k, ?_, ?_, xl, (KS_of r2).ms, ?_, fun _ => l3, fun _ => r3⟩
        · rw [c_X10_hears, e_X10_hears_0, x_has_t X _ tx tu gu tl h (Or.inl rfl) x0 hn hp, bI_s, e_X10_hears_8, if_neg one0, x_has_t X _ tx tu gu tl h (Or.inl rfl) x0 hn hq, bI_s, if_neg one0, x_within, hd, bz_t, bI_s, e_X10_hears_29, if_neg one0, x_ruling X 96 tx tu gu tl h hI.t hX.2.2, bP_s]
          rcases (rul_S hI.t hT).tp with q' | ⟨t', ht', q'⟩
          · rw [q'] at l1 ⊢
            rw [e_X10_hears_51, l1, bI_s]
          · rw [q'] at l1 ⊢
            rw [e_X10_hears_51_2 (ht := ht'), l1, bI_s]
        · have a0' : gA g 73 0 = nI n := by rw [sl73 xl]; exact a0
          rw [c_X11_hears, e_X11_hears_0, k_per_t X _ tx tu gu tl g a0' hn hp, bI_s, e_X11_hears_5, if_neg one0, k_per_t X _ tx tu gu tl g a0' hn hq, bI_s, if_neg one0, k_isIn, hd, bz_t, bI_s, e_X11_hears_23, if_neg one0, r1, bI_s]
        · have e73 : gA g' 73 = gA h 73 := (smA r2 (by omega)).trans (sl73 xl)
          rw [e73]
          exact ⟨hI, hX.1.cg (fun c _ _ => ⟨smF l2 (by omega), smA l2 (by omega)⟩), hX.2.1.cg (fun c _ _ => ⟨smF l2 (by omega), smA l2 (by omega)⟩), hX.2.2.cg (fun c _ _ => ⟨smF l2 (by omega), smA l2 (by omega)⟩)⟩
      · have hd := in_decf hv
        refine OpA_id (v := vI (-10000)) H ?_ ?_
        · rw [c_X10_hears, e_X10_hears_0, x_has_t X _ tx tu gu tl h (Or.inl rfl) x0 hn hp, bI_s, e_X10_hears_8, if_neg one0, x_has_t X _ tx tu gu tl h (Or.inl rfl) x0 hn hq, bI_s, if_neg one0, x_within, hd, bz_f, bI_s, e_X10_hears_29, if_pos rfl]
        · rw [c_X11_hears, e_X11_hears_0, k_per_t X _ tx tu gu tl h a0 hn hp, bI_s, e_X11_hears_5, if_neg one0, k_per_t X _ tx tu gu tl h a0 hn hq, bI_s, if_neg one0, k_isIn, hd, bz_f, bI_s, e_X11_hears_23, if_pos rfl]
    · refine OpA_id (v := vI (-10000)) H ?_ ?_
      · rw [c_X10_hears, e_X10_hears_0, x_has_t X _ tx tu gu tl h (Or.inl rfl) x0 hn hp, bI_s, e_X10_hears_8, if_neg one0, x_has_f X _ tx tu gu tl h (Or.inl rfl) x0 hx, bI_s, if_pos rfl]
      · rw [c_X11_hears, e_X11_hears_0, k_per_t X _ tx tu gu tl h a0 hn hp, bI_s, e_X11_hears_5, if_neg one0, k_per_f X _ tx tu gu tl h a0 hn hx, bI_s, if_pos rfl]
  · refine OpA_id (v := vI (-10000)) H ?_ ?_
    · rw [c_X10_hears, e_X10_hears_0, x_has_f X _ tx tu gu tl h (Or.inl rfl) x0 hx, bI_s, e_X10_hears_8, if_pos rfl]
    · rw [c_X11_hears, e_X11_hears_0, k_per_f X _ tx tu gu tl h a0 hn hx, bI_s, e_X11_hears_5, if_pos rfl]
/-- years, each a step -/
def xOf (A : Nat → Int32) : Nat := (A 8).toNatClampNeg
def yOf (A : Nat → Int32) : Nat := (A 7).toNatClampNeg
theorem RV.x {A : Nat → Int32} {n : Nat} (H : RV A n) : A 8 = nI (xOf A) ∧ xOf A < 30809 := by
  obtain ⟨x, hx, e⟩ := H.2.2.2.1
  have e' : A 8 = nI x := e
  unfold xOf
  rw [e', clI (by omega)]
  exact ⟨rfl, hx⟩
theorem RV.y {A : Nat → Int32} {n : Nat} (H : RV A n) : A 7 = nI (yOf A) ∧ yOf A ≤ 9999 := by
  obtain ⟨x, hx, e⟩ := H.2.2.1
  have e' : A 7 = nI x := e
  unfold yOf
  rw [e', clI (by omega)]
  exact ⟨rfl, hx⟩
def yr1 (o : Option Cd) (n : Nat) (A : Nat → Int32) (k : Nat) : Nat → Int32 := pasF o n true (keepF A k) (xOf (keepF A k)) (yOf (keepF A k))
def yc1 (o : Option Cd) (n : Nat) (A : Nat → Int32) (k : Nat) : Nat := pasC o n true (keepF A k) (xOf (keepF A k))
def yrI (o : Option Cd) (n : Nat) : Nat → (Nat → Int32) → Nat → (Nat → Int32) × Nat × Nat
  | 0, A, k => (A, k, 0)
  | c + 1, A, k => ((yrI o n c (yr1 o n A k) (kN k)).1, (yrI o n c (yr1 o n A k) (kN k)).2.1, yc1 o n A k + (yrI o n c (yr1 o n A k) (kN k)).2.2)
theorem yr1_y {o : Option Cd} {n t k : Nat} {A : Nat → Int32} (H : Inv A n t k) : yOf (yr1 o n A k) = yOf A + 1 := by
  have e := keepF_lo (A := A) (k := k) (i := 7) H.2.2.1.2.1 (by omega) (by omega)
  have hy := H.rv.y
  have e2 : yOf (keepF A k) = yOf A := by unfold yOf; rw [e]
  unfold yr1 pasF
  rw [e2]
  show ((upd _ 7 (nI (yOf A + 1))) 7).toNatClampNeg = yOf A + 1
  rw [pk_us, clI (by omega)]
theorem yr1_I {o : Option Cd} {n t k : Nat} {A : Nat → Int32} (H : Inv A n t k) (hy : yOf A < 9999) : Inv (yr1 o n A k) n t (kN k) := by
  have e := keepF_lo (A := A) (k := k) (i := 7) H.2.2.1.2.1 (by omega) (by omega)
  have e2 : yOf (keepF A k) = yOf A := by unfold yOf; rw [e]
  exact H.ke.pa (by omega)
theorem yr1_2 {o : Option Cd} {n t k : Nat} {A : Nat → Int32} (H : Inv A n t k) : yr1 o n A k 2 = A 2 := by
  unfold yr1
  rw [pasF_o H.ke.rv (by omega) (by omega), keepF_lo H.2.2.1.2.1 (by omega) (by omega)]
theorem yrI_I {o : Option Cd} {n t : Nat} : ∀ (c k : Nat) (A : Nat → Int32), Inv A n t k → yOf A + c ≤ 9999 → Inv (yrI o n c A k).1 n t (yrI o n c A k).2.1
  | 0, k, A, H, hy => H
  | c + 1, k, A, H, hy => yrI_I c (kN k) _ (yr1_I H (by omega)) (by rw [yr1_y H]; omega)
theorem x_yrl {n t : Nat} {TT : Nat → TXT} {v : Nat} (hv : v ≤ 60) : ∀ (c i f k z : Nat) (h : DT) (A : Nat → Int32), Inv A n t k → XA h A k → (∀ j, j < t → TxR h j (TT j)) → NmA h 41 → i + c = v → yOf A + c ≤ 9999 → 3 * c + 1 ≤ f → ∃ h1, m_X10_passYears X (d + 5) f 4 [(0, vP (some 0)), (1, vI (nI v)), (2, vI (nI z)), (3, vI (nI i))] [] (SK tx tu gu tl, h) = some (some (vI (nI (z + (yrI (rulL (A 2) TT) n c A k).2.2))), (SK tx tu gu tl, h1)) ∧ smX isXl h h1 ∧ XA h1 (yrI (rulL (A 2) TT) n c A k).1 (yrI (rulL (A 2) TT) n c A k).2.1 ∧ NmA h1 41
  | 0, i, f, k, z, h, A, HI, HX, HT, hN, hi, hy, hf => by
    obtain ⟨f, rfl⟩ : ∃ f', f = f' + 1 := ⟨f - 1, by omega⟩
    refine ⟨h, ?_, smX.rf _ h, HX, hN⟩
    rw [e_X10_passYears_4, if_pos (nI_le (by omega) (by omega))]
    rfl
  | c + 1, i, f, k, z, h, A, HI, HX, HT, hN, hi, hy, hf => by
    obtain ⟨f, rfl⟩ : ∃ f', f = f' + 1 + 1 + 1 := ⟨f - 3, by omega⟩
    have ht4 := HI.t.2.1
    obtain ⟨h1, a1, a2, a3⟩ := x_kp X (d + 3) tx tu gu tl h HI HX
    have e2 : keepF A k 2 = A 2 := keepF_lo HI.2.2.1.2.1 (by omega) (by omega)
    have HT1 : ∀ j, j < t → TxR h1 j (TT j) := fun j hj => (HT j hj).cg (by omega) (xl_T a2.xl)
    have hx := HI.ke.rv.x
    have hyk := HI.ke.rv.y
    have ey : yOf (keepF A k) = yOf A := by unfold yOf; rw [keepF_lo HI.2.2.1.2.1 (by omega) (by omega)]
    obtain ⟨h2, b1, b2, b3, b4⟩ := x_pass X d tx tu gu tl (n := n) (wr := true) (Or.inl rfl) h1 HI.ke.rv (a3.1.q HI.ke.rv) (rul_S HI.ke.t HT1) (xa_N a2 hN) hx.1 (by omega) hyk.1 (by omega)
    rw [e2] at b1 b3
    have HX2 := XA.pa HI.ke a3 b2 b3
    have HI2 := yr1_I (o := rulL (A 2) TT) HI (by omega)
    have HT2 : ∀ j, j < t → TxR h2 j (TT j) := fun j hj => (HT1 j hj).cg (by omega) (xl_T (ps_xl b2))
    have e3 : yr1 (rulL (A 2) TT) n A k 2 = A 2 := yr1_2 HI
    obtain ⟨h3, g1, g2, g3, g4⟩ := x_yrl hv c (i + 1) f (kN k) (z + yc1 (rulL (A 2) TT) n A k) h2 (yr1 (rulL (A 2) TT) n A k) HI2 HX2 HT2 b4 (by omega) (by rw [yr1_y HI]; omega) (by omega)
    rw [e3] at g1 g3
    refine ⟨h3, ?_, (a2.xl.tr (ps_xl b2)).tr g2, g3, g4⟩
    rw [e_X10_passYears_4, if_neg (nI_ge (by omega) (by omega)), a1, bV_s, e_X10_passYears_20, x_ruling X (d + 2) tx tu gu tl h1 HI.ke.t a3.2.2, bP_s, e2]
    have e5 : m_X10_passYears X (d + 5) (f + 1) 33 [(0, vP (some 0)), (1, vI (nI v)), (3, vI (nI i))] [vP (rulP (A 2)), vP (some 1), vP (some 40), vI (nI z)] (SK tx tu gu tl, h1) = bI (cal X (d + 5) 6 [vP (some 40), vP (some 1), vP (rulP (A 2)), vI 1] (SK tx tu gu tl, h1)) fun r1 H1 => m_X10_passYears X (d + 5) f 4 [(0, vP (some 0)), (1, vI (nI v)), (2, vI (nI z + r1)), (3, vI (nI i + 1))] [] H1 := by
      rcases (rul_S HI.t HT).tp with q' | ⟨t', ht', q'⟩
      · rw [q']; exact e_X10_passYears_33 ..
      · rw [q']; exact e_X10_passYears_33_2 (ht := ht') ..
    rw [e5, b1, bI_s, addI, nI_1]
    refine g1.trans ?_
    rw [Nat.add_assoc]
    rfl
theorem k_yrl {n t : Nat} {TT : Nat → TXT} {v : Nat} (hv : v ≤ 60) : ∀ (c i f k : Nat) (h : DT), Inv (gA h 73) n t k → (∀ j, j < t → TxR h j (TT j)) → NmA h 78 → gF h 72 23 = 1 → i + c ≤ v → yOf (gA h 73) + c ≤ 9999 → 2 * c + 1 ≤ f → ∃ h' f', f - 2 * c ≤ f' ∧ m_X11_arePassed X (d + 9) f 7 [(0, vP (some 72)), (1, vI (nI v)), (2, vI (nI i))] [] (SK tx tu gu tl, h) = m_X11_arePassed X (d + 9) f' 7 [(0, vP (some 72)), (1, vI (nI v)), (2, vI (nI (i + c)))] [] (SK tx tu gu tl, h') ∧ KS h h' ∧ gA h' 73 = (yrI (rulL (gA h 73 2) TT) n c (gA h 73) k).1 ∧ gF h' 72 24 = gF h 72 24 + nI (yrI (rulL (gA h 73 2) TT) n c (gA h 73) k).2.2 ∧ NmA h' 78
  | 0, i, f, k, h, HI, HT, hN, hw, hi, hy, hf => ⟨h, f, by omega, rfl, KS.rf h, rfl, (Int32.add_zero _).symm, hN⟩
  | c + 1, i, f, k, h, HI, HT, hN, hw, hi, hy, hf => by
    obtain ⟨f, rfl⟩ : ∃ f', f = f' + 1 + 1 := ⟨f - 2, by omega⟩
    have ht4 := HI.t.2.1
    have hyy := HI.rv.y
    have e2 : keepF (gA h 73) k 2 = gA h 73 2 := keepF_lo HI.2.2.1.2.1 (by omega) (by omega)
    have hx := HI.ke.rv.x
    have hyk := HI.ke.rv.y
    have ey : yOf (keepF (gA h 73) k) = yOf (gA h 73) := by unfold yOf; rw [keepF_lo HI.2.2.1.2.1 (by omega) (by omega)]
    have ks1 : KS h (wA h 73 (keepF (gA h 73) k)) := KS_w
    have HT1 : ∀ j, j < t → TxR (wA h 73 (keepF (gA h 73) k)) j (TT j) := fun j hj => (HT j hj).cg (by omega) ks1.st
    obtain ⟨h2, b1, b2, b3, b4, b5⟩ := k_pass X d tx tu gu tl (n := n) (x := xOf (keepF (gA h 73) k)) (y := yOf (keepF (gA h 73) k)) (wr := true) (o := rulL (gA h 73 2) TT) (wA h 73 (keepF (gA h 73) k)) (by rw [gA_wA']; exact HI.ke.rv) (by rw [gA_wA', ← e2]; exact rul_K HI.ke.t HT1) (by rw [gF_wA]; exact hw) (fun k hk => by rw [gA_wA, if_neg (by omega)]; exact hN k hk) (by rw [gA_wA']; exact hx.1) (by omega) (by rw [gA_wA']; exact hyk.1) (by omega)
    rw [gA_wA'] at b3 b4
    have b3' : gA h2 73 = yr1 (rulL (gA h 73 2) TT) n (gA h 73) k := b3
    have e3 : gA h2 73 2 = gA h 73 2 := by rw [b3']; exact yr1_2 HI
    obtain ⟨h3, f', g0, g1, g2, g3, g4, g5⟩ := k_yrl hv c (i + 1) f (kN k) h2 (by rw [b3']; exact yr1_I HI (by omega)) (fun j hj => (HT1 j hj).cg (by omega) b2.st) b5 (by rw [b2.2 23 (by omega), gF_wA]; exact hw) (by omega) (by rw [b3', yr1_y HI]; omega) (by omega)
    rw [e3, b3'] at g3 g4
    refine ⟨h3, f', by omega, ?_, (ks1.tr b2).tr g2, g3, ?_, g5⟩
    · rw [e_X11_arePassed_7, if_neg (nI_ge (by omega) (by omega)), hyy.1, if_neg (by rw [litI 9999, eqI (by omega) (by omega)]; omega), k_kp X (d + 8) tx tu gu tl h HI, bV_s, e_X11_arePassed_31, b1, bV_s, nI_1, g1, show i + 1 + c = i + (c + 1) by omega]
    · rw [g4, b4, gF_wA, Int32.add_assoc, addI]
      rfl
theorem op_year {n t k : Nat} {TT : Nat → TXT} (h : DT) (H : RA h (gA h 73) n t k) (HL : LR h t TT) (x : Int32) : OpA X tx tu gu tl h n t k 109 [vP (some 0), vI x] 242 [vP (some 72), vI x] := by
  obtain ⟨hI, hX⟩ := id H
  obtain ⟨hT, hN1, hN2, hw⟩ := HL
  have hy := hI.rv.y
  have x3 : gF h 1 3 = nI (yOf (gA h 73)) := hX.1.2.2.2.1.trans hy.1
  by_cases hv : 1 ≤ x ∧ x ≤ 60
  · have hd := in_dec hv
    obtain ⟨v, v1, v2, rfl⟩ := in_nI1 (m := 60) hv.1 hv.2 (by omega)
    by_cases hc : yOf (gA h 73) + v ≤ 9999
    · obtain ⟨h1, g1, g2, g3, g4⟩ := x_yrl X 93 tx tu gu tl v2 v 0 999999 k 0 h (gA h 73) hI hX hT hN1 (by omega) hc (by omega)
      have k72 := sl72 g2
      have ks0 : KS h1 (sF h1 72 24 0) := KS_F
      have e73 : gA (sF h1 72 24 0) 73 = gA h 73 := (show gA (sF h1 72 24 0) 73 = gA h1 73 from rfl).trans (sl73 g2)
      obtain ⟨h2, f', q0, q1, q2, q3, q4, q5⟩ := k_yrl X 89 tx tu gu tl v2 v 0 999999 k (sF h1 72 24 0) (n := n) (t := t) (TT := TT) (by rw [e73]; exact hI) (fun j hj => ((hT j hj).cg (by have := hI.t.2.1; omega) (xl_T g2)).cg (by have := hI.t.2.1; omega) ks0.st) (fun k hk => by rw [gA_sF]; exact sl78 g2 hN2 k hk) (by rw [ks0.2 23 (by omega), k72]; exact hw) (by omega) (by rw [e73]; exact hc) (by omega)
      rw [e73] at q3 q4
      rw [gF_sF, if_pos ⟨rfl, rfl⟩, Int32.zero_add] at q4
      obtain ⟨f', rfl⟩ : ∃ g, f' = g + 1 := ⟨f' - 1, by omega⟩
      refine ⟨vI (nI (yrI (rulL (gA h 73 2) TT) n v (gA h 73) k).2.2), h1, h2, n, (yrI (rulL (gA h 73 2) TT) n v (gA h 73) k).2.1, ?_, ?_, g2, (ks0.tr q2).ms, ?_, fun _ => g4, fun _ => q5⟩
      · rw [c_X10_year, e_X10_year_0, x_within, hd, bz_t, bI_s, e_X10_year_7, if_neg one0, x3, addI, litI 9999, if_pos (nI_le hc (by omega)), c_X10_passYears, e_X10_passYears_0]
        have g1' : m_X10_passYears X 98 999999 4 [(0, vP (some 0)), (1, vI (nI v)), (2, vI 0), (3, vI 0)] [] (SK tx tu gu tl, h) = some (some (vI (nI (0 + (yrI (rulL (gA h 73 2) TT) n v (gA h 73) k).2.2))), (SK tx tu gu tl, h1)) := g1
        rw [g1', bI_s, Nat.zero_add]
      · have e7 : gA h1 73 7 = nI (yOf (gA h 73)) := by rw [sl73 g2]; exact hy.1
        rw [c_X11_year, e_X11_year_0, k_isIn, hd, bz_t, bI_s, e_X11_year_7, if_neg one0, e7, addI, litI 9999, if_neg (nI_nlt hc (by omega)), c_X11_arePassed, e_X11_arePassed_0]
        have q1' : m_X11_arePassed X 98 999999 7 [(0, vP (some 72)), (1, vI (nI v)), (2, vI 0)] [] (SK tx tu gu tl, sF h1 72 24 0) = m_X11_arePassed X 98 (f' + 1) 7 [(0, vP (some 72)), (1, vI (nI v)), (2, vI (nI (0 + v)))] [] (SK tx tu gu tl, h2) := q1
        rw [q1', Nat.zero_add, e_X11_arePassed_7, if_pos (nI_le (Nat.le_refl _) (by omega)), bI_s, e_X11_year_30, if_neg one0, q4]
      · rw [q3]
        exact ⟨yrI_I v k _ hI hc, g3⟩
    · refine OpA_id (v := vI (-1)) H ?_ ?_
      · rw [c_X10_year, e_X10_year_0, x_within, hd, bz_t, bI_s, e_X10_year_7, if_neg one0, x3, addI, litI 9999, if_neg (nI_ge (by omega) (by omega))]
      · rw [c_X11_year, e_X11_year_0, k_isIn, hd, bz_t, bI_s, e_X11_year_7, if_neg one0, hy.1, addI, litI 9999, if_pos (nI_lt (by omega) (by omega))]
  · have hd := in_decf hv
    refine OpA_id (v := vI (-1)) H ?_ ?_
    · rw [c_X10_year, e_X10_year_0, x_within, hd, bz_f, bI_s, e_X10_year_7, if_pos rfl]
    · rw [c_X11_year, e_X11_year_0, k_isIn, hd, bz_f, bI_s, e_X11_year_7, if_pos rfl]
end LP
