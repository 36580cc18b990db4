/-! WHOSE LAW; a text is played -/
def agB (o : Option Cd) (A : Nat → Int32) (n : Nat) : Nat → Nat → Bool
  | 0, _ => true
  | c + 1, i => if zI (lnV o A n (A (60 + 2 * i)).toNatClampNeg) = A (61 + 2 * i) then agB o A n c (i + 1) else false
def whB (TT : Nat → TXT) (A : Nat → Int32) (n q : Nat) : Nat → Nat → Int32 → Int32
  | 0, _, a => a
  | c + 1, j, a => whB TT A n q c (j + 1) (bif agB (TT j).2.1 A n q 0 then a ||| ((1 : Int32) <<< (nI j &&& 31)) else a)
section WH
variable (X : XS) (d : Nat) (tx tu gu : Option Nat) (tl : List SC)
theorem x_agr {n t k j q : Nat} {T : TXT} {A : Nat → Int32} (HI : Inv A n t k) (hj : j < 4) (hq : q ≤ 8) (hS : SadOk A n q) : ∀ (c i f : Nat) (h : DT), XA h A k → TxR h j T → NmA h 41 → i + c = q → 2 * c + 1 ≤ f → ∃ h1, m_X10_agrees X (d + 4) f 2 [(0, vP (some 0)), (1, vP (some (txc j))), (2, vI (nI i))] [] (SK tx tu gu tl, h) = some (some (vI (bzB (agB T.2.1 A n c i))), (SK tx tu gu tl, h1)) ∧ smX (fun c => c = 40 ∨ c = 41 ∨ c = 42) h h1 ∧ NmA h1 41
  | 0, i, f, h, HX, HT, hN, hi, hf => by
    obtain ⟨f, rfl⟩ : ∃ f', f = f' + 1 := ⟨f - 1, by omega⟩
    have x5 : gF h 9 5 = nI q := HX.2.2.2.2.2.2.2.1.trans hS.1
    refine ⟨h, ?_, smX.rf _ h, hN⟩
    rw [e_X10_agrees_2 (ht := txc_tx hj), x5, if_pos (nI_le (by omega) (by omega))]
    rfl
  | c + 1, i, f, h, HX, HT, hN, hi, hf => by
    obtain ⟨f, rfl⟩ : ∃ f', f = f' + 1 + 1 := ⟨f - 2, by omega⟩
    have hn := HI.1.2.1
    have x5 : gF h 9 5 = nI q := HX.2.2.2.2.2.2.2.1.trans hS.1
    obtain ⟨⟨p, hp, ep⟩, -⟩ := hS.2.2 i (by omega)
    have xw : gA h 14 i = nI p := (HX.2.2.2.2.2.2.2.2.2.2.2.2.1 i (by omega)).trans ep
    have xl : gA h 15 i = A (61 + 2 * i) := HX.2.2.2.2.2.2.2.2.2.2.2.2.2 i (by omega)
    obtain ⟨h1, l1, l2, l3⟩ := x_leaning X d tx tu gu tl (Or.inl rfl) HI.rv HX.1.r0 hp hj HT.2.2.2.2.1 hN
    have HX1 : XA h1 A k := HX.cg fun c h1 h2 => ⟨smF l2 (by omega), smA l2 (by omega)⟩
    show ∃ h1, _ = some (some (vI (bzB (if zI (lnV T.2.1 A n (A (60 + 2 * i)).toNatClampNeg) = A (61 + 2 * i) then agB T.2.1 A n c (i + 1) else false))), (SK tx tu gu tl, h1)) ∧ _
    rw [e_X10_agrees_2 (ht := txc_tx hj), x5, if_neg (nI_ge (by omega) (by omega)), inbI (by omega) (by omega), xw, l1, bI_s, e_X10_agrees_34 (ht := txc_tx hj), inbI (by omega) (by omega), smA l2 (by omega), xl, ep, clI (by omega)]
    by_cases g : zI (lnV T.2.1 A n p) = A (61 + 2 * i)
    · obtain ⟨h2, g1, g2, g3⟩ := x_agr HI hj hq hS c (i + 1) f h1 HX1 (HT.cg hj (smT_of l2 (by omega) (fun c _ _ => by omega))) l3 (by omega) (by omega)
      refine ⟨h2, ?_, l2.tr g2, g3⟩
      rw [if_pos g, if_pos g, nI_1, g1]
    · refine ⟨h1, ?_, l2, l3⟩
      rw [if_neg g, if_neg g]
      rfl
theorem k_agr0 {x1 x2 : Int32} {q : Nat} (h : DT) (h6 : gA h 73 6 = nI q) (hq : q ≤ 8) : ∀ (c i f : Nat), i + c = q → c + 1 ≤ f → m_X11_whose X d f 20 [(0, vP (some 72)), (1, vI x1), (2, vI x2), (3, vI 0), (4, vI (nI (60 + 2 * i)))] [] (SK tx tu gu tl, h) = m_X11_whose X d (f - c - 1) 4 [(0, vP (some 72)), (1, vI x1), (2, vI (x2 + 1))] [] (SK tx tu gu tl, h)
  | 0, i, f, hi, hf => by
    obtain ⟨f, rfl⟩ : ∃ f', f = f' + 1 := ⟨f - 1, by omega⟩
    rw [e_X11_whose_20, h6, litI 2, mulI, litI 60, addI, if_pos (nI_le (by omega) (by omega)), if_pos rfl, Int32.or_zero]
    rfl
  | c + 1, i, f, hi, hf => by
    obtain ⟨f, rfl⟩ : ∃ f', f = f' + 1 := ⟨f - 1, by omega⟩
    rw [e_X11_whose_20, h6, litI 2, mulI, litI 60, addI, if_neg (nI_ge (by omega) (by omega)), if_pos rfl, addI, show 60 + 2 * i + 2 = 60 + 2 * (i + 1) by omega, k_agr0 h h6 hq c (i + 1) f (by omega) (by omega), show f + 1 - (c + 1) - 1 = f - c - 1 by omega]
theorem k_agr {n t k j q : Nat} {T : TXT} {x1 : Int32} (hj : j < 4) (hq : q ≤ 8) : ∀ (c i f : Nat) (h : DT), Inv (gA h 73) n t k → SadOk (gA h 73) n q → TxR h j T → NmA h 78 → i + c = q → 2 * c + 20 ≤ f → ∃ h' f', f - 2 * c - 1 ≤ f' ∧ m_X11_whose X (d + 7) f 20 [(0, vP (some 72)), (1, vI x1), (2, vI (nI j)), (3, vI 1), (4, vI (nI (60 + 2 * i)))] [] (SK tx tu gu tl, h) = m_X11_whose X (d + 7) f' 4 [(0, vP (some 72)), (1, vI (bif agB T.2.1 (gA h 73) n c i then x1 ||| ((1 : Int32) <<< (nI j &&& 31)) else x1)), (2, vI (nI (j + 1)))] [] (SK tx tu gu tl, h') ∧ smX (fun c => c = 78 ∨ c = 79 ∨ c = 80) h h' ∧ NmA h' 78
  | 0, i, f, h, HI, hS, HT, hN, hi, hf => by
    obtain ⟨f, rfl⟩ : ∃ f', f = f' + 1 := ⟨f - 1, by omega⟩
    refine ⟨h, f, by omega, ?_, smX.rf _ h, hN⟩
    rw [e_X11_whose_20, hS.1, litI 2, mulI, litI 60, addI, if_pos (nI_le (by omega) (by omega)), if_neg one0, nI_1]
    rfl
  | c + 1, i, f, h, HI, hS, HT, hN, hi, hf => by
    obtain ⟨f, rfl⟩ : ∃ f', f = f' + 1 + 1 := ⟨f - 2, by omega⟩
    have hn := HI.1.2.1
    obtain ⟨⟨p, hp, ep⟩, -⟩ := hS.2.2 i (by omega)
    obtain ⟨h1, l1, l2, l3⟩ := k_leansOf X d tx tu gu tl h HI.rv hp hN (x1 := nI j) (o := T.2.1) (Or.inr ⟨j, T, hj, rfl, HT, rfl⟩)
    have e73 : gA h1 73 = gA h 73 := smA l2 (by omega)
    have eB : agB T.2.1 (gA h 73) n (c + 1) i = if zI (lnV T.2.1 (gA h 73) n p) = gA h 73 (61 + 2 * i) then agB T.2.1 (gA h 73) n c (i + 1) else false := by
      show (if zI (lnV T.2.1 (gA h 73) n (gA h 73 (60 + 2 * i)).toNatClampNeg) = gA h 73 (61 + 2 * i) then agB T.2.1 (gA h 73) n c (i + 1) else false) = _
      rw [ep, clI (by omega)]
    rw [eB, e_X11_whose_20, hS.1, litI 2, mulI, litI 60, addI, if_neg (nI_ge (by omega) (by omega)), if_neg one0, inbI (by omega) (by omega), ep, l1, bI_s, e_X11_whose_53, nI_1, inbI (by omega) (by omega), e73, show 60 + 2 * i + 1 = 61 + 2 * i by omega, litI 2, addI, show 60 + 2 * i + 2 = 60 + 2 * (i + 1) by omega]
    by_cases g : zI (lnV T.2.1 (gA h 73) n p) = gA h 73 (61 + 2 * i)
    · obtain ⟨h2, f', g0, g1, g2, g3⟩ := k_agr (x1 := x1) hj hq c (i + 1) f h1 (by rw [e73]; exact HI) (by rw [e73]; exact hS) (HT.cg hj (KS_of l2).st) l3 (by omega) (by omega)
      rw [e73] at g1
      refine ⟨h2, f', by omega, ?_, l2.tr g2, g3⟩
      rw [if_pos g, if_pos g]
      exact g1
    · refine ⟨h1, f - c - 1, by omega, ?_, l2, l3⟩
      rw [if_neg g, if_neg g]
      have := k_agr0 X (d + 7) tx tu gu tl (x1 := x1) (x2 := nI j) h1 (q := q) (by rw [e73]; exact hS.1) hq c (i + 1) f (by omega) (by omega)
      rw [this, nI_1]
      rfl
theorem x_whl {n t k q : Nat} {TT : Nat → TXT} {A : Nat → Int32} (HI : Inv A n t k) (hS : SadOk A n q) : ∀ (c j f : Nat) (a : Int32) (h : DT), XA h A k → (∀ j, j < t → TxR h j (TT j)) → NmA h 41 → j + c = t → c + 1 ≤ f → ∃ h1, m_X10_whose X (d + 5) f 4 [(0, vP (some 0)), (1, vI a), (2, vI (nI j))] [] (SK tx tu gu tl, h) = some (some (vI (whB TT A n q c j a)), (SK tx tu gu tl, h1)) ∧ smX (fun c => c = 40 ∨ c = 41 ∨ c = 42) h h1 ∧ NmA h1 41
  | 0, j, f, a, h, HX, HT, hN, hj, hf => by
    obtain ⟨f, rfl⟩ : ∃ f', f = f' + 1 := ⟨f - 1, by omega⟩
    have ht4 := HI.t.2.1
    have x0 : gF h 9 0 = nI t := HX.2.2.1.trans HI.t.1
    refine ⟨h, ?_, smX.rf _ h, hN⟩
    rw [e_X10_whose_4, x0, if_pos (nI_le (by omega) (by omega))]
    rfl
  | c + 1, j, f, a, h, HX, HT, hN, hj, hf => by
    obtain ⟨f, rfl⟩ : ∃ f', f = f' + 1 := ⟨f - 1, by omega⟩
    have ht4 := HI.t.2.1
    have x0 : gF h 9 0 = nI t := HX.2.2.1.trans HI.t.1
    have eT : [some 52, some 57, some 62, some 67].getD j none = some (txc j) := by
      obtain rfl | rfl | rfl | rfl : j = 0 ∨ j = 1 ∨ j = 2 ∨ j = 3 := by omega
      all_goals rfl
    obtain ⟨h1, l1, l2, l3⟩ := x_agr X d tx tu gu tl HI (j := j) (by omega) hS.2.1 hS q 0 999999 h HX (HT j (by omega)) hN (by omega) (by have := hS.2.1; omega)
    have HX1 : XA h1 A k := HX.cg fun c h1 h2 => ⟨smF l2 (by omega), smA l2 (by omega)⟩
    have l1' : cal X (d + 5) 157 [vP (some 0), vP (some (txc j))] (SK tx tu gu tl, h) = some (some (vI (bzB (agB (TT j).2.1 A n q 0))), (SK tx tu gu tl, h1)) := by
      rw [c_X10_agrees, e_X10_agrees_0 (ht := txc_tx (by omega))]
      exact l1
    obtain ⟨h2, g1, g2, g3⟩ := x_whl HI hS c (j + 1) f (bif agB (TT j).2.1 A n q 0 then a ||| ((1 : Int32) <<< (nI j &&& 31)) else a) h1 HX1 (fun j hj => (HT j hj).cg (by omega) (smT_of l2 (by omega) (fun c _ _ => by omega))) l3 (by omega) (by omega)
    refine ⟨h2, ?_, l2.tr g2, g3⟩
    rw [e_X10_whose_4, x0, if_neg (nI_ge (by omega) (by omega)), inbI (by omega) (by omega), eT, l1', bI_s, nI_1]
    cases hb : agB (TT j).2.1 A n q 0 with
    | true =>
      rw [hb] at g1
      rw [bz_t, if_neg one0]
      show _ = some (some (vI (whB TT A n q c (j + 1) (bif agB (TT j).2.1 A n q 0 then a ||| ((1 : Int32) <<< (nI j &&& 31)) else a))), (SK tx tu gu tl, h2))
      rw [hb]
      exact g1
    | false =>
      rw [hb] at g1
      rw [bz_f, if_pos rfl]
      show _ = some (some (vI (whB TT A n q c (j + 1) (bif agB (TT j).2.1 A n q 0 then a ||| ((1 : Int32) <<< (nI j &&& 31)) else a))), (SK tx tu gu tl, h2))
      rw [hb]
      exact g1
theorem k_whl {n t k q : Nat} {TT : Nat → TXT} : ∀ (c j f : Nat) (a : Int32) (h : DT), Inv (gA h 73) n t k → SadOk (gA h 73) n q → (∀ j, j < t → TxR h j (TT j)) → NmA h 78 → j + c = t → 50 * c + 1 ≤ f → ∃ h', m_X11_whose X (d + 7) f 4 [(0, vP (some 72)), (1, vI a), (2, vI (nI j))] [] (SK tx tu gu tl, h) = some (some (vI (whB TT (gA h 73) n q c j a)), (SK tx tu gu tl, h')) ∧ smX (fun c => c = 78 ∨ c = 79 ∨ c = 80) h h' ∧ NmA h' 78
  | 0, j, f, a, h, HI, hS, HT, hN, hj, hf => by
    obtain ⟨f, rfl⟩ : ∃ f', f = f' + 1 := ⟨f - 1, by omega⟩
    have ht4 := HI.t.2.1
    refine ⟨h, ?_, smX.rf _ h, hN⟩
    rw [e_X11_whose_4, HI.t.1, if_pos (nI_le (by omega) (by omega))]
    rfl
  | c + 1, j, f, a, h, HI, hS, HT, hN, hj, hf => by
    obtain ⟨f, rfl⟩ : ∃ f', f = f' + 1 := ⟨f - 1, by omega⟩
    have ht4 := HI.t.2.1
    have q8 := hS.2.1
    obtain ⟨h1, f', l0, l1, l2, l3⟩ := k_agr X d tx tu gu tl (x1 := a) (j := j) (by omega) hS.2.1 q 0 f h HI hS (HT j (by omega)) hN (by omega) (by omega)
    have e73 : gA h1 73 = gA h 73 := smA l2 (by omega)
    obtain ⟨h2, g1, g2, g3⟩ := k_whl c (j + 1) f' (bif agB (TT j).2.1 (gA h 73) n q 0 then a ||| ((1 : Int32) <<< (nI j &&& 31)) else a) h1 (by rw [e73]; exact HI) (by rw [e73]; exact hS) (fun j hj => (HT j hj).cg (by omega) (KS_of l2).st) l3 (by omega) (by omega)
    rw [e73] at g1
    refine ⟨h2, ?_, l2.tr g2, g3⟩
    rw [e_X11_whose_4, HI.t.1, if_neg (nI_ge (by omega) (by omega))]
    exact l1.trans g1
theorem op_whose {n t k : Nat} {TT : Nat → TXT} (h : DT) (H : RA h (gA h 73) n t k) (HL : LR h t TT) : OpA X tx tu gu tl h n t k 139 [vP (some 0)] 296 [vP (some 72)] := by
  obtain ⟨hI, hX⟩ := id H
  obtain ⟨hT, hN1, hN2, hw⟩ := HL
  have ht4 := hI.t.2.1
  obtain ⟨q, hS⟩ := hI.2.2.2.2.2.2
  obtain ⟨h1, a1, a2, a3⟩ := x_whl X 94 tx tu gu tl hI hS t 0 999999 0 h hX hT hN1 (by omega) (by omega)
  have xl : smX isXl h h1 := a2.mo fun c hc => by unfold isXl isXa; omega
  obtain ⟨h2, b1, b2, b3⟩ := k_whl X 92 tx tu gu tl (n := n) (t := t) (k := k) (q := q) (TT := TT) t 0 999999 0 h1 (by rw [sl73 xl]; exact hI) (by rw [sl73 xl]; exact hS) (fun j hj => (hT j hj).cg (by omega) (xl_T xl)) (sl78 xl hN2) (by omega) (by omega)
  rw [sl73 xl] at b1
  refine ⟨vI (whB TT (gA h 73) n q t 0 0), h1, h2, n, k, ?_, ?_, xl, (KS_of b2).ms, ?_, fun _ => a3, fun _ => b3⟩
  · rw [c_X10_whose, e_X10_whose_0]; exact a1
  · rw [c_X11_whose, e_X11_whose_0]; exact b1
  · rw [smA b2 (show ¬ ((73 : Nat) = 78 ∨ (73 : Nat) = 79 ∨ (73 : Nat) = 80) by omega), sl73 xl]
    exact ⟨hI, XA.cg hX fun c h1' h2' => ⟨smF a2 (by omega), smA a2 (by omega)⟩⟩
end WH
