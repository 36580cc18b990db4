/-! STILL: the same loop in both -/
def cdI (o : Option Cd) (n : Nat) (A : Nat → Int32) (i : Nat) : Int32 := scd (wiI o n i A) n 0 0
def stR (cy : Int32) (i e : Nat) : Int32 := if cy = 0 then nI e else nI (i - e)
theorem nIneg {n : Nat} (h : n < 2147483648) : ¬ nI n = -1 := by
  intro e
  have := congrArg Int32.toInt e
  rw [nIt h, im1t] at this
  omega
theorem stR_ne {cy : Int32} {i e : Nat} (hi : i ≤ 200) (he : e < i) : ¬ stR cy i e = -1 := by
  unfold stR
  by_cases g : cy = 0
  · rw [if_pos g]; exact nIneg (by omega)
  · rw [if_neg g]; exact nIneg (by omega)
section RI
variable (X : XS) (d : Nat) (tx tu gu : Option Nat) (tl : List SC)
theorem x_stin {cy c4 : Int32} {i : Nat} (h : DT) (hi : i ≤ 200) : ∀ (m e f : Nat), e + m ≤ i → (∀ j, e ≤ j → j < e + m → gA h 50 j ≠ c4) → m ≤ f → m_X10_still X d f 49 [(0, vP (some 0)), (2, vI cy), (3, vI (nI i)), (4, vI c4), (5, vI (nI e))] [] (SK tx tu gu tl, h) = m_X10_still X d (f - m) 49 [(0, vP (some 0)), (2, vI cy), (3, vI (nI i)), (4, vI c4), (5, vI (nI (e + m)))] [] (SK tx tu gu tl, h)
  | 0, e, f, he, hj, hf => rfl
  | m + 1, e, f, he, hj, hf => by
    obtain ⟨f, rfl⟩ : ∃ f', f = f' + 1 := ⟨f - 1, by omega⟩
    rw [e_X10_still_49, if_neg (nI_ge (by omega) (by omega)), inbI (by omega) (by omega), if_neg (hj e (by omega) (by omega)), nI_1, x_stin h hi m (e + 1) f (by omega) (fun j h1 h2 => hj j (by omega) (by omega)) (by omega), show f + 1 - (m + 1) = f - m by omega, show e + 1 + m = e + (m + 1) by omega]
theorem k_stin {cy x3 : Int32} {i : Nat} (h : DT) (hi : i ≤ 200) : ∀ (m e f : Nat), e + m ≤ i → (∀ j, e ≤ j → j < e + m → gA h 82 j ≠ gA h 82 i) → m ≤ f → m_X11_still X d f 53 [(0, vP (some 72)), (2, vI cy), (3, vI x3), (4, vI (nI i)), (5, vI (nI e))] [] (SK tx tu gu tl, h) = m_X11_still X d (f - m) 53 [(0, vP (some 72)), (2, vI cy), (3, vI x3), (4, vI (nI i)), (5, vI (nI (e + m)))] [] (SK tx tu gu tl, h)
  | 0, e, f, he, hj, hf => rfl
  | m + 1, e, f, he, hj, hf => by
    obtain ⟨f, rfl⟩ : ∃ f', f = f' + 1 := ⟨f - 1, by omega⟩
    rw [e_X11_still_53, if_neg (nI_ge (by omega) (by omega)), inbI (by omega) (by omega), inbI (by omega) (by omega), if_neg (hj e (by omega) (by omega)), nI_1, k_stin h hi m (e + 1) f (by omega) (fun j h1 h2 => hj j (by omega) (by omega)) (by omega), show f + 1 - (m + 1) = f - m by omega, show e + 1 + m = e + (m + 1) by omega]
/-- from the i-th on: both come to the same -/
theorem st_loop {n : Nat} {o : Option Cd} {a cy : Int32} {A0 : Nat → Int32} (H0 : RV A0 n) : ∀ (c i : Nat), i + c = 201 → (∀ j1 j2, j1 < j2 → j2 < i → cdI o n A0 j1 ≠ cdI o n A0 j2) → ∃ v : Int32,
    (∀ (f : Nat) (h : DT) (B : Nat → Int32), XQ false h 31 (wiI o n i A0) → TxtOk B (gF h 9 0).toNatClampNeg → XTold h 9 B → B 2 = a → TxS h (rulP a) o → NmA h 41 → (∀ j, j < i → gA h 50 j = cdI o n A0 j) → 300 * c + 300 ≤ f → ∃ h1, m_X10_still X (d + 8) f 30 [(0, vP (some 0)), (2, vI cy), (3, vI (nI i))] [] (SK tx tu gu tl, h) = some (some (vI (v)), (SK tx tu gu tl, h1)) ∧ smX (fun c => isPs 31 c ∨ c = 50) h h1 ∧ NmA h1 41) ∧
    (∀ (f : Nat) (h : DT), gA h 73 = wiI o n i A0 → KxS h (gA h 73 2) o → gF h 72 23 = 0 → NmA h 78 → (∀ j, j < i → gA h 82 j = cdI o n A0 j) → 300 * c + 300 ≤ f → ∃ h', m_X11_still X (d + 8) f 26 [(0, vP (some 72)), (2, vI cy), (3, vI (-1)), (4, vI (nI i))] [] (SK tx tu gu tl, h) = some (some (vI (v)), (SK tx tu gu tl, h')) ∧ KQ h h' ∧ gF h' 72 23 = 1 ∧ NmA h' 78 ∧ (∀ j, 7 ≤ j → j < 22 → gA h' 73 j = gA h 81 j) ∧ ∀ j, ¬ (7 ≤ j ∧ j < 22) → gA h' 73 j = gA h 73 j)
  | 0, i, hi, hdis => by
    refine ⟨-1, fun f h B HX HB HB2 ha HT hN hs hf => ⟨h, ?_, smX.rf _ h, hN⟩, fun f h eA HT hw hN hs hf => ?_⟩
    · obtain ⟨f, rfl⟩ : ∃ f', f = f' + 1 := ⟨f - 1, by omega⟩
      rw [e_X10_still_30, litI 200, if_pos (nI_lt (by omega) (by omega))]
    · obtain ⟨f, rfl⟩ : ∃ f', f = f' + 1 := ⟨f - 1, by omega⟩
      obtain ⟨h5, q1, q2, q3, q4, q5⟩ := k_putBack X (d + 7) tx tu gu tl h
      refine ⟨h5, ?_, q2, q3, fun k hk => by rw [q4]; exact hN k hk, fun j h1 h2 => by rw [q5 j, if_pos ⟨h1, h2⟩], fun j hj => by rw [q5 j, if_neg hj]⟩
      rw [e_X11_still_26, litI 200, if_pos (nI_lt (by omega) (by omega)), q1, bV_s]
  | c + 1, i, hi, hdis => by
    have HV := wiI_rv (o := o) i A0 H0
    have xst : ∀ (f : Nat) (h : DT), XQ false h 31 (wiI o n i A0) → m_X10_still X (d + 8) (f + 1) 30 [(0, vP (some 0)), (2, vI cy), (3, vI (nI i))] [] (SK tx tu gu tl, h) = m_X10_still X (d + 8) f 49 [(0, vP (some 0)), (2, vI cy), (3, vI (nI i)), (4, vI (cdI o n A0 i)), (5, vI (nI 0))] [] (SK tx tu gu tl, h) := fun f h HX => by
      rw [e_X10_still_30, litI 200, if_neg (nI_nlt (by omega) (by omega)), x_packed X (d + 7) tx tu gu tl h HV HX.1, bI_s]
      rfl
    have kst : ∀ (f : Nat) (h : DT), gA h 73 = wiI o n i A0 → m_X11_still X (d + 8) (f + 1 + 1) 26 [(0, vP (some 72)), (2, vI cy), (3, vI (-1)), (4, vI (nI i))] [] (SK tx tu gu tl, h) = m_X11_still X (d + 8) f 53 [(0, vP (some 72)), (2, vI cy), (3, vI (-1)), (4, vI (nI i)), (5, vI (nI 0))] [] (SK tx tu gu tl, sA h 82 i (cdI o n A0 i)) := fun f h eA => by
      rw [e_X11_still_26, litI 200, if_neg (nI_nlt (by omega) (by omega)), if_pos rfl, k_slantCode X (d + 7) tx tu gu tl h (n := n) (by rw [eA]; exact HV), bI_s, e_X11_still_49, inbI (by omega) (by omega), eA]
      rfl
    by_cases hex : ∃ e, e < i ∧ cdI o n A0 e = cdI o n A0 i
    · obtain ⟨e, he, ee⟩ := hex
      have huq : ∀ j, j < i → j ≠ e → cdI o n A0 j ≠ cdI o n A0 i := fun j hj hne g => by
        rcases Nat.lt_or_gt_of_ne hne with q | q
        · exact hdis j e q he (g.trans ee.symm)
        · exact hdis e j q hj (ee.trans g.symm)
      refine ⟨stR cy i e, fun f h B HX HB HB2 ha HT hN hs hf => ⟨h, ?_, smX.rf _ h, hN⟩, fun f h eA HT hw hN hs hf => ?_⟩
      · obtain ⟨f, rfl⟩ : ∃ f', f = f' + 1 := ⟨f - 1, by omega⟩
        rw [xst f h HX, x_stin X (d + 8) tx tu gu tl h (by omega) e 0 f (by omega) (fun j _ h2 => by rw [hs j (by omega)]; exact huq j (by omega) (by omega)) (by omega), Nat.zero_add]
        obtain ⟨f2, hf2⟩ : ∃ g, f - e = g + 1 := ⟨f - e - 1, by omega⟩
        rw [hf2, e_X10_still_49, if_neg (nI_ge he (by omega)), inbI (by omega) (by omega), hs e he, if_pos ee]
        unfold stR
        by_cases g : cy = 0
        · rw [if_pos g, if_pos g]
        · rw [if_neg g, if_neg g, subI (by omega)]
      · obtain ⟨f, rfl⟩ : ∃ f', f = f' + 1 + 1 := ⟨f - 2, by omega⟩
        have kq0 : KQ h (sA h 82 i (cdI o n A0 i)) := KQ_A (by omega)
        have r82 : ∀ j, j ≤ i → gA (sA h 82 i (cdI o n A0 i)) 82 j = cdI o n A0 j := fun j hj => by
          rw [gA_sA]
          by_cases g : j = i
          · rw [if_pos ⟨rfl, g⟩, g]
          · rw [if_neg (fun q => g q.2)]; exact hs j (by omega)
        have e73 : gA (sA h 82 i (cdI o n A0 i)) 73 = gA h 73 := gA_sAn (by omega)
        obtain ⟨h2, b1, b2, b3, b4, b5⟩ := k_leanAll X d tx tu gu tl (n := n) (wr := false) (o := o) (sA h 82 i (cdI o n A0 i)) (by rw [e73, eA]; exact HV) (by rw [e73]; exact HT.cg kq0.st) hw (fun k hk => by rw [gA_sAn (by omega)]; exact hN k hk)
        obtain ⟨h5, q1, q2, q3, q4, q5⟩ := k_putBack X (d + 7) tx tu gu tl h2
        have b3' : gA h2 73 = wiS o n (gA h 73) := by rw [b3, e73]; rfl
        refine ⟨h5, ?_, (kq0.tr b2.q).tr q2, q3, fun k hk => by rw [q4]; exact b5 k hk, fun j h1 h2' => by rw [q5 j, if_pos ⟨h1, h2'⟩, smA b2.1 (by omega), gA_sAn (by omega)], fun j hj => by rw [q5 j, if_neg hj, b3', wiS_f (by rw [eA]; exact HV) (by omega)]⟩
        rw [kst f h eA, k_stin X (d + 8) tx tu gu tl _ (by omega) e 0 f (by omega) (fun j _ h2 => by rw [r82 j (by omega), r82 i (Nat.le_refl _)]; exact huq j (by omega) (by omega)) (by omega), Nat.zero_add]
        obtain ⟨f2, hf2⟩ : ∃ g, f - e = g + 1 := ⟨f - e - 1, by omega⟩
        have stp1 : m_X11_still X (d + 8) (f2 + 1) 53 [(0, vP (some 72)), (2, vI cy), (3, vI (-1)), (4, vI (nI i)), (5, vI (nI e))] [] (SK tx tu gu tl, sA h 82 i (cdI o n A0 i)) = m_X11_still X (d + 8) f2 53 [(0, vP (some 72)), (2, vI cy), (3, vI (stR cy i e)), (4, vI (nI i)), (5, vI (nI (e + 1)))] [] (SK tx tu gu tl, sA h 82 i (cdI o n A0 i)) := by
          rw [e_X11_still_53, if_neg (nI_ge he (by omega)), inbI (by omega) (by omega), inbI (by omega) (by omega), r82 e (by omega), r82 i (Nat.le_refl _), if_pos ee, nI_1]
          unfold stR
          by_cases g : cy = 0
          · rw [if_pos g, if_pos g]
          · rw [if_neg g, if_neg g, subI (by omega)]
        rw [hf2, stp1, k_stin X (d + 8) tx tu gu tl _ (by omega) (i - (e + 1)) (e + 1) f2 (by omega) (fun j h1 h2 => by rw [r82 j (by omega), r82 i (Nat.le_refl _)]; exact huq j (by omega) (by omega)) (by omega)]
        obtain ⟨f3, hf3⟩ : ∃ g, f2 - (i - (e + 1)) = g + 1 + 1 := ⟨f2 - (i - (e + 1)) - 2, by omega⟩
        rw [hf3, e_X11_still_53, if_pos (nI_le (by omega) (by omega)), b1, bV_s, e_X11_still_26, if_neg (stR_ne (by omega) he), q1, bV_s]
        by_cases g : (200 : Int32) < nI i + 1
        · rw [if_pos g]
        · rw [if_neg g]
    · have hno : ∀ j, j < i → cdI o n A0 j ≠ cdI o n A0 i := fun j hj g => hex ⟨j, hj, g⟩
      obtain ⟨v, ih1, ih2⟩ := st_loop H0 c (i + 1) (by omega) (fun j1 j2 h1 h2 => by
        by_cases g : j2 = i
        · rw [g] at h1 ⊢; exact hno j1 h1
        · exact hdis j1 j2 h1 (by omega))
      refine ⟨v, fun f h B HX HB HB2 ha HT hN hs hf => ?_, fun f h eA HT hw hN hs hf => ?_⟩
      · obtain ⟨f, rfl⟩ : ∃ f', f = f' + 1 := ⟨f - 1, by omega⟩
        have s0 : smX (fun c => c = 50) h (sA h 50 i (cdI o n A0 i)) := smX_sA rfl
        have HX1 : XQ false (sA h 50 i (cdI o n A0 i)) 31 (wiI o n i A0) := HX.cg fun c _ _ => ⟨smF s0 (by omega), smA s0 (by omega)⟩
        have HT1 : TxS (sA h 50 i (cdI o n A0 i)) (rulP a) o := HT.cg (smT_of s0 (by omega) (fun c _ _ => by omega))
        have hN1 : NmA (sA h 50 i (cdI o n A0 i)) 41 := fun k hk => by rw [smA s0 (by omega)]; exact hN k hk
        have HB1 : XTold (sA h 50 i (cdI o n A0 i)) 9 B := HB2.cg fun c _ _ => ⟨smF s0 (by omega), smA s0 (by omega)⟩
        obtain ⟨h1, b1, b2, b3, b4⟩ := x_lall X (d + 3) tx tu gu tl (n := n) (wr := false) (Or.inr rfl) (sA h 50 i (cdI o n A0 i)) HV HX1 HT1 hN1
        have f9 : ∀ c, 9 ≤ c → c ≤ 15 → gF h1 c = gF h c ∧ gA h1 c = gA h c := fun c h1' h2' => ⟨(smF b2 (by unfold isPs; omega)).trans (smF s0 (by omega)), (smA b2 (by unfold isPs; omega)).trans (smA s0 (by omega))⟩
        obtain ⟨f2, hf2⟩ : ∃ g, f - i = g + 1 + 1 := ⟨f - i - 2, by omega⟩
        obtain ⟨h2, g1, g2, g3⟩ := ih1 f2 h1 B b3 (by rw [(f9 9 (by omega) (by omega)).1]; exact HB) (HB2.cg fun c h1' h2' => f9 c h1' h2') ha (HT1.cg (smT_of b2 (by unfold isPs; omega) (fun c _ _ => by unfold isPs; omega))) b4 (fun j hj => by
          rw [smA b2 (by unfold isPs; omega), gA_sA]
          by_cases g : j = i
          · rw [if_pos ⟨rfl, g⟩, g]
          · rw [if_neg (fun q => g q.2)]; exact hs j (by omega)) (by omega)
        refine ⟨h2, ?_, ((s0.mo fun c hc => Or.inr hc).tr (b2.mo fun c hc => Or.inl hc)).tr g2, g3⟩
        have e5 : m_X10_still X (d + 8) (f2 + 1) 107 [(0, vP (some 0)), (2, vI cy), (3, vI (nI i))] [vP (rulP a), vP (some 31), vP (some 40)] (SK tx tu gu tl, sA h 50 i (cdI o n A0 i)) = bI (cal X (d + 8) 6 [vP (some 40), vP (some 31), vP (rulP a), vI 0] (SK tx tu gu tl, sA h 50 i (cdI o n A0 i))) fun r1 H1 => m_X10_still X (d + 8) f2 30 [(0, vP (some 0)), (2, vI cy), (3, vI (nI i + 1))] [] H1 := by
          rcases HT.tp with q' | ⟨t', ht', q'⟩
          · rw [q']; exact e_X10_still_107 ..
          · rw [q']; exact e_X10_still_107_2 (ht := ht') ..
        rw [xst f h HX, x_stin X (d + 8) tx tu gu tl h (by omega) i 0 f (by omega) (fun j _ h2 => by rw [hs j (by omega)]; exact hno j (by omega)) (by omega), Nat.zero_add, hf2, e_X10_still_49, if_pos (nI_le (Nat.le_refl _) (by omega)), inbI (by omega) (by omega), x_ruling X (d + 5) tx tu gu tl _ (t := (gF h 9 0).toNatClampNeg) HB HB1, bP_s, ha, e5, b1, bI_s, nI_1, g1]
      · obtain ⟨f, rfl⟩ : ∃ f', f = f' + 1 + 1 := ⟨f - 2, by omega⟩
        have kq0 : KQ h (sA h 82 i (cdI o n A0 i)) := KQ_A (by omega)
        have r82 : ∀ j, j ≤ i → gA (sA h 82 i (cdI o n A0 i)) 82 j = cdI o n A0 j := fun j hj => by
          rw [gA_sA]
          by_cases g : j = i
          · rw [if_pos ⟨rfl, g⟩, g]
          · rw [if_neg (fun q => g q.2)]; exact hs j (by omega)
        have e73 : gA (sA h 82 i (cdI o n A0 i)) 73 = gA h 73 := gA_sAn (by omega)
        obtain ⟨h2, b1, b2, b3, b4, b5⟩ := k_leanAll X d tx tu gu tl (n := n) (wr := false) (o := o) (sA h 82 i (cdI o n A0 i)) (by rw [e73, eA]; exact HV) (by rw [e73]; exact HT.cg kq0.st) hw (fun k hk => by rw [gA_sAn (by omega)]; exact hN k hk)
        have b3' : gA h2 73 = wiI o n (i + 1) A0 := by rw [b3, e73, eA]; rfl
        have e2 : gA h2 73 2 = gA h 73 2 := by rw [b3', eA]; exact wiS_f HV (by omega)
        obtain ⟨f2, hf2⟩ : ∃ g, f - i = g + 1 := ⟨f - i - 1, by omega⟩
        obtain ⟨h3, g1, g2, g3, g4, g5, g6⟩ := ih2 f2 h2 b3' (by rw [e2]; exact (HT.cg kq0.st).cg b2.st) (by rw [b2.2 23 (by omega)]; exact hw) b5 (fun j hj => by rw [smA b2.1 (by omega)]; exact r82 j (by omega)) (by omega)
        refine ⟨h3, ?_, (kq0.tr b2.q).tr g2, g3, g4, fun j h1 h2' => by rw [g5 j h1 h2', smA b2.1 (by omega), gA_sAn (by omega)], fun j hj => by rw [g6 j hj, b3', eA]; exact wiS_f HV (by omega)⟩
        rw [kst f h eA, k_stin X (d + 8) tx tu gu tl _ (by omega) i 0 f (by omega) (fun j _ h2 => by rw [r82 j (by omega), r82 i (Nat.le_refl _)]; exact hno j (by omega)) (by omega), Nat.zero_add, hf2, e_X11_still_53, if_pos (nI_le (Nat.le_refl _) (by omega)), b1, bV_s, nI_1, g1]
theorem op_still {n t k : Nat} {TT : Nat → TXT} (h : DT) (H : RA h (gA h 73) n t k) (HL : LR h t TT) (x1 x2 : Int32) : OpA X tx tu gu tl h n t k 119 [vP (some 0), vI x1, vI x2] 260 [vP (some 72), vI x1, vI x2] := by
  obtain ⟨hI, hX⟩ := id H
  obtain ⟨a0, hn, x0⟩ := H.p
  obtain ⟨hT, hN1, hN2, hw⟩ := HL
  have ht4 := hI.t.2.1
  by_cases hv : -9 ≤ x1 ∧ x1 ≤ 9
  · have hd := in_dec hv
    obtain ⟨h1, a1, a2, a3⟩ := x_copyd X 98 tx tu gu tl h hI.rv hX.1
    have s1 : smX (fun c => 31 ≤ c ∧ c ≤ 36) h (sF h1 31 2 x1) := a2.tr (smX_sF (by omega))
    have xl1 : smX isXl h (sF h1 31 2 x1) := s1.mo fun c hc => by unfold isXl isXa; omega
    have f9 : ∀ c, 1 ≤ c → c ≤ 15 → gF (sF h1 31 2 x1) c = gF h c ∧ gA (sF h1 31 2 x1) c = gA h c := fun c h1 h2 => ⟨smF s1 (by omega), smA s1 (by omega)⟩
    have hT1 : ∀ j, j < t → TxR (sF h1 31 2 x1) j (TT j) := fun j hj => (hT j hj).cg (by omega) (xl_T xl1)
    have e90 : (gF (sF h1 31 2 x1) 9 0).toNatClampNeg = t := by rw [(f9 9 (by omega) (by omega)).1, hX.2.2.1, hI.t.1, clI (by omega)]
    have HV := hI.rv.wi hv
    obtain ⟨v, ih1, ih2⟩ := st_loop X 91 tx tu gu tl (n := n) (o := rulL (gA h 73 2) TT) (a := gA h 73 2) (cy := x2) (A0 := upd (gA h 73) 9 x1) HV 201 0 (by omega) (fun j1 j2 _ h2 => by omega)
    obtain ⟨h2, b1, b2, b3⟩ := ih1 999997 (sF h1 31 2 x1) (gA h 73) a3.w (by rw [e90]; exact hI.t) (hX.2.2.cg fun c h1 h2 => f9 c (by omega) (by omega)) rfl (rul_S hI.t hT1) (fun k hk => by rw [smA s1 (by omega)]; exact hN1 k hk) (fun j hj => by omega) (by omega)
    have xl2 : smX isXl (sF h1 31 2 x1) h2 := b2.mo fun c hc => by unfold isPs at hc; unfold isXl isXa; omega
    have xl := xl1.tr xl2
    obtain ⟨h3, c1, c2, c3, c4, c5, c6, c7⟩ := k_aside X 98 tx tu gu tl h2
    have e3 : gA h3 73 = gA h 73 := c5.trans (sl73 xl)
    have e3' : gA (wA h3 73 (upd (gA h 73) 9 x1)) 73 = upd (gA h 73) 9 x1 := gA_wA' _ _ _
    have kw : KS h3 (wA h3 73 (upd (gA h 73) 9 x1)) := KS_w
    obtain ⟨h5, g1, g2, g3, g4, g5, g6⟩ := ih2 999997 (wA h3 73 (upd (gA h 73) 9 x1)) e3' (by rw [e3', pk_un (by omega)]; exact rul_K hI.t (fun j hj => ((((hT1 j hj).cg (by omega) (xl_T xl2)).cg (by omega) c2.st)).cg (by omega) kw.st)) c3 (fun k hk => by rw [gA_wA, if_neg (by omega), c6]; exact sl78 xl hN2 k hk) (fun j hj => by omega) (by omega)
    rw [e3'] at g6
    have e73 : gA h5 73 = gA h 73 := by
      funext i
      by_cases g : 7 ≤ i ∧ i < 22
      · rw [g5 i g.1 g.2, gA_wA, if_neg (by omega), c7 i g.1 g.2, sl73 xl]
      · rw [g6 i g, pk_un (by omega)]
    refine ⟨vI v, h2, h5, n, k, ?_, ?_, xl, ((c2.tr kw.q).tr g2).ms (by rw [g3, sl72 xl, hw]), ?_, fun _ => b3, fun _ => g4⟩
    · rw [c_X10_still, e_X10_still_0, x_isSlant, hd, bz_t, bI_s, e_X10_still_4, if_neg one0, a1, bV_s, e_X10_still_20]
      exact b1
    · rw [c_X11_still, e_X11_still_0, k_isSteep, hd, bz_t, bI_s, e_X11_still_4, if_neg one0, c1, bV_s, e_X11_still_13, sA_w, e3]
      exact g1
    · rw [e73]
      exact ⟨hI, XA.cg hX fun c h1' h2' => ⟨(smF b2 (by unfold isPs; omega)).trans (f9 c h1' h2').1, (smA b2 (by unfold isPs; omega)).trans (f9 c h1' h2').2⟩⟩
  · have hd := in_decf hv
    refine OpA_id (v := vI (-1)) H ?_ ?_
    · rw [c_X10_still, e_X10_still_0, x_isSlant, hd, bz_f, bI_s, e_X10_still_4, if_pos rfl]
    · rw [c_X11_still, e_X11_still_0, k_isSteep, hd, bz_f, bI_s, e_X11_still_4, if_pos rfl]
end RI
