/-! UPRIGHT and STILL -/
theorem XQ.w {h : DT} {q : Nat} {A : Nat → Int32} {w : Int32} (H : XQ false h q A) : XQ false (sF h q 2 w) q (upd A 9 w) := by
  obtain ⟨⟨r0, r1, r2, r3, r4, r5, r6, r7⟩, b, hb, e5, g⟩ := H
  refine ⟨⟨?_, ?_, ?_, ?_, ?_, fun i hi => ?_, fun i hi => ?_, fun i hi => ?_⟩, b, hb, by rw [gF_sF, if_neg (by omega)]; exact e5, fun hw => by cases hw⟩
  · rw [gF_sF, if_neg (by omega), pk_un (by omega)]; exact r0
  · rw [gF_sF, if_neg (by omega), pk_un (by omega)]; exact r1
  · rw [gF_sF, if_pos ⟨rfl, rfl⟩, pk_us]
  · rw [gF_sF, if_neg (by omega), pk_un (by omega)]; exact r3
  · rw [gF_sF, if_neg (by omega), pk_un (by omega)]; exact r4
  · rw [gA_sF, pk_un (by omega)]; exact r5 i hi
  · rw [gA_sF, pk_un (by omega)]; exact r6 i hi
  · rw [gA_sF, pk_un (by omega)]; exact r7 i hi
def upV (o : Option Cd) (n p : Nat) : Nat → Nat → (Nat → Int32) → Int32
  | 0, _, _ => -1
  | c + 1, i, A => if A (12 + p) = 0 then nI i else upV o n p c (i + 1) (wiS o n A)
def scd (A : Nat → Int32) : Nat → Nat → Int32 → Int32
  | 0, _, a => a
  | c + 1, p, a => scd A c (p + 1) (a * 19 + A (12 + p) + 9)
section ST
variable (X : XS) (d : Nat) (tx tu gu : Option Nat) (tl : List SC)
theorem x_upl {n p : Nat} {o : Option Cd} {a : Int32} (hp : p < n) : ∀ (c i f : Nat) (h : DT) (A B : Nat → Int32), RV A n → XQ false h 31 A → TxtOk B (gF h 9 0).toNatClampNeg → XTold h 9 B → B 2 = a → TxS h (rulP a) o → NmA h 41 → i + c = 61 → 2 * c + 1 ≤ f → ∃ h1, m_X10_upright X (d + 5) f 41 [(0, vP (some 0)), (1, vI (nI p)), (3, vI (nI i))] [] (SK tx tu gu tl, h) = some (some (vI (upV o n p c i A)), (SK tx tu gu tl, h1)) ∧ smX (isPs 31) h h1 ∧ NmA h1 41
  | 0, i, f, h, A, B, H, HX, HB, HB2, ha, HT, hN, hi, hf => by
    obtain ⟨f, rfl⟩ : ∃ f', f = f' + 1 := ⟨f - 1, by omega⟩
    refine ⟨h, ?_, smX.rf _ h, hN⟩
    rw [e_X10_upright_41, litI 60, if_pos (nI_lt (by omega) (by omega))]
    rfl
  | c + 1, i, f, h, A, B, H, HX, HB, HB2, ha, HT, hN, hi, hf => by
    obtain ⟨f, rfl⟩ : ∃ f', f = f' + 1 + 1 := ⟨f - 2, by omega⟩
    have hn := H.1.2.1
    have xs : gA h 32 p = A (12 + p) := HX.1.2.2.2.2.2.1 p (by omega)
    rw [e_X10_upright_41, litI 60, if_neg (nI_nlt (by omega) (by omega)), inbI (by omega) (by omega), xs]
    show ∃ h1, _ = some (some (vI (if A (12 + p) = 0 then nI i else upV o n p c (i + 1) (wiS o n A))), (SK tx tu gu tl, h1)) ∧ _
    by_cases g : A (12 + p) = 0
    · refine ⟨h, ?_, smX.rf _ h, hN⟩
      rw [if_pos g, if_pos g]
    · obtain ⟨h1, b1, b2, b3, b4⟩ := x_lall X d tx tu gu tl (n := n) (wr := false) (Or.inr rfl) h H HX HT hN
      have f9 : ∀ c, 9 ≤ c → c ≤ 15 → gF h1 c = gF h c ∧ gA h1 c = gA h c := fun c h1 h2 => ⟨smF b2 (by unfold isPs; omega), smA b2 (by unfold isPs; omega)⟩
      obtain ⟨h2, g1, g2, g3⟩ := x_upl hp c (i + 1) f h1 (wiS o n A) B (wiS_rv H) b3 (by rw [(f9 9 (by omega) (by omega)).1]; exact HB) (HB2.cg fun c h1 h2 => f9 c h1 h2) ha (HT.cg (smT_of b2 (by unfold isPs; omega) (fun c _ _ => by unfold isPs; omega))) b4 (by omega) (by omega)
      refine ⟨h2, ?_, b2.tr g2, g3⟩
      have e5 : m_X10_upright X (d + 5) (f + 1) 73 [(0, vP (some 0)), (1, vI (nI p)), (3, vI (nI i))] [vP (rulP a), vP (some 31), vP (some 40)] (SK tx tu gu tl, h) = bI (cal X (d + 5) 6 [vP (some 40), vP (some 31), vP (rulP a), vI 0] (SK tx tu gu tl, h)) fun r1 H1 => m_X10_upright X (d + 5) f 41 [(0, vP (some 0)), (1, vI (nI p)), (3, vI (nI i + 1))] [] H1 := by
        rcases HT.tp with q' | ⟨t', ht', q'⟩
        · rw [q']; exact e_X10_upright_73 ..
        · rw [q']; exact e_X10_upright_73_2 (ht := ht') ..
      rw [if_neg g, if_neg g, x_ruling X (d + 2) tx tu gu tl h HB HB2, bP_s, ha, e5, b1, bI_s, nI_1, g1]
theorem k_upl {n p : Nat} {o : Option Cd} (hp : p < n) : ∀ (c i f : Nat) (h : DT), RV (gA h 73) n → KxS h (gA h 73 2) o → gF h 72 23 = 0 → NmA h 78 → i + c = 61 → c + 1 ≤ f → ∃ h', m_X11_upright X (d + 8) f 31 [(0, vP (some 72)), (1, vI (nI p)), (3, vI (nI i))] [] (SK tx tu gu tl, h) = some (some (vI (upV o n p c i (gA h 73))), (SK tx tu gu tl, h')) ∧ KQ h h' ∧ gF h' 72 23 = 1 ∧ NmA h' 78 ∧ (∀ j, 7 ≤ j → j < 22 → gA h' 73 j = gA h 81 j) ∧ ∀ j, ¬ (7 ≤ j ∧ j < 22) → gA h' 73 j = gA h 73 j
  | 0, i, f, h, H, HT, hw, hN, hi, hf => by
    obtain ⟨f, rfl⟩ : ∃ f', f = f' + 1 := ⟨f - 1, by omega⟩
    obtain ⟨h5, q1, q2, q3, q4, q5⟩ := k_putBack X (d + 7) tx tu gu tl h
    refine ⟨h5, ?_, q2, q3, fun k hk => by rw [q4]; exact hN k hk, fun j h1 h2 => by rw [q5 j, if_pos ⟨h1, h2⟩], fun j hj => by rw [q5 j, if_neg hj]⟩
    rw [e_X11_upright_31, litI 60, if_pos (nI_lt (by omega) (by omega)), q1, bV_s, if_neg (nI_ge (by omega) (by omega))]
    rfl
  | c + 1, i, f, h, H, HT, hw, hN, hi, hf => by
    obtain ⟨f, rfl⟩ : ∃ f', f = f' + 1 := ⟨f - 1, by omega⟩
    have hn := H.1.2.1
    rw [e_X11_upright_31, litI 60, if_neg (nI_nlt (by omega) (by omega)), litI 12, addI, inbI (by omega) (by omega)]
    show ∃ h1, _ = some (some (vI (if gA h 73 (12 + p) = 0 then nI i else upV o n p c (i + 1) (wiS o n (gA h 73)))), (SK tx tu gu tl, h1)) ∧ _
    by_cases g : gA h 73 (12 + p) = 0
    · obtain ⟨h5, q1, q2, q3, q4, q5⟩ := k_putBack X (d + 7) tx tu gu tl h
      refine ⟨h5, ?_, q2, q3, fun k hk => by rw [q4]; exact hN k hk, fun j h1 h2 => by rw [q5 j, if_pos ⟨h1, h2⟩], fun j hj => by rw [q5 j, if_neg hj]⟩
      rw [if_pos g, if_pos g, q1, bV_s, if_pos (nI_le (by omega) (by omega))]
    · obtain ⟨h1, b1, b2, b3, b4, b5⟩ := k_leanAll X d tx tu gu tl (n := n) (wr := false) (o := o) h H HT hw hN
      have b3' : gA h1 73 = wiS o n (gA h 73) := b3
      obtain ⟨h2, g1, g2, g3, g4, g5, g6⟩ := k_upl hp c (i + 1) f h1 (by rw [b3']; exact wiS_rv H) (by rw [b3', wiS_f H (by omega)]; exact HT.cg b2.st) (by rw [b2.2 23 (by omega)]; exact hw) b5 (by omega) (by omega)
      refine ⟨h2, ?_, b2.q.tr g2, g3, g4, fun j h1' h2' => by rw [g5 j h1' h2', smA b2.1 (by omega)], fun j hj => by rw [g6 j hj, b3', wiS_f H (by omega)]⟩
      rw [if_neg g, if_neg g, b1, bV_s, nI_1, g1, b3']
theorem op_upright {n t k : Nat} {TT : Nat → TXT} (h : DT) (H : RA h (gA h 73) n t k) (HL : LR h t TT) (x1 x2 : Int32) : OpA X tx tu gu tl h n t k 120 [vP (some 0), vI x1, vI x2] 261 [vP (some 72), vI x1, vI x2] := by
  obtain ⟨hI, hX⟩ := id H
  obtain ⟨a0, hn, x0⟩ := H.p
  obtain ⟨hT, hN1, hN2, hw⟩ := HL
  have ht4 := hI.t.2.1
  rcases per_cs x1 (n := n) (by omega) with ⟨p, hp, rfl⟩ | hx
  · by_cases hv : -9 ≤ x2 ∧ x2 ≤ 9
    · have hd := in_dec hv
      obtain ⟨h1, a1, a2, a3⟩ := x_copyd X 98 tx tu gu tl h hI.rv hX.1
      have s1 : smX (fun c => 31 ≤ c ∧ c ≤ 36) h (sF h1 31 2 x2) := a2.tr (smX_sF (by omega))
      have xl1 : smX isXl h (sF h1 31 2 x2) := s1.mo fun c hc => by unfold isXl isXa; omega
      have f9 : ∀ c, 1 ≤ c → c ≤ 15 → gF (sF h1 31 2 x2) c = gF h c ∧ gA (sF h1 31 2 x2) c = gA h c := fun c h1 h2 => ⟨smF s1 (by omega), smA s1 (by omega)⟩
      have hT1 : ∀ j, j < t → TxR (sF h1 31 2 x2) j (TT j) := fun j hj => (hT j hj).cg (by omega) (xl_T xl1)
      have e90 : (gF (sF h1 31 2 x2) 9 0).toNatClampNeg = t := by rw [(f9 9 (by omega) (by omega)).1, hX.2.2.1, hI.t.1, clI (by omega)]
      have HV := hI.rv.wi hv
      obtain ⟨h2, b1, b2, b3⟩ := x_upl X 94 tx tu gu tl (n := n) (p := p) (o := rulL (gA h 73 2) TT) (a := gA h 73 2) hp 61 0 999997 (sF h1 31 2 x2) (upd (gA h 73) 9 x2) (gA h 73) HV a3.w (by rw [e90]; exact hI.t) (hX.2.2.cg fun c h1 h2 => f9 c (by omega) (by omega)) rfl (rul_S hI.t hT1) (fun k hk => by rw [smA s1 (by omega)]; exact hN1 k hk) (by omega) (by omega)
      have xl := xl1.tr (ps31 b2)
      obtain ⟨h3, c1, c2, c3, c4, c5, c6, c7⟩ := k_aside X 98 tx tu gu tl h2
      have e3 : gA h3 73 = gA h 73 := c5.trans (sl73 xl)
      have e3' : gA (wA h3 73 (upd (gA h 73) 9 x2)) 73 = upd (gA h 73) 9 x2 := gA_wA' _ _ _
      have kw : KS h3 (wA h3 73 (upd (gA h 73) 9 x2)) := KS_w
      obtain ⟨h5, g1, g2, g3, g4, g5, g6⟩ := k_upl X 91 tx tu gu tl (n := n) (p := p) (o := rulL (gA h 73 2) TT) hp 61 0 999997 (wA h3 73 (upd (gA h 73) 9 x2)) (by rw [e3']; exact HV) (by rw [e3', pk_un (by omega)]; exact rul_K hI.t (fun j hj => ((((hT1 j hj).cg (by omega) (xl_T (ps31 b2))).cg (by omega) c2.st)).cg (by omega) kw.st)) c3 (fun k hk => by rw [gA_wA, if_neg (by omega), c6]; exact sl78 xl hN2 k hk) (by omega) (by omega)
      rw [e3'] at g1 g6
      have e73 : gA h5 73 = gA h 73 := by
        funext i
        by_cases g : 7 ≤ i ∧ i < 22
        · rw [g5 i g.1 g.2, gA_wA, if_neg (by omega), c7 i g.1 g.2, sl73 xl]
        · rw [g6 i g, pk_un (by omega)]
      refine ⟨vI (upV (rulL (gA h 73 2) TT) n p 61 0 (upd (gA h 73) 9 x2)), h2, h5, n, k, ?_, ?_, xl, ((c2.tr kw.q).tr g2).ms (by rw [g3, sl72 xl, hw]), ?_, fun _ => b3, fun _ => g4⟩
      · rw [c_X10_upright, e_X10_upright_0, x_has_t X _ tx tu gu tl h (Or.inl rfl) x0 hn hp, bI_s, if_neg one0, x_isSlant, hd, bz_t, bI_s, e_X10_upright_15, if_neg one0, a1, bV_s, e_X10_upright_31]
        exact b1
      · have a0' : gA h2 73 0 = nI n := by rw [sl73 xl]; exact a0
        rw [c_X11_upright, e_X11_upright_0, k_per_t X _ tx tu gu tl h2 a0' hn hp, bI_s, if_neg one0, k_isSteep, hd, bz_t, bI_s, e_X11_upright_12, if_neg one0, c1, bV_s, e_X11_upright_21, sA_w, e3]
        exact g1
      · rw [e73]
        exact ⟨hI, XA.cg hX fun c h1' h2' => ⟨(smF b2 (by unfold isPs; omega)).trans (f9 c h1' h2').1, (smA b2 (by unfold isPs; omega)).trans (f9 c h1' h2').2⟩⟩
    · have hd := in_decf hv
      refine OpA_id (v := vI (-1)) H ?_ ?_
      · rw [c_X10_upright, e_X10_upright_0, x_has_t X _ tx tu gu tl h (Or.inl rfl) x0 hn hp, bI_s, if_neg one0, x_isSlant, hd, bz_f, bI_s, e_X10_upright_15, if_pos rfl]
      · rw [c_X11_upright, e_X11_upright_0, k_per_t X _ tx tu gu tl h a0 hn hp, bI_s, if_neg one0, k_isSteep, hd, bz_f, bI_s, e_X11_upright_12, if_pos rfl]
  · refine OpA_id (v := vI (-1)) H ?_ ?_
    · rw [c_X10_upright, e_X10_upright_0, x_has_f X _ tx tu gu tl h (Or.inl rfl) x0 hx, bI_s, if_pos rfl]
    · rw [c_X11_upright, e_X11_upright_0, k_per_f X _ tx tu gu tl h a0 hn hx, bI_s, if_pos rfl]
theorem x_packed (h : DT) {n : Nat} {A : Nat → Int32} (H : RV A n) (HX : XR0 h 31 A) : cal X (d + 1) 72 [vP (some 31)] (SK tx tu gu tl, h) = some (some (vI (scd A n 0 0)), (SK tx tu gu tl, h)) := by
  have hn := H.1.2.1
  have x0 : gF h 31 0 = nI n := HX.1.trans H.1.1
  have lp : ∀ (c p f : Nat) (a : Int32), p + c = n → c < f → m_X5_packedSlants X d f 4 [(0, vP (some 31)), (1, vI a), (2, vI (nI p))] [] (SK tx tu gu tl, h) = some (some (vI (scd A c p a)), (SK tx tu gu tl, h)) := by
    intro c
    induction c with
    | zero =>
      intro p f a hp hf
      obtain ⟨f, rfl⟩ := sc hf
      rw [e_X5_packedSlants_4 (hp := Or.inr rfl), x0, if_pos (nI_le (by omega) (by omega))]
      rfl
    | succ c ih =>
      intro p f a hp hf
      obtain ⟨f, rfl⟩ := sc hf
      rw [e_X5_packedSlants_4 (hp := Or.inr rfl), x0, if_neg (nI_ge (by omega) (by omega)), inbI (by omega) (by omega), HX.2.2.2.2.2.1 p (by omega), nI_1]
      exact ih (p + 1) f _ (by omega) (by omega)
  rw [c_X5_packedSlants, e_X5_packedSlants_0 (hp := Or.inr rfl)]
  exact lp n 0 999999 0 (by omega) (by omega)
theorem k_slantCode (h : DT) {n : Nat} (H : RV (gA h 73) n) : cal X (d + 1) 259 [vP (some 72)] (SK tx tu gu tl, h) = some (some (vI (scd (gA h 73) n 0 0)), (SK tx tu gu tl, h)) := by
  have hn := H.1.2.1
  have lp : ∀ (c p f : Nat) (a : Int32), p + c = n → c < f → m_X11_slantCode X d f 4 [(0, vP (some 72)), (1, vI a), (2, vI (nI p))] [] (SK tx tu gu tl, h) = some (some (vI (scd (gA h 73) c p a)), (SK tx tu gu tl, h)) := by
    intro c
    induction c with
    | zero =>
      intro p f a hp hf
      obtain ⟨f, rfl⟩ := sc hf
      rw [e_X11_slantCode_4, H.1.1, if_pos (nI_le (by omega) (by omega))]
      rfl
    | succ c ih =>
      intro p f a hp hf
      obtain ⟨f, rfl⟩ := sc hf
      rw [e_X11_slantCode_4, H.1.1, if_neg (nI_ge (by omega) (by omega)), litI 12, addI, inbI (by omega) (by omega), nI_1, Int32.mul_comm 19 a]
      exact ih (p + 1) f _ (by omega) (by omega)
  rw [c_X11_slantCode, e_X11_slantCode_0]
  exact lp n 0 999999 0 (by omega) (by omega)
end ST
