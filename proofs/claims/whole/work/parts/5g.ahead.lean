/-! WHAT COMES: foretold, upright, still -/
theorem lnSt_f {o : Option Cd} {n s : Nat} {A : Nat → Int32} (H : RV A n) (hs : s < n) {i : Nat} (h1 : ¬ (12 ≤ i ∧ i < 17)) : (lnSt o n false A s).1 i = A i := by
  have hn := H.1.2.1
  obtain ⟨p, hp, e⟩ := H.at hs
  unfold lnSt
  rw [e, clI (by omega)]
  cases Nat.testBit (A 10).toNatClampNeg s with
  | true => rfl
  | false =>
    show (if lnV o A n p = 0 ∧ A (12 + p) ≠ 0 then (upd A (12 + p) (zI (lnV o A n p)), 1) else (upd A (12 + p) (zI (lnV o A n p)), 0)).1 i = A i
    by_cases g : lnV o A n p = 0 ∧ A (12 + p) ≠ 0
    · rw [if_pos g]; exact pk_un (by omega)
    · rw [if_neg g]; exact pk_un (by omega)
theorem lnI_f {o : Option Cd} {n i : Nat} (h1 : ¬ (12 ≤ i ∧ i < 17)) : ∀ (c s : Nat) (A : Nat → Int32), s + c ≤ n → RV A n → (lnI o n false c s A).1 i = A i
  | 0, s, A, hs, H => rfl
  | c + 1, s, A, hs, H => (lnI_f h1 c (s + 1) _ (by omega) (lnSt_rv H (by omega))).trans (lnSt_f H (by omega) h1)
theorem pasF_f {o : Option Cd} {n : Nat} {A : Nat → Int32} {x y i : Nat} (H : RV A n) (h1 : ¬ (7 ≤ i ∧ i < 17)) : pasF o n false A x y i = A i := by
  unfold pasF
  rw [pk_un (by omega), lnI_f (by omega) n 0 _ (by omega) H.dr, drwF_o (by omega) (by omega)]
/-- a year that can pass, not written -/
def foS (o : Option Cd) (n : Nat) (A : Nat → Int32) : Nat → Int32 := if yOf A < 9999 then pasF o n false A (xOf A) (yOf A) else A
def foI (o : Option Cd) (n : Nat) : Nat → (Nat → Int32) → Nat → Int32
  | 0, A => A
  | c + 1, A => foI o n c (foS o n A)
theorem foS_rv {o : Option Cd} {n : Nat} {A : Nat → Int32} (H : RV A n) : RV (foS o n A) n := by
  unfold foS
  by_cases g : yOf A < 9999
  · rw [if_pos g]; exact H.pa g
  · rw [if_neg g]; exact H
theorem foS_f {o : Option Cd} {n : Nat} {A : Nat → Int32} (H : RV A n) {i : Nat} (h1 : ¬ (7 ≤ i ∧ i < 17)) : foS o n A i = A i := by
  unfold foS
  by_cases g : yOf A < 9999
  · rw [if_pos g]; exact pasF_f H h1
  · rw [if_neg g]
theorem foI_fx {o : Option Cd} {n : Nat} {A : Nat → Int32} (g : ¬ yOf A < 9999) : ∀ c, foI o n c A = A
  | 0 => rfl
  | c + 1 => by
    show foI o n c (foS o n A) = A
    have : foS o n A = A := by unfold foS; rw [if_neg g]
    rw [this]
    exact foI_fx g c
theorem foI_f {o : Option Cd} {n i : Nat} (h1 : ¬ (7 ≤ i ∧ i < 17)) : ∀ (c : Nat) (A : Nat → Int32), RV A n → foI o n c A i = A i
  | 0, A, H => rfl
  | c + 1, A, H => (foI_f h1 c _ (foS_rv H)).trans (foS_f H h1)
theorem foI_rv {o : Option Cd} {n : Nat} : ∀ (c : Nat) (A : Nat → Int32), RV A n → RV (foI o n c A) n
  | 0, A, H => H
  | c + 1, A, H => foI_rv c _ (foS_rv H)
/-- years of one wind -/
def wiS (o : Option Cd) (n : Nat) (A : Nat → Int32) : Nat → Int32 := (lnI o n false n 0 A).1
def wiI (o : Option Cd) (n : Nat) : Nat → (Nat → Int32) → Nat → Int32
  | 0, A => A
  | c + 1, A => wiS o n (wiI o n c A)
theorem wiS_rv {o : Option Cd} {n : Nat} {A : Nat → Int32} (H : RV A n) : RV (wiS o n A) n := lnI_rv n 0 A (by omega) H
theorem wiI_rv {o : Option Cd} {n : Nat} : ∀ (c : Nat) (A : Nat → Int32), RV A n → RV (wiI o n c A) n
  | 0, A, H => H
  | c + 1, A, H => wiS_rv (wiI_rv c A H)
theorem wiS_f {o : Option Cd} {n i : Nat} {A : Nat → Int32} (H : RV A n) (h1 : ¬ (12 ≤ i ∧ i < 17)) : wiS o n A i = A i := lnI_f h1 n 0 A (by omega) H
theorem wiI_f {o : Option Cd} {n i : Nat} (h1 : ¬ (12 ≤ i ∧ i < 17)) : ∀ (c : Nat) (A : Nat → Int32), RV A n → wiI o n c A i = A i
  | 0, A, H => rfl
  | c + 1, A, H => (wiS_f (wiI_rv c A H) h1).trans (wiI_f h1 c A H)
theorem RV.wi {A : Nat → Int32} {n : Nat} {w : Int32} (H : RV A n) (hw : stp9 w) : RV (upd A 9 w) n := by
  refine ⟨H.1.cg (pk_un (by omega)) (fun i _ _ => pk_un (by omega)), ?_⟩
  obtain ⟨r0, r1, r2, r3, r4, r5, r6, r7, r8, r9⟩ := H.2
  refine ⟨r0, ?_, ?_, by rw [show 7 + 2 = 9 from rfl, pk_us]; exact hw, ?_, ?_, fun i hi => ?_, fun i hi1 hi => ?_, fun s hs => ?_, fun p hp => ?_⟩
  · rw [pk_un (by omega)]; exact r1
  · rw [pk_un (by omega)]; exact r2
  · rw [pk_un (by omega)]; exact r4
  · rw [pk_un (by omega)]; exact r5
  · rw [pk_un (by omega)]; exact r6 i hi
  · rw [pk_un (by omega), pk_un (by omega)]; exact r7 i hi1 hi
  · rw [pk_un (by omega)]; exact r8 s hs
  · obtain ⟨s, hs, e2⟩ := r9 p hp
    exact ⟨s, hs, by rw [pk_un (by omega)]; exact e2⟩
/-- the reference's cells, of which its image, texts and tape stay -/
def KQ (h h' : DT) : Prop := smX (fun c => 72 ≤ c ∧ c ≤ 94 ∧ c ≠ 74 ∧ c ≠ 75 ∧ c ≠ 76) h h' ∧ ∀ k, k ≠ 24 → k ≠ 23 → gF h' 72 k = gF h 72 k
theorem KQ.tr {a b c : DT} (p : KQ a b) (q : KQ b c) : KQ a c := ⟨p.1.tr q.1, fun k h1 h2 => (q.2 k h1 h2).trans (p.2 k h1 h2)⟩
theorem KS.q {h h' : DT} (H : KS h h') : KQ h h' := ⟨H.1.mo fun c hc => by omega, fun k h1 _ => H.2 k h1⟩
theorem KQ.ms {h h' : DT} (H : KQ h h') (hf : gF h' 72 23 = gF h 72 23) : mSame h h' := ⟨H.1.mo (fun c hc => by omega), smA H.1 (by omega), smA H.1 (by omega), smA H.1 (by omega), H.2 4 (by omega) (by omega), H.2 5 (by omega) (by omega), H.2 6 (by omega) (by omega), hf⟩
theorem KQ.st {h h' : DT} (H : KQ h h') : smT h h' := smT_of H.1 (by omega) (fun c _ _ => by omega)
theorem KQ_A {h : DT} {c k : Nat} {v : Int32} (hc : 77 ≤ c ∧ c ≤ 94) : KQ h (sA h c k v) := ⟨smX_sA (by omega), fun k _ _ => rfl⟩
section AH
variable (X : XS) (d : Nat) (tx tu gu : Option Nat) (tl : List SC)
theorem x_copyd (h : DT) {A : Nat → Int32} {n : Nat} (H : RV A n) (HX : XRow h 1 A) : ∃ h1, cal X (d + 1) 74 [vP (some 31), vP (some 1)] (SK tx tu gu tl, h) = some (none, (SK tx tu gu tl, h1)) ∧ smX (fun c => 31 ≤ c ∧ c ≤ 36) h h1 ∧ XQ false h1 31 A := by
  obtain ⟨b, hb, eb⟩ := H.bk
  obtain ⟨r0, r1, r2, r3, r4, r5, r6, r7, r8, r9, r10⟩ := HX
  refine ⟨_, by rw [c_X5_copya, e_X5_copya_0], ?_, ⟨?_, ?_, ?_, ?_, ?_, fun i hi => ?_, fun i hi => ?_, fun i hi => ?_⟩, b, hb, ?_, fun hw => by cases hw⟩
  · exact ((((((((((smX_sF (S := fun c => 31 ≤ c ∧ c ≤ 36) (by omega)).tr (smX_sF (by omega))).tr (smX_sF (by omega))).tr (smX_sF (by omega))).tr (smX_sF (by omega))).tr (smX_sF (by omega))).tr (smX_yA (by omega))).tr (smX_yA (by omega))).tr (smX_yA (by omega))).tr (smX_yA (by omega))).tr (smX_yA (by omega))
  · simp only [gF_yA, gF_sF]
    rw [if_neg (by omega), if_neg (by omega), if_neg (by omega), if_neg (by omega), if_neg (by omega), if_pos (by simp)]; exact r0
  · simp only [gF_yA, gF_sF]
    rw [if_neg (by omega), if_neg (by omega), if_neg (by omega), if_neg (by omega), if_pos (by simp)]; exact r1
  · simp only [gF_yA, gF_sF]
    rw [if_neg (by omega), if_neg (by omega), if_neg (by omega), if_pos (by simp)]; exact r2
  · simp only [gF_yA, gF_sF]
    rw [if_neg (by omega), if_neg (by omega), if_pos (by simp)]; exact r3
  · simp only [gF_yA, gF_sF]
    rw [if_neg (by omega), if_pos (by simp)]; exact r4
  · rw [gA_yA, if_neg (by omega), gA_yA, if_neg (by omega), gA_yA, if_neg (by omega), gA_yA, if_neg (by omega), gA_yA, if_pos rfl, if_pos (by omega)]
    simp only [gA_sF]
    rw [show 0 + (i - 0) = i by omega]
    exact r6 i hi
  · rw [gA_yA, if_neg (by omega), gA_yA, if_neg (by omega), gA_yA, if_neg (by omega), gA_yA, if_pos rfl, if_pos (by omega), gA_yA, if_neg (by omega)]
    simp only [gA_sF]
    rw [show 0 + (i - 0) = i by omega]
    exact r7 i hi
  · rw [gA_yA, if_neg (by omega), gA_yA, if_pos rfl, if_pos (by omega), gA_yA, if_neg (by omega), gA_yA, if_neg (by omega), gA_yA, if_neg (by omega)]
    simp only [gA_sF]
    rw [show 0 + (i - 0) = i by omega]
    exact r9 i hi
  · simp only [gF_yA, gF_sF]
    rw [if_pos (by simp)]; exact r5.trans eb
theorem k_aside (h : DT) : ∃ h', cal X (d + 1) 256 [vP (some 72)] (SK tx tu gu tl, h) = some (none, (SK tx tu gu tl, h')) ∧ KQ h h' ∧ gF h' 72 23 = 0 ∧ gF h' 72 24 = gF h 72 24 ∧ gA h' 73 = gA h 73 ∧ gA h' 78 = gA h 78 ∧ ∀ i, 7 ≤ i → i < 22 → gA h' 81 i = gA h 73 i := by
  refine ⟨sF (yA h 73 81 7 7 15) 72 23 0, ?_, ⟨(smX_yA (by omega)).tr (smX_sF (by omega)), fun k _ hk => by rw [gF_sF, if_neg (fun g => hk g.2), gF_yA]⟩, by rw [gF_sF, if_pos ⟨rfl, rfl⟩], by rw [gF_sF, if_neg (by omega), gF_yA], ?_, ?_, fun i h1 h2 => ?_⟩
  · rw [c_X11_setAside, e_X11_setAside_0]
    refine cplp (F := fun f i h => m_X11_setAside X d f 3 [(0, vP (some 72)), (1, vI (nI 7 + i))] [] (SK tx tu gu tl, h)) (G := fun f h => some (none, (SK tx tu gu tl, sF h 72 23 0))) (src := 73) (dst := 81) (sp := 7) (dp := 7) (N := 15) (g0 := 0) ?_ ?_ (Or.inl (by omega)) 15 0 999999 h rfl (by omega) (fun f' _ => ?_)
    · intro f h
      show m_X11_setAside X d (f + 1) 3 [(0, vP (some 72)), (1, vI (nI 7 + nI 15))] [] (SK tx tu gu tl, h) = _
      rw [e_X11_setAside_3, if_pos (by decide)]
    · intro f i h hi
      show m_X11_setAside X d (f + 1) 3 [(0, vP (some 72)), (1, vI (nI 7 + nI i))] [] (SK tx tu gu tl, h) = m_X11_setAside X d f 3 [(0, vP (some 72)), (1, vI (nI 7 + nI (i + 1)))] [] _
      rw [e_X11_setAside_3, addI, litI 22, if_neg (nI_ge (by omega) (by omega)), inbI (by omega) (by omega), inbI (by omega) (by omega), nI_1, addI, Nat.add_assoc]
    · rfl
  · funext i
    rw [gA_sF, gA_yA, if_neg (by omega)]
  · funext i
    rw [gA_sF, gA_yA, if_neg (by omega)]
  · rw [gA_sF, gA_yA, if_pos rfl, if_pos (by omega)]
    congr 1
    omega
theorem k_putBack (h : DT) : ∃ h', cal X (d + 1) 257 [vP (some 72)] (SK tx tu gu tl, h) = some (none, (SK tx tu gu tl, h')) ∧ KQ h h' ∧ gF h' 72 23 = 1 ∧ gA h' 78 = gA h 78 ∧ ∀ i, gA h' 73 i = if 7 ≤ i ∧ i < 22 then gA h 81 i else gA h 73 i := by
  refine ⟨sF (yA h 81 73 7 7 15) 72 23 1, ?_, ⟨(smX_yA (by omega)).tr (smX_sF (by omega)), fun k _ hk => by rw [gF_sF, if_neg (fun g => hk g.2), gF_yA]⟩, by rw [gF_sF, if_pos ⟨rfl, rfl⟩], ?_, fun i => ?_⟩
  · rw [c_X11_putBack, e_X11_putBack_0]
    refine cplp (F := fun f i h => m_X11_putBack X d f 3 [(0, vP (some 72)), (1, vI (nI 7 + i))] [] (SK tx tu gu tl, h)) (G := fun f h => some (none, (SK tx tu gu tl, sF h 72 23 1))) (src := 81) (dst := 73) (sp := 7) (dp := 7) (N := 15) (g0 := 0) ?_ ?_ (Or.inl (by omega)) 15 0 999999 h rfl (by omega) (fun f' _ => ?_)
    · intro f h
      show m_X11_putBack X d (f + 1) 3 [(0, vP (some 72)), (1, vI (nI 7 + nI 15))] [] (SK tx tu gu tl, h) = _
      rw [e_X11_putBack_3, if_pos (by decide)]
    · intro f i h hi
      show m_X11_putBack X d (f + 1) 3 [(0, vP (some 72)), (1, vI (nI 7 + nI i))] [] (SK tx tu gu tl, h) = m_X11_putBack X d f 3 [(0, vP (some 72)), (1, vI (nI 7 + nI (i + 1)))] [] _
      rw [e_X11_putBack_3, addI, litI 22, if_neg (nI_ge (by omega) (by omega)), inbI (by omega) (by omega), inbI (by omega) (by omega), nI_1, addI, Nat.add_assoc]
    · rfl
  · funext i
    rw [gA_sF, gA_yA, if_neg (by omega)]
  · rw [gA_sF, gA_yA, if_pos rfl]
    by_cases g : 7 ≤ i ∧ i < 22
    · rw [if_pos (by omega), if_pos g]
      congr 1
      omega
    · rw [if_neg (by omega), if_neg g]
theorem x_fol {n v p : Nat} {o : Option Cd} {a : Int32} (hv : v ≤ 60) (hp : p < n) : ∀ (c i f : Nat) (h : DT) (A B : Nat → Int32), RV A n → XQ false h 31 A → TxtOk B (gF h 9 0).toNatClampNeg → XTold h 9 B → B 2 = a → TxS h (rulP a) o → NmA h 41 → i + c = v → 2 * c + 1 ≤ f → ∃ h1, m_X10_foretold X (d + 5) f 37 [(0, vP (some 0)), (1, vI (nI v)), (2, vI (nI p)), (3, vI (nI i))] [] (SK tx tu gu tl, h) = some (some (vI (foI o n c A (12 + p))), (SK tx tu gu tl, h1)) ∧ smX (isPs 31) h h1 ∧ NmA h1 41
  | 0, i, f, h, A, B, H, HX, HB, HB2, ha, HT, hN, hi, hf => by
    obtain ⟨f, rfl⟩ : ∃ f', f = f' + 1 := ⟨f - 1, by omega⟩
    have hn := H.1.2.1
    refine ⟨h, ?_, smX.rf _ h, hN⟩
    rw [e_X10_foretold_37, if_pos (nI_le (by omega) (by omega)), inbI (by omega) (by omega), show gA h 32 p = A (12 + p) from HX.1.2.2.2.2.2.1 p (by omega)]
    rfl
  | c + 1, i, f, h, A, B, H, HX, HB, HB2, ha, HT, hN, hi, hf => by
    obtain ⟨f, rfl⟩ : ∃ f', f = f' + 1 + 1 := ⟨f - 2, by omega⟩
    have hn := H.1.2.1
    have hx := H.x
    have hy := H.y
    have x3 : gF h 31 3 = nI (yOf A) := HX.1.2.2.2.1.trans hy.1
    rw [e_X10_foretold_37, if_neg (nI_ge (by omega) (by omega)), x3, litI 9999]
    by_cases g : yOf A < 9999
    · obtain ⟨h1, b1, b2, b3, b4⟩ := x_pass X d tx tu gu tl (n := n) (wr := false) (Or.inr rfl) h H HX HT hN hx.1 (by omega) hy.1 g
      have f9 : ∀ c, 9 ≤ c → c ≤ 15 → gF h1 c = gF h c ∧ gA h1 c = gA h c := fun c h1 h2 => ⟨smF b2 (by unfold isPs; omega), smA b2 (by unfold isPs; omega)⟩
      have eS : foS o n A = pasF o n false A (xOf A) (yOf A) := by unfold foS; rw [if_pos g]
      obtain ⟨h2, g1, g2, g3⟩ := x_fol hv hp c (i + 1) f h1 (foS o n A) B (foS_rv H) (by rw [eS]; exact b3) (by rw [(f9 9 (by omega) (by omega)).1]; exact HB) (HB2.cg fun c h1 h2 => f9 c h1 h2) ha (HT.cg (smT_of b2 (by unfold isPs; omega) (fun c _ _ => by unfold isPs; omega))) b4 (by omega) (by omega)
      refine ⟨h2, ?_, b2.tr g2, g3⟩
      have e5 : m_X10_foretold X (d + 5) (f + 1) 67 [(0, vP (some 0)), (1, vI (nI v)), (2, vI (nI p)), (3, vI (nI i))] [vP (rulP a), vP (some 31), vP (some 40)] (SK tx tu gu tl, h) = bI (cal X (d + 5) 6 [vP (some 40), vP (some 31), vP (rulP a), vI 1] (SK tx tu gu tl, h)) fun r1 H1 => m_X10_foretold X (d + 5) f 37 [(0, vP (some 0)), (1, vI (nI v)), (2, vI (nI p)), (3, vI (nI i + 1))] [] H1 := by
        rcases HT.tp with q' | ⟨t', ht', q'⟩
        · rw [q']; exact e_X10_foretold_67 ..
        · rw [q']; exact e_X10_foretold_67_2 (ht := ht') ..
      rw [if_neg (nI_ge (by omega) (by omega)), x_ruling X (d + 2) tx tu gu tl h HB HB2, bP_s, ha, e5, b1, bI_s, nI_1, g1]
      rfl
    · refine ⟨h, ?_, smX.rf _ h, hN⟩
      rw [if_pos (nI_le (by omega) (by omega)), inbI (by omega) (by omega), show gA h 32 p = A (12 + p) from HX.1.2.2.2.2.2.1 p (by omega), foI_fx g]
theorem k_fol {n v p : Nat} {o : Option Cd} (hv : v ≤ 60) (hp : p < n) : ∀ (c i f : Nat) (h : DT), RV (gA h 73) n → KxS h (gA h 73 2) o → gF h 72 23 = 0 → NmA h 78 → i + c = v → c + 1 ≤ f → ∃ h' f', f = f' + c ∧ m_X11_foretold X (d + 9) f 27 [(0, vP (some 72)), (1, vI (nI v)), (2, vI (nI p)), (3, vI (nI i))] [] (SK tx tu gu tl, h) = m_X11_foretold X (d + 9) f' 27 [(0, vP (some 72)), (1, vI (nI v)), (2, vI (nI p)), (3, vI (nI v))] [] (SK tx tu gu tl, h') ∧ KS h h' ∧ gA h' 73 = foI o n c (gA h 73) ∧ NmA h' 78
  | 0, i, f, h, H, HT, hw, hN, hi, hf => by
    obtain rfl : i = v := by omega
    exact ⟨h, f, rfl, rfl, KS.rf h, rfl, hN⟩
  | c + 1, i, f, h, H, HT, hw, hN, hi, hf => by
    obtain ⟨f, rfl⟩ : ∃ f', f = f' + 1 := ⟨f - 1, by omega⟩
    have hn := H.1.2.1
    have hx := H.x
    have hy := H.y
    rw [e_X11_foretold_27, if_neg (nI_ge (by omega) (by omega)), hy.1, litI 9999]
    by_cases g : yOf (gA h 73) < 9999
    · obtain ⟨h1, b1, b2, b3, b4, b5⟩ := k_pass X d tx tu gu tl (n := n) (wr := false) (o := o) h H HT hw hN hx.1 (by omega) hy.1 g
      have eS : foS o n (gA h 73) = pasF o n false (gA h 73) (xOf (gA h 73)) (yOf (gA h 73)) := by unfold foS; rw [if_pos g]
      have b3' : gA h1 73 = foS o n (gA h 73) := by rw [eS]; exact b3
      obtain ⟨h2, f', g0, g1, g2, g3, g4⟩ := k_fol hv hp c (i + 1) f h1 (by rw [b3']; exact foS_rv H) (by rw [b3', foS_f H (by omega)]; exact HT.cg b2.st) (by rw [b2.2 23 (by omega)]; exact hw) b5 (by omega) (by omega)
      refine ⟨h2, f', by omega, ?_, b2.tr g2, by rw [g3, b3']; rfl, g4⟩
      rw [if_neg (nI_ge (by omega) (by omega)), b1, bV_s, nI_1, g1]
    · obtain ⟨h2, f', g0, g1, g2, g3, g4⟩ := k_fol hv hp c (i + 1) f h H HT hw hN (by omega) (by omega)
      refine ⟨h2, f', by omega, ?_, g2, ?_, g4⟩
      · rw [if_pos (nI_le (by omega) (by omega)), nI_1, g1]
      · rw [g3, foI_fx g, foI_fx g]
theorem ps31 {h h1 : DT} (s : smX (isPs 31) h h1) : smX isXl h h1 := s.mo fun c hc => by unfold isPs at hc; unfold isXl isXa; omega
theorem XA.cg {h h1 : DT} {A : Nat → Int32} {k : Nat} (H : XA h A k) (e : ∀ c, 1 ≤ c → c ≤ 15 → gF h1 c = gF h c ∧ gA h1 c = gA h c) : XA h1 A k := ⟨H.1.cg fun c _ _ => e c (by omega) (by omega), H.2.1.cg fun c _ _ => e c (by omega) (by omega), H.2.2.cg fun c _ _ => e c (by omega) (by omega)⟩
theorem op_foretold {n t k : Nat} {TT : Nat → TXT} (h : DT) (H : RA h (gA h 73) n t k) (HL : LR h t TT) (x1 x2 : Int32) : OpA X tx tu gu tl h n t k 118 [vP (some 0), vI x1, vI x2] 258 [vP (some 72), vI x1, vI x2] := by
  obtain ⟨hI, hX⟩ := id H
  obtain ⟨a0, hn, x0⟩ := H.p
  obtain ⟨hT, hN1, hN2, hw⟩ := HL
  have ht4 := hI.t.2.1
  by_cases hv : 1 ≤ x1 ∧ x1 ≤ 60
  · have hd := in_dec hv
    obtain ⟨v, v1, v2, rfl⟩ := in_nI1 (m := 60) hv.1 hv.2 (by omega)
    rcases per_cs x2 (n := n) (by omega) with ⟨p, hp, rfl⟩ | hx
    · obtain ⟨h1, a1, a2, a3⟩ := x_copyd X 98 tx tu gu tl h hI.rv hX.1
      have xl1 : smX isXl h h1 := a2.mo fun c hc => by unfold isXl isXa; omega
      have f9 : ∀ c, 1 ≤ c → c ≤ 15 → gF h1 c = gF h c ∧ gA h1 c = gA h c := fun c h1 h2 => ⟨smF a2 (by omega), smA a2 (by omega)⟩
      have hT1 : ∀ j, j < t → TxR h1 j (TT j) := fun j hj => (hT j hj).cg (by omega) (xl_T xl1)
      have e90 : (gF h1 9 0).toNatClampNeg = t := by rw [(f9 9 (by omega) (by omega)).1, hX.2.2.1, hI.t.1, clI (by omega)]
      obtain ⟨h2, b1, b2, b3⟩ := x_fol X 94 tx tu gu tl (n := n) (v := v) (p := p) (o := rulL (gA h 73 2) TT) (a := gA h 73 2) v2 hp v 0 999997 h1 (gA h 73) (gA h 73) hI.rv a3 (by rw [e90]; exact hI.t) (hX.2.2.cg fun c h1 h2 => f9 c (by omega) (by omega)) rfl (rul_S hI.t hT1) (fun k hk => by rw [smA a2 (by omega)]; exact hN1 k hk) (by omega) (by omega)
      have xl := xl1.tr (ps31 b2)
      obtain ⟨h3, c1, c2, c3, c4, c5, c6, c7⟩ := k_aside X 98 tx tu gu tl h2
      have e3 : gA h3 73 = gA h 73 := c5.trans (sl73 xl)
      obtain ⟨h4, f', g0, g1, g2, g3, g4⟩ := k_fol X 90 tx tu gu tl (n := n) (v := v) (p := p) (o := rulL (gA h 73 2) TT) v2 hp v 0 999997 h3 (by rw [e3]; exact hI.rv) (by rw [e3]; exact rul_K hI.t (fun j hj => (((hT1 j hj).cg (by omega) (xl_T (ps31 b2))).cg (by omega) c2.st))) c3 (fun k hk => by rw [c6]; exact sl78 xl hN2 k hk) (by omega) (by omega)
      rw [e3] at g3
      obtain ⟨h5, q1, q2, q3, q4, q5⟩ := k_putBack X 98 tx tu gu tl h4
      have e73 : gA h5 73 = gA h 73 := by
        funext i
        rw [q5 i, g3]
        by_cases g : 7 ≤ i ∧ i < 22
        · rw [if_pos g, smA g2.1 (by omega), c7 i g.1 g.2, sl73 xl]
        · rw [if_neg g, foI_f (by omega) v _ hI.rv]
      obtain ⟨f', rfl⟩ : ∃ g, f' = g + 1 := ⟨f' - 1, by omega⟩
      refine ⟨vI (foI (rulL (gA h 73 2) TT) n v (gA h 73) (12 + p)), h2, h5, n, k, ?_, ?_, xl, ((c2.tr g2.q).tr q2).ms (by rw [q3, sl72 xl, hw]), ?_, fun _ => b3, fun _ k hk => by rw [q4]; exact g4 k hk⟩
      · rw [c_X10_foretold, e_X10_foretold_0, x_within, hd, bz_t, bI_s, e_X10_foretold_7, if_neg one0, x_has_t X _ tx tu gu tl h (Or.inl rfl) x0 hn hp, bI_s, e_X10_foretold_18, if_neg one0, a1, bV_s]
        exact b1
      · have a0' : gA h2 73 0 = nI n := by rw [sl73 xl]; exact a0
        rw [c_X11_foretold, e_X11_foretold_0, k_isIn, hd, bz_t, bI_s, e_X11_foretold_7, if_neg one0, k_per_t X _ tx tu gu tl h2 a0' hn hp, bI_s, e_X11_foretold_15, if_neg one0, c1, bV_s]
        refine g1.trans ?_
        rw [e_X11_foretold_27, if_pos (nI_le (Nat.le_refl _) (by omega)), litI 12, addI, inbI (by omega) (by omega), q1, bV_s, g3]
      · rw [e73]
        exact ⟨hI, XA.cg hX fun c h1' h2' => ⟨(smF b2 (by unfold isPs; omega)).trans (f9 c h1' h2').1, (smA b2 (by unfold isPs; omega)).trans (f9 c h1' h2').2⟩⟩
    · refine OpA_id (v := vI (-100)) H ?_ ?_
      · rw [c_X10_foretold, e_X10_foretold_0, x_within, hd, bz_t, bI_s, e_X10_foretold_7, if_neg one0, x_has_f X _ tx tu gu tl h (Or.inl rfl) x0 hx, bI_s, e_X10_foretold_18, if_pos rfl]
      · rw [c_X11_foretold, e_X11_foretold_0, k_isIn, hd, bz_t, bI_s, e_X11_foretold_7, if_neg one0, k_per_f X _ tx tu gu tl h a0 hn hx, bI_s, e_X11_foretold_15, if_pos rfl]
  · have hd := in_decf hv
    refine OpA_id (v := vI (-100)) H ?_ ?_
    · rw [c_X10_foretold, e_X10_foretold_0, x_within, hd, bz_f, bI_s, e_X10_foretold_7, if_pos rfl]
    · rw [c_X11_foretold, e_X11_foretold_0, k_isIn, hd, bz_f, bI_s, e_X11_foretold_7, if_pos rfl]
end AH
