/-! text, by both -/
theorem LawR.lc {h h' : DT} {j lw : Nat} {cl : List (Nat × Nat × Nat)} {o : Option Cd} (H : LawR h j lw cl o) (h24 : cl.length ≤ 24) (e75 : ∀ x, 681 * j ≤ x → x < 681 * j + 681 → gA h' 75 x = gA h 75 x) (ec : ∀ c, txc j ≤ c → c ≤ txc j + 4 → gF h' c = gF h c ∧ gA h' c = gA h c) : LawR h' j lw cl o := by
  have f := (ec (txc j) (by omega) (by omega)).1
  have g := (ec (txc j + 4) (by omega) (by omega)).2
  cases o with
  | none => exact ⟨H.1, by rw [f]; exact H.2⟩
  | some e =>
    obtain ⟨h0, ⟨k, w0, w1, k1, k2, k3, k4, k5, k6, k7, k8⟩, a, b, w, C, c1, ⟨sz, z1, z2, z3, z4⟩, c3, c4⟩ := H
    exact ⟨h0, ⟨k, w0, w1, k1, k2, k3, by rw [e75 _ (by omega) (by omega)]; exact k4, by rw [e75 _ (by omega) (by omega)]; exact k5, k6, k7, cdA_rg _ e w0 (fun x h1 h2 => e75 x (by omega) (by omega)) k8⟩, a, b, w, C, by rw [f]; exact c1, ⟨sz, z1, by rw [f]; exact z2, fun i hi => by rw [g]; exact z3 i hi, z4⟩, c3, c4⟩
theorem TxR.lc {h h' : DT} {j : Nat} {T : TXT} (H : TxR h j T) (e75 : ∀ x, 681 * j ≤ x → x < 681 * j + 681 → gA h' 75 x = gA h 75 x) (ec : ∀ c, txc j ≤ c → c ≤ txc j + 4 → gF h' c = gF h c ∧ gA h' c = gA h c) : TxR h' j T := by
  obtain ⟨h1, h2, h3, h4, h5, h6⟩ := H
  refine ⟨h1, by rw [e75 _ (by omega) (by omega)]; exact h2, by rw [(ec (txc j) (by omega) (by omega)).1]; exact h3, fun i hi => ?_, h5.lc h1 e75 ec, h6.lc h1 e75 ec⟩
  have := h4 i hi
  unfold ClR at this ⊢
  rw [e75 _ (by omega) (by omega), e75 _ (by omega) (by omega), e75 _ (by omega) (by omega), (ec (txc j + 1) (by omega) (by omega)).2, (ec (txc j + 2) (by omega) (by omega)).2, (ec (txc j + 3) (by omega) (by omega)).2]
  exact this
def cutC (C : Nat → Int) (s : Nat) : Nat → Int := fun i => if i < s then C i else 0
theorem cutC_l {C : Nat → Int} {s i : Nat} (h : i < s) : cutC C s i = C i := by unfold cutC; rw [if_pos h]
theorem cutC_g {C : Nat → Int} {s i : Nat} (h : s ≤ i) : cutC C s i = 0 := by unfold cutC; rw [if_neg (by omega)]
/-- a text that both have read -/
theorem TxR_new {h : DT} {j n0 s : Nat} {T : TXT} {C : Nat → Int} (hx : XTx h (txc j) T s C) (hk : KTx h j T n0) (hN : TNk T) : TxR h j T := by
  obtain ⟨x1, x2, x3, x4, x5, x6⟩ := hx
  obtain ⟨k1, k2, k3, k4, k5, k6, k7, k8, k9⟩ := hk
  have law : ∀ lw o, XLw h (txc j) s C lw o → KLw h j n0 lw T.1 o → (∀ e, o = some e → NOk lw e) → LawR h j lw T.1 o := fun lw o a b c => by
    cases o with
    | none => exact ⟨b, a⟩
    | some e =>
      obtain ⟨a0, b0, w, a1, a2, a3, a4, a5⟩ := a
      obtain ⟨k, w0, w1, b1, b2, b3, b4, b5, b6, b7, b8⟩ := b
      have hs := x4.2.1
      refine ⟨c e rfl, ⟨k, w0, w1, b1, b2, b3, b4, b5, by omega, b7, b8⟩, a0, b0, w, cutC C s, a1, ⟨s, hs, x4.1, fun i hi => ?_, fun i hi => cutC_g hi, fun i => ?_⟩, a2.cg (fun x _ h2 => cutC_l (by omega)), a3, by omega, by rw [cutC_l a4]; exact a5⟩
      · rw [cutC_l hi]
        exact (x4.2.2 i hi).1
      · by_cases g : i < s
        · rw [cutC_l g]
          exact (x4.2.2 i g).2
        · rw [cutC_g (by omega)]
          omega
  refine ⟨x1, k5, x2, fun i hi => ?_, law 0 _ x5 k7 hN.1, law 1 _ x6 k8 hN.2⟩
  obtain ⟨a1, a2, a3⟩ := x3 i hi
  obtain ⟨b1, b2, b3, b4⟩ := k6 i hi
  exact ⟨b1, b2, a1, fun z => ⟨(b3 z).1, a2 z, (b3 z).2⟩, fun z y => ⟨(b4 z y).1, a3 z y, (b4 z y).2⟩⟩
theorem XTx.cg {h h' : DT} {t : Nat} {T : TXT} {s : Nat} {C : Nat → Int} (H : XTx h t T s C) (ec : ∀ c, t ≤ c → c ≤ t + 4 → gF h' c = gF h c ∧ gA h' c = gA h c) : XTx h' t T s C := by
  obtain ⟨x1, x2, x3, x4, x5, x6⟩ := H
  have eF := (ec t (by omega) (by omega)).1
  refine ⟨x1, by rw [eF]; exact x2, fun j hj => ?_, ⟨by rw [eF]; exact x4.1, x4.2.1, by rw [(ec (t + 4) (by omega) (by omega)).2]; exact x4.2.2⟩, x5.cg (by rw [eF]) (Nat.le_refl _) (fun _ _ => rfl), x6.cg (by rw [eF]) (Nat.le_refl _) (fun _ _ => rfl)⟩
  unfold XCl
  rw [(ec (t + 1) (by omega) (by omega)).2, (ec (t + 2) (by omega) (by omega)).2, (ec (t + 3) (by omega) (by omega)).2]
  exact x3 j hj
section TX2
variable (X : XS) (tx tu gu : Option Nat) (tl : List SC)
theorem txc_at : ∀ t, t < 4 → [some 52, some 57, some 62, some 67].getD t none = some (txc t) := by decide
theorem x_text0 {B : Nat → Nat} {L t : Nat} (h : DT) (H : CB h B L) (h9 : gF h 9 0 = nI t) (ht : t < 4) : match txP (tkn B L) 25 0 T0 with
    | .inl q => ∃ h1, cal X 100 103 [vP (some 0)] (SK tx tu gu tl, h) = some (some (vI (-1)), (SK (some (txc t)) tu gu tl, h1)) ∧ gF h1 38 0 = 0 ∧ gF h1 38 1 = 1 ∧ gF h1 38 2 = nI q.1 ∧ gF h1 38 3 = nI (tkn B L q.2).2.2 ∧ smX (fun c => c = 38 ∨ (txc t ≤ c ∧ c ≤ txc t + 4)) h h1
    | .inr q => ∃ h1 s C, cal X 100 103 [vP (some 0)] (SK tx tu gu tl, h) = some (some (vI (nI t)), (SK (some (txc t)) tu gu tl, h1)) ∧ gF h1 38 0 = 0 ∧ gF h1 38 1 = 1 ∧ gF h1 38 2 = 0 ∧ gF h1 38 3 = -1 ∧ XTx h1 (txc t) q.2 s C ∧ smX (fun c => c = 38 ∨ c = 9 ∨ (txc t ≤ c ∧ c ≤ txc t + 4)) h h1 ∧ gF h1 9 0 = nI (t + 1) ∧ (∀ z, z ≠ 0 → gF h1 9 z = gF h 9 z) ∧ gA h1 9 = gA h 9 := by
  have ht4 : isT4 (txc t) := by unfold isT4 txc; omega
  obtain ⟨h0, z0, p1, p2, p3, p4, hC⟩ := x_into X 33 (txc t) tx tu gu tl ht4 h H
  have hl : txc t = 52 + 5 * t := rfl
  rw [c_X10_text, e_X10_text_0, h9, show (4 : Int32) = nI 4 from rfl, if_pos ((nI_ltI (by omega) (by omega)).mpr ht), inbI ht (by omega), txc_at t ht]
  cases hr : txP (tkn B L) 25 0 T0 with
  | inl q =>
    rw [hr] at hC
    obtain ⟨h1, e1, e2, e3, e4, e5, e6⟩ := hC
    refine ⟨sF h1 38 0 0, ?_, by rw [gF_sF, if_pos ⟨rfl, rfl⟩], by rw [gF_sF, if_neg (by omega), e6]; exact p1, by rw [gF_sF, if_neg (by omega)]; exact e2, by rw [gF_sF, if_neg (by omega)]; exact e3, smX.tr (z0.tr e4) (smX_sF (Or.inl rfl))⟩
    rw [e1, bI_s, e_X10_text_32, if_pos rfl]
  | inr q =>
    rw [hr] at hC
    obtain ⟨h1, s, C, e1, e2, e3, e4, e5, e6, e7⟩ := hC
    have zz := z0.tr e6
    have s9 : gF h1 9 = gF h 9 := smF zz (by omega)
    have mm : smX (fun c => c = 38 ∨ c = 9) h1 (sF (sF h1 38 0 0) 9 0 (nI (t + 1))) := smX.tr (smX_sF (Or.inl rfl)) (smX_sF (Or.inr rfl))
    refine ⟨sF (sF h1 38 0 0) 9 0 (nI (t + 1)), s, C, ?_, ?_, ?_, ?_, ?_, e3.cg (fun c h1 h2 => ⟨smF mm (by omega), smA mm (by omega)⟩), smX.tr (zz.mo fun c hc => by omega) (mm.mo fun c hc => by omega), ?_, fun z hz => ?_, ?_⟩
    · rw [e1, bI_s, e_X10_text_32, if_neg one0, s9, h9, nI_1, show (1 : Int32) = nI 1 from rfl, subI (by omega)]
      rfl
    · rw [gF_sF, if_neg (by omega), gF_sF, if_pos ⟨rfl, rfl⟩]
    · rw [gF_sF, if_neg (by omega), gF_sF, if_neg (by omega), e7 1 (by omega)]; exact p1
    · rw [gF_sF, if_neg (by omega), gF_sF, if_neg (by omega), e7 2 (by omega)]; exact p2
    · rw [gF_sF, if_neg (by omega), gF_sF, if_neg (by omega), e7 3 (by omega)]; exact p3
    · rw [gF_sF, if_pos ⟨rfl, rfl⟩]
    · rw [gF_sF, if_neg (fun y => hz y.2), gF_sF, if_neg (by omega), s9]
    · show gA h1 9 = gA h 9
      exact smA zz (by omega)
theorem k_text0 {B : Nat → Nat} {L j : Nat} (hj : j < 4) (h : DT) (H : KB h B L) (h1 : gA h 73 1 = nI j) : match txP (tkn B L) 25 0 T0 with
    | .inl q => ∃ h2, cal X 100 214 [vP (some 72)] (SK tx tu gu tl, h) = some (some (vI (-1)), (SK tx tu gu tl, h2)) ∧ gF h2 72 5 = nI q.1 ∧ gF h2 72 6 = nI (tkn B L q.2).2.2 ∧ gF h2 72 4 = 0 ∧ (∀ z, 20 ≤ z → gF h2 72 z = gF h 72 z) ∧ smX (fun c => c = 72 ∨ c = 75 ∨ c = 77) h h2 ∧ ∀ x, x < 681 * j ∨ 681 * j + 681 ≤ x → gA h2 75 x = gA h 75 x
    | .inr q => ∃ h2 n0, cal X 100 214 [vP (some 72)] (SK tx tu gu tl, h) = some (some (vI (nI j)), (SK tx tu gu tl, h2)) ∧ KTx h2 j q.2 n0 ∧ gF h2 72 5 = 0 ∧ gF h2 72 6 = -1 ∧ gF h2 72 4 = 0 ∧ (∀ z, 20 ≤ z → gF h2 72 z = gF h 72 z) ∧ smX (fun c => c = 72 ∨ c = 73 ∨ c = 75 ∨ c = 77) h h2 ∧ gA h2 73 = upd (gA h 73) 1 (nI (j + 1)) ∧ ∀ x, x < 681 * j ∨ 681 * j + 681 ≤ x → gA h2 75 x = gA h 75 x := by
  have hK := k_rtext X 87 tx tu gu tl hj h H h1
  rw [c_X11_text, e_X11_text_0, h1, if_neg (show ¬ nI j = 4 from fun z => by have := (nI_eq (a := j) (b := 4) (by omega) (by omega)).mp z; omega)]
  have s0 : smX (fun c => c = 72) h (sF h 72 12 (nI (681 * j))) := smX_sF rfl
  cases hr : txP (tkn B L) 25 0 T0 with
  | inl q =>
    rw [hr] at hK
    obtain ⟨a1, a2, h2, b1, b2, b3⟩ := hK
    have nq : ¬ nI q.1 = 0 := fun z => by have := (nI_eq (a := q.1) (b := 0) (by omega) (by omega)).mp z; omega
    have mm : smX (fun c => c = 72) h2 (sF (sF (sF h2 72 5 (nI q.1)) 72 6 (nI (tkn B L q.2).2.2)) 72 4 0) := smX.tr (smX.tr (smX_sF rfl) (smX_sF rfl)) (smX_sF rfl)
    refine ⟨sF (sF (sF h2 72 5 (nI q.1)) 72 6 (nI (tkn B L q.2).2.2)) 72 4 0, ?_, ?_, ?_, ?_, fun z hz => ?_, smX.tr (smX.tr (s0.mo fun c hc => by omega) b3.1) (mm.mo fun c hc => by omega), fun x hx => ?_⟩
    · rw [b1, bI_s, e_X11_text_17, if_neg nq, b2, e_X11_text_36, show gF (sF h2 72 5 (nI q.1)) 72 5 = nI q.1 by rw [gF_sF, if_pos ⟨rfl, rfl⟩], if_neg nq]
    · rw [gF_sF, if_neg (by omega), gF_sF, if_neg (by omega), gF_sF, if_pos ⟨rfl, rfl⟩]
    · rw [gF_sF, if_neg (by omega), gF_sF, if_pos ⟨rfl, rfl⟩]
    · rw [gF_sF, if_pos ⟨rfl, rfl⟩]
    · rw [gF_sF, if_neg (by omega), gF_sF, if_neg (by omega), gF_sF, if_neg (by omega), b3.2.1 z (by omega), gF_sF, if_neg (by omega)]
    · rw [smA mm (by omega), b3.2.2 x hx]
      rfl
  | inr q =>
    rw [hr] at hK
    obtain ⟨h2, n0, b1, b2, b3, b4, b5, b6⟩ := hK
    have m0 : gA h2 73 1 = nI j := by rw [smA b6.1 (by omega)]; exact h1
    have m73 : gA h2 73 = gA h 73 := by rw [smA b6.1 (by omega)]; rfl
    have mm : smX (fun c => c = 72 ∨ c = 73) h2 (wA (sF (sF (sF h2 72 5 0) 72 6 (-1)) 72 4 0) 73 (upd (gA h2 73) 1 (nI (j + 1)))) := smX.tr (smX.tr (smX.tr (smX_sF (Or.inl rfl)) (smX_sF (Or.inl rfl))) (smX_sF (Or.inl rfl))) (smX_wA (Or.inr rfl))
    refine ⟨wA (sF (sF (sF h2 72 5 0) 72 6 (-1)) 72 4 0) 73 (upd (gA h2 73) 1 (nI (j + 1))), n0, ?_, b3.cg ?_ ?_ ?_ (smA mm (by omega)), ?_, ?_, ?_, fun z hz => ?_, smX.tr (smX.tr (s0.mo fun c hc => by omega) (b6.1.mo fun c hc => by omega)) (mm.mo fun c hc => by omega), ?_, fun x hx => ?_⟩
    · rw [b1, bI_s, e_X11_text_17, if_pos rfl, e_X11_text_36, show gF (sF h2 72 5 0) 72 5 = 0 by rw [gF_sF, if_pos ⟨rfl, rfl⟩], if_pos rfl, show gA (sF h2 72 5 0) 73 1 = gA h2 73 1 from rfl, m0, nI_1, show nI (j + 1) - 1 = nI j from subI (a := j + 1) (b := 1) (by omega), sA_w]
      rfl
    · rw [gF_wA, gF_sF, if_neg (by omega), gF_sF, if_neg (by omega), gF_sF, if_neg (by omega)]
    · rw [gF_wA, gF_sF, if_neg (by omega), gF_sF, if_neg (by omega), gF_sF, if_neg (by omega)]
    · rw [gF_wA, gF_sF, if_neg (by omega), gF_sF, if_neg (by omega), gF_sF, if_neg (by omega)]
    · rw [gF_wA, gF_sF, if_neg (by omega), gF_sF, if_neg (by omega), gF_sF, if_pos ⟨rfl, rfl⟩]
    · rw [gF_wA, gF_sF, if_neg (by omega), gF_sF, if_pos ⟨rfl, rfl⟩]
    · rw [gF_wA, gF_sF, if_pos ⟨rfl, rfl⟩]
    · rw [gF_wA, gF_sF, if_neg (by omega), gF_sF, if_neg (by omega), gF_sF, if_neg (by omega), b6.2.1 z (by omega), gF_sF, if_neg (by omega)]
    · rw [gA_wA', m73]
    · rw [smA mm (by omega), b6.2.2 x hx]
      rfl
theorem rel_text (h : DT) (H : Rel h) : ∃ v tx' h1 h2, cal X 100 103 [vP (some 0)] (SK tx tu gu tl, h) = some (some v, (SK tx' tu gu tl, h1)) ∧ cal X 100 214 [vP (some 72)] (SK tx' tu gu tl, h1) = some (some v, (SK tx' tu gu tl, h2)) ∧ Rel h2 := by
  obtain ⟨n, t, k, n', t', k', L, TT, hA, hI, ht, hP, hF, hL⟩ := id H
  obtain ⟨B, cB, kB⟩ := hP.cb
  obtain ⟨iN, iT, iS, iR, iW, iH, iD⟩ := id hA.1
  obtain ⟨a1, a2, a3⟩ := iT
  have x9 : gF h 9 0 = nI t := hA.2.2.2.1.trans a1
  by_cases g : t = 4
  · refine ⟨vI (-1), tx, h, h, ?_, ?_, H⟩
    · rw [c_X10_text, e_X10_text_0, x9, if_neg (show ¬ nI t < 4 from fun z => by have := (nI_ltI (a := t) (b := 4) (by omega) (by omega)).mp z; omega)]
    · rw [c_X11_text, e_X11_text_0, a1, if_pos (show nI t = 4 by rw [g]; rfl)]
  have t4 : t < 4 := by omega
  have lt : txc t = 52 + 5 * t := rfl
  have hx := x_text0 X tx tu gu tl h cB x9 t4
  cases hr : txP (tkn B L) 25 0 T0 with
  | inl q =>
    rw [hr] at hx
    obtain ⟨h1, e1, e2, e3, e4, e5, e6⟩ := hx
    have hk := k_text0 X (some (txc t)) tu gu tl (B := B) (L := L) (j := t) t4 h1 (kB.cg (by rw [smF e6 (by omega)]) (smA e6 (by omega))) (by rw [smA e6 (by omega)]; exact a1)
    rw [hr] at hk
    obtain ⟨h2, f1, f2, f3, f4, f5, f6, f7⟩ := hk
    have eF : ∀ c, c ≠ 38 → ¬ (txc t ≤ c ∧ c ≤ txc t + 4) → c ≠ 72 → c ≠ 75 → c ≠ 77 → gF h2 c = gF h c ∧ gA h2 c = gA h c := fun c h1 h2 h3 h4 h5 => ⟨(smF f6 (by omega)).trans (smF e6 (by omega)), (smA f6 (by omega)).trans (smA e6 (by omega))⟩
    have e38 : gF h2 38 = gF h1 38 := smF f6 (by omega)
    refine ⟨vI (-1), some (txc t), h1, h2, e1, f1, n, t, k, n', t', k', 0, TT, ?_, hI.cg (fun c _ _ => eF c (by omega) (by omega) (by omega) (by omega) (by omega)) (eF 74 (by omega) (by omega) (by omega) (by omega) (by omega)).2, ht, ⟨by rw [e38]; exact e2, f4, by omega, fun j hj => absurd hj (by omega)⟩, Or.inr ⟨by rw [e38, e3]; decide, by rw [e38, e4, f2], by rw [e38, e5, f3]⟩, fun j hj => ?_, fun z hz => ?_, fun z hz => ?_, ?_⟩
    · rw [(eF 73 (by omega) (by omega) (by omega) (by omega) (by omega)).2]
      exact ⟨hA.1, XA.cg hA.2 fun c _ _ => eF c (by omega) (by omega) (by omega) (by omega) (by omega)⟩
    · have lj : txc j = 52 + 5 * j := rfl
      exact (hL.1 j hj).lc (fun x h1 h2 => by rw [f7 x (by omega), smA e6 (by omega)]) (fun c h1 h2 => eF c (by omega) (by omega) (by omega) (by omega) (by omega))
    · rw [(eF 41 (by omega) (by omega) (by omega) (by omega) (by omega)).2]
      exact hL.2.1 z hz
    · rw [(eF 78 (by omega) (by omega) (by omega) (by omega) (by omega)).2]
      exact hL.2.2.1 z hz
    · rw [f5 23 (by omega), smF e6 (by omega)]
      exact hL.2.2.2
  | inr q =>
    rw [hr] at hx
    obtain ⟨h1, s, C, e1, e2, e3, e4, e5, e6, e7, e8, e9, e10⟩ := hx
    have hk := k_text0 X (some (txc t)) tu gu tl (B := B) (L := L) (j := t) t4 h1 (kB.cg (by rw [smF e7 (by omega)]) (smA e7 (by omega))) (by rw [smA e7 (by omega)]; exact a1)
    rw [hr] at hk
    obtain ⟨h2, n0, f1, f2, f3, f4, f5, f6, f7, f8, f9⟩ := hk
    have eF : ∀ c, c ≠ 38 → c ≠ 9 → ¬ (txc t ≤ c ∧ c ≤ txc t + 4) → c ≠ 72 → c ≠ 73 → c ≠ 75 → c ≠ 77 → gF h2 c = gF h c ∧ gA h2 c = gA h c := fun c h1 h2 h3 h4 h5 h6 h7 => ⟨(smF f7 (by omega)).trans (smF e7 (by omega)), (smA f7 (by omega)).trans (smA e7 (by omega))⟩
    have e38 : gF h2 38 = gF h1 38 := smF f7 (by omega)
    have g9 : gF h2 9 = gF h1 9 := smF f7 (by omega)
    have A73 : gA h2 73 = upd (gA h 73) 1 (nI (t + 1)) := by rw [f8, smA e7 (by omega)]
    have hN : TNk q.2 := TNk_tx 25 0 T0 q (show TNk T0 from ⟨fun e z => (by cases z), fun e z => (by cases z)⟩) hr
    have new : TxR h2 t q.2 := TxR_new (e6.cg fun c h1 h2 => ⟨smF f7 (by omega), smA f7 (by omega)⟩) f2 hN
    refine ⟨vI (nI t), some (txc t), h1, h2, e1, f1, n, t + 1, k, n', t', k', 0, fun j => if j = t then q.2 else TT j, ?_, hI.cg (fun c _ _ => eF c (by omega) (by omega) (by omega) (by omega) (by omega) (by omega) (by omega)) (eF 74 (by omega) (by omega) (by omega) (by omega) (by omega) (by omega) (by omega)).2, by omega, ⟨by rw [e38]; exact e2, f5, by omega, fun j hj => absurd hj (by omega)⟩, Or.inr ⟨by rw [e38, e3]; decide, by rw [e38, e4, f3], by rw [e38, e5, f4]⟩, fun j hj => ?_, fun z hz => ?_, fun z hz => ?_, ?_⟩
    · rw [A73]
      have up : ∀ i, i ≠ 1 → upd (gA h 73) 1 (nI (t + 1)) i = gA h 73 i := fun i hi => pk_un hi
      refine ⟨⟨iN.cg (up 0 (by omega)) (fun i _ _ => up i (by omega)), ⟨by rw [pk_us], by omega, ?_⟩, iS.cg (Nat.le_refl _) (up 3 (by omega)) (fun i _ _ => up i (by omega)), iR.cg (fun i _ => up _ (by omega)), iW.elim fun w z => ⟨w, z.cg (up 4 (by omega)) (fun i _ _ => up i (by omega))⟩, iH.elim fun w z => ⟨w, z.cg (Nat.le_refl _) (up 5 (by omega)) (fun i _ _ => up i (by omega))⟩, iD.elim fun w z => ⟨w, z.cg (Nat.le_refl _) (up 6 (by omega)) (fun i _ _ => up i (by omega))⟩⟩, ?_, ?_, ?_⟩
      · rw [up 2 (by omega)]
        rcases a3 with z | ⟨r, r1, r2⟩
        · exact Or.inl z
        · exact Or.inr ⟨r, by omega, r2⟩
      · exact (hA.2.1.cg fun c _ _ => eF c (by omega) (by omega) (by omega) (by omega) (by omega) (by omega) (by omega)).cA (up 0 (by omega)) (fun i _ _ => up i (by omega)) (fun i _ _ => up i (by omega))
      · exact (hA.2.2.1.cg fun c _ _ => eF c (by omega) (by omega) (by omega) (by omega) (by omega) (by omega) (by omega)).cA (up 3 (by omega)) (fun i _ _ => up i (by omega))
      · obtain ⟨y0, y1, y2, y3, y4, y5, y6, y7, y8, y9, y10, y11⟩ := hA.2.2.2
        have q9 : ∀ z, z ≠ 0 → gF h2 9 z = gF h 9 z := fun z hz => by rw [g9]; exact e9 z hz
        refine ⟨by rw [g9, e8, pk_us], by rw [q9 1 (by omega), up 2 (by omega)]; exact y1, by rw [q9 2 (by omega), up 37 (by omega)]; exact y2, by rw [q9 3 (by omega), up 4 (by omega)]; exact y3, by rw [q9 4 (by omega), up 5 (by omega)]; exact y4, by rw [q9 5 (by omega), up 6 (by omega)]; exact y5, fun i hi => ?_, fun i hi => ?_, fun i hi => ?_, fun i hi => ?_, fun i hi => ?_, fun i hi => ?_⟩
        · rw [(eF (9 + 1) (by omega) (by omega) (by omega) (by omega) (by omega) (by omega) (by omega)).2, up _ (by omega)]; exact y6 i hi
        · rw [(eF (9 + 2) (by omega) (by omega) (by omega) (by omega) (by omega) (by omega) (by omega)).2, up _ (by omega)]; exact y7 i hi
        · rw [(eF (9 + 3) (by omega) (by omega) (by omega) (by omega) (by omega) (by omega) (by omega)).2, up _ (by omega)]; exact y8 i hi
        · rw [(eF (9 + 4) (by omega) (by omega) (by omega) (by omega) (by omega) (by omega) (by omega)).2, up _ (by omega)]; exact y9 i hi
        · rw [(eF (9 + 5) (by omega) (by omega) (by omega) (by omega) (by omega) (by omega) (by omega)).2, up _ (by omega)]; exact y10 i hi
        · rw [(eF (9 + 6) (by omega) (by omega) (by omega) (by omega) (by omega) (by omega) (by omega)).2, up _ (by omega)]; exact y11 i hi
    · by_cases y : j = t
      · show TxR h2 j (if j = t then q.2 else TT j)
        rw [if_pos y, y]
        exact new
      · have lj : txc j = 52 + 5 * j := rfl
        show TxR h2 j (if j = t then q.2 else TT j)
        rw [if_neg y]
        exact (hL.1 j (by omega)).lc (fun x h1 h2 => by rw [f9 x (by omega), smA e7 (by omega)]) (fun c h1 h2 => eF c (by omega) (by omega) (by omega) (by omega) (by omega) (by omega) (by omega))
    · rw [(eF 41 (by omega) (by omega) (by omega) (by omega) (by omega) (by omega) (by omega)).2]
      exact hL.2.1 z hz
    · rw [(eF 78 (by omega) (by omega) (by omega) (by omega) (by omega) (by omega) (by omega)).2]
      exact hL.2.2.1 z hz
    · rw [f6 23 (by omega), smF e7 (by omega)]
      exact hL.2.2.2
end TX2
