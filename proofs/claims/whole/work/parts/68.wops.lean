/-! image, back, feed, end, fault keep the whole -/
def isIm (c : Nat) : Prop := 1 ≤ c ∧ c ≤ 30 ∨ c = 73 ∨ c = 74
theorem LR.cg {h h2 : DT} {t : Nat} {TT : Nat → TXT} (H : LR h t TT) (ht : t ≤ 4) (s : smT h h2) (e41 : gA h2 41 = gA h 41) (e78 : gA h2 78 = gA h 78) (e23 : gF h2 72 23 = gF h 72 23) : LR h2 t TT := by
  obtain ⟨l1, l2, l3, l4⟩ := H
  exact ⟨fun j hj => (l1 j hj).cg (by omega) s, fun k hk => by rw [e41]; exact l2 k hk, fun k hk => by rw [e78]; exact l3 k hk, e23.trans l4⟩
theorem im_keep {h h2 : DT} {t L : Nat} {TT : Nat → TXT} (s : smX isIm h h2) (ht : t ≤ 4) (hP : TP h L) (hF : FT h) (hL : LR h t TT) : TP h2 L ∧ FT h2 ∧ LR h2 t TT := by
  have e38 : gF h2 38 = gF h 38 := smF s (by unfold isIm; omega)
  have e39 : gA h2 39 = gA h 39 := smA s (by unfold isIm; omega)
  have e72 : gF h2 72 = gF h 72 := smF s (by unfold isIm; omega)
  have e76 : gA h2 76 = gA h 76 := smA s (by unfold isIm; omega)
  refine ⟨?_, ?_, hL.cg ht ⟨smA s (by unfold isIm; omega), fun c _ _ => ⟨smF s (by unfold isIm; omega), smA s (by unfold isIm; omega)⟩⟩ (smA s (by unfold isIm; omega)) (smA s (by unfold isIm; omega)) (by rw [e72])⟩
  · unfold TP
    rw [e38, e39, e72, e76]
    exact hP
  · unfold FT
    rw [e38, e72]
    exact hF
section WO
variable (X : XS) (tx tu gu : Option Nat) (tl : List SC)
theorem rel_image (h : DT) (H : Rel h) : ∃ v h1 h2, cal X 100 143 [vP (some 0)] (SK tx tu gu tl, h) = some (some v, (SK tx tu gu tl, h1)) ∧ cal X 100 297 [vP (some 72)] (SK tx tu gu tl, h1) = some (some v, (SK tx tu gu tl, h2)) ∧ Rel h2 := by
  obtain ⟨n, t, k, n', t', k', L, TT, hA, hI, ht, hP, hF, hL⟩ := H
  obtain ⟨v, h1, h2, e1, e2, s1, s2, r1, r2⟩ := op_image X tx tu gu tl h hA
  obtain ⟨q1, q2, q3⟩ := im_keep (s1.mo (S' := isIm) (fun c hc => by unfold isIm; omega) |>.tr (s2.mo (fun c hc => by unfold isIm; omega))) hA.1.t.2.1 hP hF hL
  exact ⟨v, h1, h2, e1, e2, n, t, k, n, t, k, L, TT, r1, r2, Nat.le_refl _, q1, q2, q3⟩
theorem rel_back (h : DT) (H : Rel h) : ∃ v h1 h2, cal X 100 144 [vP (some 0)] (SK tx tu gu tl, h) = some (some v, (SK tx tu gu tl, h1)) ∧ cal X 100 298 [vP (some 72)] (SK tx tu gu tl, h1) = some (some v, (SK tx tu gu tl, h2)) ∧ Rel h2 := by
  obtain ⟨n, t, k, n', t', k', L, TT, hA, hI, ht, hP, hF, hL⟩ := H
  obtain ⟨v, h1, h2, e1, e2, s1, s2, r1, r2⟩ := op_back X tx tu gu tl h hI
  obtain ⟨q1, q2, q3⟩ := im_keep (s1.mo (S' := isIm) (fun c hc => by unfold isIm; omega) |>.tr (s2.mo (fun c hc => by unfold isIm; omega))) hA.1.t.2.1 hP hF hL
  exact ⟨v, h1, h2, e1, e2, n', t', k', n', t', k', L, TT, r1, r2, Nat.le_refl _, q1, q2, fun j hj => q3.1 j (by omega), q3.2⟩
theorem tp_keep {h h1 h2 : DT} {n t k n' t' k' : Nat} {TT : Nat → TXT} (s1 : smX (fun c => c = 38 ∨ c = 39) h h1) (f1 : ∀ q, q ≠ 0 → gF h1 38 q = gF h 38 q) (s2 : smX (fun c => c = 72 ∨ c = 76) h1 h2) (f2 : ∀ q, q ≠ 4 → gF h2 72 q = gF h1 72 q) (hA : RA h (gA h 73) n t k) (hI : IM h n' t' k') (hF : FT h) (hL : LR h t TT) : RA h2 (gA h2 73) n t k ∧ IM h2 n' t' k' ∧ FT h2 ∧ LR h2 t TT := by
  have eF : ∀ c, c ≠ 38 → c ≠ 39 → c ≠ 72 → c ≠ 76 → gF h2 c = gF h c := fun c g1 g2 g3 g4 => (smF s2 (by omega)).trans (smF s1 (by omega))
  have eA : ∀ c, c ≠ 38 → c ≠ 39 → c ≠ 72 → c ≠ 76 → gA h2 c = gA h c := fun c g1 g2 g3 g4 => (smA s2 (by omega)).trans (smA s1 (by omega))
  have e38 : ∀ q, q ≠ 0 → gF h2 38 q = gF h 38 q := fun q hq => by rw [smF s2 (by omega)]; exact f1 q hq
  have e72 : ∀ q, q ≠ 4 → gF h2 72 q = gF h 72 q := fun q hq => by rw [f2 q hq, smF s1 (by omega)]
  refine ⟨?_, hI.cg (fun c _ _ => ⟨eF c (by omega) (by omega) (by omega) (by omega), eA c (by omega) (by omega) (by omega) (by omega)⟩) (eA 74 (by omega) (by omega) (by omega) (by omega)), ?_, hL.cg hA.1.t.2.1 ⟨eA 75 (by omega) (by omega) (by omega) (by omega), fun c _ _ => ⟨eF c (by omega) (by omega) (by omega) (by omega), eA c (by omega) (by omega) (by omega) (by omega)⟩⟩ (eA 41 (by omega) (by omega) (by omega) (by omega)) (eA 78 (by omega) (by omega) (by omega) (by omega)) (e72 23 (by omega))⟩
  · rw [eA 73 (by omega) (by omega) (by omega) (by omega)]
    exact ⟨hA.1, XA.cg hA.2 fun c _ _ => ⟨eF c (by omega) (by omega) (by omega) (by omega), eA c (by omega) (by omega) (by omega) (by omega)⟩⟩
  · unfold FT
    rw [e38 1 (by omega), e38 2 (by omega), e38 3 (by omega), e72 5 (by omega), e72 6 (by omega)]
    exact hF
theorem rel_feed (h : DT) (H : Rel h) (x1 x2 x3 x4 x5 : Int32) : ∃ v h1 h2, cal X 100 101 [vP (some 0), vI x1, vI x2, vI x3, vI x4, vI x5] (SK tx tu gu tl, h) = some (some v, (SK tx tu gu tl, h1)) ∧ cal X 100 177 [vP (some 72), vI x1, vI x2, vI x3, vI x4, vI x5] (SK tx tu gu tl, h1) = some (some v, (SK tx tu gu tl, h2)) ∧ Rel h2 := by
  obtain ⟨n, t, k, n', t', k', L, TT, hA, hI, ht, hP, hF, hL⟩ := H
  obtain ⟨v, h1, h2, L', e1, e2, s1, f1, s2, f2, hP2⟩ := op_feed X tx tu gu tl h hP x1 x2 x3 x4 x5
  obtain ⟨q1, q2, q3, q4⟩ := tp_keep s1 f1 s2 f2 hA hI hF hL
  exact ⟨v, h1, h2, e1, e2, n, t, k, n', t', k', L', TT, q1, q2, ht, hP2, q3, q4⟩
theorem rel_end (h : DT) (H : Rel h) (x : Int32) : ∃ v h1 h2, cal X 100 102 [vP (some 0), vI x] (SK tx tu gu tl, h) = some (some v, (SK tx tu gu tl, h1)) ∧ cal X 100 178 [vP (some 72), vI x] (SK tx tu gu tl, h1) = some (some v, (SK tx tu gu tl, h2)) ∧ Rel h2 := by
  obtain ⟨n, t, k, n', t', k', L, TT, hA, hI, ht, hP, hF, hL⟩ := H
  obtain ⟨v, h1, h2, L', e1, e2, s1, f1, s2, f2, hP2⟩ := op_end X tx tu gu tl h hP x
  obtain ⟨q1, q2, q3, q4⟩ := tp_keep (s1.mo fun c hc => Or.inl hc) f1 (s2.mo fun c hc => Or.inl hc) f2 hA hI hF hL
  exact ⟨v, h1, h2, e1, e2, n, t, k, n', t', k', L', TT, q1, q2, ht, hP2, q3, q4⟩
theorem rel_fault (h : DT) (H : Rel h) (x : Int32) : ∃ v h1 h2, cal X 100 104 [vP (some 0), vI x] (SK tx tu gu tl, h) = some (some v, (SK tx tu gu tl, h1)) ∧ cal X 100 215 [vP (some 72), vI x] (SK tx tu gu tl, h1) = some (some v, (SK tx tu gu tl, h2)) ∧ Rel h2 := by
  obtain ⟨n, t, k, n', t', k', L, TT, hA, hI, ht, hP, hF, hL⟩ := id H
  obtain ⟨v, e1, e2⟩ := op_fault X tx tu gu tl h hF x
  exact ⟨v, h, h, e1, e2, H⟩
end WO
