/-! TOKENS: the reference's next token -/
def sgB (v : Nat) : Bool := decide (v = 35) || ((decide (40 ≤ v) && decide (v ≤ 43)) || (decide (v = 45) || (decide (v = 47) || (decide (58 ≤ v) && decide (v ≤ 62)))))
theorem rI {a b : Int32} {H : HP} (h : a = b) : (some (some (vI a), H) : RR) = some (some (vI b), H) := by rw [h]
theorem z0le {n : Nat} (h : n < 2147483648) : (0 : Int32) ≤ nI n := (nI_leI (a := 0) (by omega) h).mpr (Nat.zero_le _)
theorem dig_let {v : Nat} (h : digB v = true) : letB v = false := by
  obtain ⟨g1, g2⟩ := dig_ge h
  unfold letB
  rw [decide_eq_false (show ¬ 97 ≤ v by omega), decide_eq_false (show ¬ 65 ≤ v by omega)]
  rfl
def tkR (B : Nat → Nat) (L q : Nat) : Nat := if q < L then (bif letB (B q) then 2 else bif digB (B q) then 1 else bif sgD B L q then (if B q = 60 then 4 else 5) else bif sgB (B q) then B q else 3) else 0
section KA
variable (X : XS) (d : Nat) (tx tu gu : Option Nat) (tl : List SC)
theorem k_sgn {v : Nat} (hv : v < 256) (h : DT) : cal X (d + 1) 182 [vI (nI v)] (SK tx tu gu tl, h) = some (some (vI (bzB (sgB v))), (SK tx tu gu tl, h)) := by
  rw [c_X11_isSign, e_X11_isSign_0]
  simp only [iteR]
  refine rI ?_
  revert hv
  revert v
  decide +kernel
theorem k_sg {B : Nat → Nat} {L q : Nat} (h : DT) (H : KB h B L) (hq : q < L) (h7 : gF h 72 7 = nI q) (f : Nat) : ∃ h', m_X11_nextToken X (d + 1) (f + 3) 239 [(0, vP (some 72)), (1, vI (nI (B q)))] [vI (bzB (sgB (B q))), vP (some 72)] (SK tx tu gu tl, h) = some (none, (SK tx tu gu tl, h')) ∧ gF h' 72 7 = nI (sgE B L q) ∧ gF h' 72 9 = nI (bif sgD B L q then (if B q = 60 then 4 else 5) else bif sgB (B q) then B q else 3) ∧ (∀ z, z ≠ 7 → z ≠ 9 → gF h' 72 z = gF h 72 z) ∧ smX (fun c => c = 72) h h' := by
  have hl := H.2.1
  obtain ⟨b1, b2⟩ := H.2.2 q hq
  have e1 : m_X11_nextToken X (d + 1) (f + 3) 239 [(0, vP (some 72)), (1, vI (nI (B q)))] [vI (bzB (sgB (B q))), vP (some 72)] (SK tx tu gu tl, h) = m_X11_nextToken X (d + 1) (f + 2) 247 [(0, vP (some 72)), (1, vI (nI (B q)))] [vI (nI (bif sgB (B q) then B q else 3)), vP (some 72)] (SK tx tu gu tl, h) := by
    rw [e_X11_nextToken_239]
    cases sgB (B q) with
    | true => rw [bz_t, if_neg one0]; rfl
    | false => rw [bz_f, if_pos rfl]; rfl
  rw [e1, e_X11_nextToken_247, h7, nI_1]
  generalize hK : (bif sgB (B q) then B q else 3) = K
  have h2 : KB (sF (sF h 72 9 (nI K)) 72 7 (nI (q + 1))) B L := H.cg (by rw [gF_sF, if_neg (by omega), gF_sF, if_neg (by omega)]) rfl
  have r7 : gF (sF (sF h 72 9 (nI K)) 72 7 (nI (q + 1))) 72 7 = nI (q + 1) := by rw [gF_sF, if_pos ⟨rfl, rfl⟩]
  have e60 : (nI (B q) = 60) = (B q = 60) := propext (nI_eq (a := B q) (b := 60) (by omega) (by omega))
  have e62 : (nI (B q) = 62) = (B q = 62) := propext (nI_eq (a := B q) (b := 62) (by omega) (by omega))
  have s0 : smX (fun c => c = 72) h (sF (sF h 72 9 (nI K)) 72 7 (nI (q + 1))) := smX.tr (smX_sF rfl) (smX_sF rfl)
  have z0 : ∀ z, z ≠ 7 → z ≠ 9 → gF (sF (sF h 72 9 (nI K)) 72 7 (nI (q + 1))) 72 z = gF h 72 z := fun z z1 z2 => by rw [gF_sF, if_neg (fun y => z1 y.2), gF_sF, if_neg (fun y => z2 y.2)]
  have plain : sgD B L q = false → gF (sF (sF h 72 9 (nI K)) 72 7 (nI (q + 1))) 72 7 = nI (sgE B L q) ∧ gF (sF (sF h 72 9 (nI K)) 72 7 (nI (q + 1))) 72 9 = nI (bif sgD B L q then (if B q = 60 then 4 else 5) else K) := fun z => by
    unfold sgE
    rw [z, cond_false, cond_false]
    exact ⟨r7, by rw [gF_sF, if_neg (by omega), gF_sF, if_pos ⟨rfl, rfl⟩]⟩
  have two : ∀ v : Nat, (B q = 60 ∨ B q = 62) → (if B q = 60 then 4 else 5) = v → (∀ h0 : DT, m_X11_nextToken X (d + 1) (f + 1) 280 [(0, vP (some 72)), (1, vI (nI (B q)))] [vI 61] (SK tx tu gu tl, h0) = some (none, (SK tx tu gu tl, sF (sF h0 72 9 (nI v)) 72 7 ((gF h0 72 7) + 1)))) → ∃ h', m_X11_nextToken X (d + 1) (f + 1) 280 [(0, vP (some 72)), (1, vI (nI (B q)))] [vI (atB B L (q + 1))] (SK tx tu gu tl, sF (sF h 72 9 (nI K)) 72 7 (nI (q + 1))) = some (none, (SK tx tu gu tl, h')) ∧ gF h' 72 7 = nI (sgE B L q) ∧ gF h' 72 9 = nI (bif sgD B L q then (if B q = 60 then 4 else 5) else K) ∧ (∀ z, z ≠ 7 → z ≠ 9 → gF h' 72 z = gF h 72 z) ∧ smX (fun c => c = 72) h h' := by
    intro v c0 cv cst
    have cd : (decide (B q = 60) || decide (B q = 62)) = true := by
      rcases c0 with c0 | c0 <;> simp [c0]
    by_cases g : q + 1 < L ∧ B (q + 1) = 61
    · have hD : sgD B L q = true := by
        unfold sgD
        rw [cd, decide_eq_true g.1, decide_eq_true g.2]
        rfl
      have ha : atB B L (q + 1) = 61 := by
        unfold atB
        rw [if_pos g.1, g.2]
        rfl
      rw [ha, cst, r7, nI_1]
      refine ⟨_, rfl, ?_, ?_, fun z z1 z2 => ?_, smX.tr (smX.tr s0 (smX_sF rfl)) (smX_sF rfl)⟩
      · unfold sgE
        rw [gF_sF, if_pos ⟨rfl, rfl⟩, hD]
        rfl
      · rw [gF_sF, if_neg (by omega), gF_sF, if_pos ⟨rfl, rfl⟩, hD, cond_true, cv]
      · rw [gF_sF, if_neg (fun y => z1 y.2), gF_sF, if_neg (fun y => z2 y.2), z0 z z1 z2]
    · have hD : sgD B L q = false := by
        unfold sgD
        rw [cd, Bool.true_and]
        by_cases g1 : q + 1 < L
        · rw [decide_eq_false (fun y => g ⟨g1, y⟩), Bool.and_false]
        · rw [decide_eq_false g1, Bool.false_and]
      have ha : atB B L (q + 1) ≠ 61 := by
        unfold atB
        by_cases g1 : q + 1 < L
        · rw [if_pos g1]
          have := (H.2.2 (q + 1) g1).2
          exact fun y => g ⟨g1, (nI_eq (a := B (q + 1)) (b := 61) (by omega) (by omega)).mp y⟩
        · rw [if_neg g1]
          decide
      rw [e_X11_nextToken_280, if_neg ha]
      obtain ⟨p1, p2⟩ := plain hD
      exact ⟨_, rfl, p1, p2, z0, s0⟩
  by_cases c60 : B q = 60
  · rw [if_pos (e60.mpr c60), k_at X d tx tu gu tl _ h2 (by omega), bI_s]
    exact two 4 (Or.inl c60) (by rw [if_pos c60]) (fun h0 => by rw [e_X11_nextToken_280, if_pos rfl, if_pos (e60.mpr c60)]; rfl)
  · rw [if_neg (fun y => c60 (e60.mp y))]
    by_cases c62 : B q = 62
    · rw [if_pos (e62.mpr c62), k_at X d tx tu gu tl _ h2 (by omega), bI_s]
      exact two 5 (Or.inr c62) (by rw [if_neg c60]) (fun h0 => by rw [e_X11_nextToken_280, if_pos rfl, if_neg (fun y => c60 (e60.mp y))]; rfl)
    · rw [if_neg (fun y => c62 (e62.mp y))]
      have hD : sgD B L q = false := by
        unfold sgD
        rw [decide_eq_false c60, decide_eq_false c62, Bool.or_false, Bool.false_and]
      obtain ⟨p1, p2⟩ := plain hD
      exact ⟨_, rfl, p1, p2, z0, s0⟩
theorem k_adv {B : Nat → Nat} {L p : Nat} (h : DT) (H : KB h B L) (hp : p ≤ L) (h7 : gF h 72 7 = nI p) : ∃ h', cal X (d + 2) 183 [vP (some 72)] (SK tx tu gu tl, h) = some (none, (SK tx tu gu tl, h')) ∧ gF h' 72 8 = nI (skp B L (L - p) p) ∧ gF h' 72 9 = nI (tkR B L (skp B L (L - p) p)) ∧ gF h' 72 7 = nI (tkE B L (skp B L (L - p) p)) ∧ (skp B L (L - p) p < L → letB (B (skp B L (L - p) p)) = false → digB (B (skp B L (L - p) p)) = true → gF h' 72 10 = nI (nmK B L (L - skp B L (L - p) p) (skp B L (L - p) p) 0)) ∧ (skp B L (L - p) p < L → letB (B (skp B L (L - p) p)) = true → gG h' 72 11 = wdL B L (L - skp B L (L - p) p) (skp B L (L - p) p) 0) ∧ (∀ z, z < 7 ∨ 11 ≤ z → gF h' 72 z = gF h 72 z) ∧ smX (fun c => c = 72) h h' := by
  have hl := H.2.1
  obtain ⟨h1, k1, k2, k3, k4, k5⟩ := k_skp X d tx tu gu tl (L - p) p h (by omega) H h7
  have hqL := skp_L (B := B) (L := L) (L - p) p hp
  revert k1 k2 k3
  generalize skp B L (L - p) p = q at hqL ⊢
  intro k1 k2 k3
  obtain ⟨f', g1, g2⟩ := k1 900000 1000000 (by omega)
  obtain ⟨f', rfl⟩ : ∃ g, f' = g + 6 := ⟨f' - 6, by omega⟩
  have c1 : KB h1 B L := H.cg (k4 4 (by omega) (by omega)) (smA k5 (by omega))
  have st : cal X (d + 2) 183 [vP (some 72)] (SK tx tu gu tl, h) = m_X11_nextToken X (d + 1) (f' + 6) 55 [(0, vP (some 72))] [vI (atB B L q)] (SK tx tu gu tl, h1) := by
    rw [c_X11_nextToken]
    exact g2
  rw [st, e_X11_nextToken_55]
  unfold tkR tkE
  by_cases hq : q < L
  · obtain ⟨b1, b2⟩ := c1.2.2 q hq
    have ha : atB B L q = nI (B q) := by unfold atB; rw [if_pos hq]
    rw [if_pos hq, if_pos hq, ha, if_pos (z0le (by omega)), k_dig X d tx tu gu tl _ b2, bI_s, e_X11_nextToken_72]
    cases hdg : digB (B q) with
    | true =>
      rw [bz_t, if_neg one0, dig_let hdg]
      obtain ⟨h2, j1, j2, j3, j4, j5⟩ := k_nm X d tx tu gu tl (L - q) q 0 (sF (sF h1 72 9 1) 72 10 0) (by omega) (by omega) (c1.cg (by rw [gF_sF, if_neg (by omega), gF_sF, if_neg (by omega)]) rfl) (by rw [gF_sF, if_neg (by omega), gF_sF, if_neg (by omega)]; exact k2) (by rw [gF_sF, if_pos ⟨rfl, rfl⟩]; rfl)
      refine ⟨h2, j1 _ (by omega), ?_, ?_, j2, fun _ _ _ => j3, fun _ z => (by cases z), fun z hz => ?_, smX.tr (smX.tr (smX.tr k5 (smX_sF rfl)) (smX_sF rfl)) j5⟩
      · rw [j4 8 (by omega) (by omega), gF_sF, if_neg (by omega), gF_sF, if_neg (by omega), k3]
      · rw [j4 9 (by omega) (by omega), gF_sF, if_neg (by omega), gF_sF, if_pos ⟨rfl, rfl⟩]
        rfl
      · rw [j4 z (by omega) (by omega), gF_sF, if_neg (by omega), gF_sF, if_neg (by omega), k4 z (by omega) (by omega)]
    | false =>
      rw [bz_f, if_pos rfl, k_let X d tx tu gu tl _ b2, bI_s, e_X11_nextToken_155]
      cases hlt : letB (B q) with
      | true =>
        rw [bz_t, if_neg one0]
        obtain ⟨h2, j1, j2, j3, j4, j5⟩ := k_wd X d tx tu gu tl (L - q) q 0 (sG (sF h1 72 9 2) 72 11 0) (by omega) (c1.cg (by rw [gF_sG, gF_sF, if_neg (by omega)]) rfl) (by rw [gF_sG, gF_sF, if_neg (by omega)]; exact k2) (by rw [gG_sG, if_pos ⟨rfl, rfl⟩])
        refine ⟨h2, j1 _ (by omega), ?_, ?_, j2, fun _ z => (by cases z), fun _ _ => j3, fun z hz => ?_, smX.tr (smX.tr (smX.tr k5 (smX_sF rfl)) (smX_sG rfl)) j5⟩
        · rw [j4 8 (by omega), gF_sG, gF_sF, if_neg (by omega), k3]
        · rw [j4 9 (by omega), gF_sG, gF_sF, if_pos ⟨rfl, rfl⟩]
          rfl
        · rw [j4 z (by omega), gF_sG, gF_sF, if_neg (by omega), k4 z (by omega) (by omega)]
      | false =>
        rw [bz_f, if_pos rfl, k_sgn X d tx tu gu tl b2, bI_s]
        obtain ⟨h2, j1, j2, j3, j4, j5⟩ := k_sg X d tx tu gu tl h1 c1 hq k2 f'
        refine ⟨h2, j1, ?_, j3, j2, fun _ _ z => (by cases z), fun _ z => (by cases z), fun z hz => ?_, smX.tr k5 j5⟩
        · rw [j4 8 (by omega) (by omega), k3]
        · rw [j4 z (by omega) (by omega), k4 z (by omega) (by omega)]
  · have ha : atB B L q = -1 := by unfold atB; rw [if_neg hq]
    rw [if_neg hq, if_neg hq, ha, if_neg (by decide)]
    refine ⟨_, rfl, ?_, ?_, ?_, fun z => absurd z hq, fun z => absurd z hq, fun z hz => ?_, smX.tr k5 (smX_sF rfl)⟩
    · rw [gF_sF, if_neg (by omega), k3]
    · rw [gF_sF, if_pos ⟨rfl, rfl⟩]
      rfl
    · rw [gF_sF, if_neg (by omega), k2]
    · rw [gF_sF, if_neg (by omega), k4 z (by omega) (by omega)]
end KA
