/-! TURNS: both asked -/
theorem Rel.to {h h2 : DT} (H : Rel h) (eF : ∀ c, c < 95 → ¬ is85 c → gF h2 c = gF h c ∧ gA h2 c = gA h c) : Rel h2 := by
  obtain ⟨n, t, k, n', t', k', L, TT, hA, hI, ht, hP, hF, hL⟩ := H
  have e38 := (eF 38 (by omega) (by unfold is85; omega)).1
  have e39 := (eF 39 (by omega) (by unfold is85; omega)).2
  have e72 := (eF 72 (by omega) (by unfold is85; omega)).1
  have e76 := (eF 76 (by omega) (by unfold is85; omega)).2
  refine ⟨n, t, k, n', t', k', L, TT, ?_, hI.cg (fun c _ _ => eF c (by omega) (by unfold is85; omega)) (eF 74 (by omega) (by unfold is85; omega)).2, ht, ?_, ?_, fun j hj => ?_, fun z hz => ?_, fun z hz => ?_, ?_⟩
  · rw [(eF 73 (by omega) (by unfold is85; omega)).2]
    exact ⟨hA.1, XA.cg hA.2 fun c _ _ => eF c (by omega) (by unfold is85; omega)⟩
  · unfold TP
    rw [e38, e39, e72, e76]
    exact hP
  · unfold FT
    rw [e38, e72]
    exact hF
  · exact (hL.1 j hj).cg (by have := hA.1.t.2.1; omega) ⟨(eF 75 (by omega) (by unfold is85; omega)).2, fun c _ _ => eF c (by omega) (by unfold is85; omega)⟩
  · rw [(eF 41 (by omega) (by unfold is85; omega)).2]
    exact hL.2.1 z hz
  · rw [(eF 78 (by omega) (by unfold is85; omega)).2]
    exact hL.2.2.1 z hz
  · rw [e72]
    exact hL.2.2.2
section TZ
variable (X : XS) (d : Nat) (tx tu gu : Option Nat) (tl : List SC)
theorem k_byTurns {n : Nat} {L : Nat → Nat} (hn : n ≤ 5) (h : DT) (h0 : gA h 73 0 = nI n) (H : ∀ i, i < n → gA h 73 (17 + i) = nI (L i)) (h5 : ∀ i, L i < 5) (hs : ∀ p, p < n → ∃ s, s < n ∧ L s = p) (x : Int32) : ∃ h', cal X (d + 3) 265 [vP (some 72), vI x] (SK tx tu gu tl, h) = some (some (vI (btV n (32 * rkL (lsF L n 0)) x)), (SK tx tu gu tl, h')) ∧ smX is85 h h' := by
  obtain ⟨p1, p2⟩ := pm_ok hn L h5 hs
  have hd := ds_e n (by omega) _ p1
  have ha : 32 * rkL (lsF L n 0) < 32 * fc n := by omega
  obtain ⟨h1, a1, a2, a3⟩ := k_layFars X d tx tu gu tl hn h h0
  have e73 : gA h1 73 = gA h 73 := smA a2 (by unfold is85; omega)
  have kf := k_of0 X (d + 1) tx tu gu tl (L := L) hn h1 (by rw [e73, h0]) (fun i hi => by rw [e73]; exact H i hi) h5 hs
  generalize rkL (lsF L n 0) = r at *
  have lp := ph_lt hn ha
  have fr := fk_at a3 ha (by omega)
  have st : cal X (d + 3) 265 [vP (some 72), vI x] (SK tx tu gu tl, h) = m_X11_byTurns X (d + 2) 999997 23 [(0, vP (some 72)), (1, vI x), (2, vI (nI (phT n (32 * r))))] [vI (bzB (decide (-1 ≤ x) && decide (x ≤ nI (dsT n (32 * r)) - 1)))] (SK tx tu gu tl, h1) := by
    rw [c_X11_byTurns, e_X11_byTurns_0, a1, bV_s, e_X11_byTurns_4, kf, bI_s, e_X11_byTurns_9, inbI lp (by omega), fr, k_isIn, bI_s]
  have b1 := Int32.le_toInt x
  have b2 := Int32.toInt_lt x
  have t1 : (-1 : Int32).toInt = -1 := by decide
  have t0 : (0 : Int32).toInt = 0 := rfl
  have tD : (nI (dsT n (32 * r))).toInt = (dsT n (32 * r) : Int) := by rw [zI_nI, zI_toInt (by omega) (by omega)]
  have tE : (nI (dsT n (32 * r)) - 1).toInt = (dsT n (32 * r) : Int) - 1 := by
    rw [zI_nI, show (1 : Int32) = zI 1 from rfl, zI_sub, zI_toInt (by omega) (by omega)]
  have E1 : (-1 ≤ x) = (-1 ≤ x.toInt) := by rw [Int32.le_iff_toInt_le, t1]
  have E2 : (x ≤ nI (dsT n (32 * r)) - 1) = (x.toInt ≤ (dsT n (32 * r) : Int) - 1) := by rw [Int32.le_iff_toInt_le, tE]
  unfold btV
  by_cases z1 : x = -1
  · refine ⟨h1, ?_, a2⟩
    have zi : x.toInt = -1 := by rw [z1, t1]
    rw [st, if_pos z1, decide_eq_true (by rw [E1]; omega), decide_eq_true (by rw [E2]; omega), Bool.and_true, bz_t, e_X11_byTurns_23, if_neg one0, if_pos z1, inbI lp (by omega), fr]
  · have z1i : x.toInt ≠ -1 := fun e => z1 (by rw [← zI_to x, e]; rfl)
    rw [if_neg z1]
    by_cases z2 : x < 0
    · have z2i : x.toInt < 0 := by rwa [Int32.lt_iff_toInt_lt, t0] at z2
      refine ⟨h1, ?_, a2⟩
      rw [st, if_pos z2, decide_eq_false (by rw [E1]; omega), Bool.false_and, bz_f, e_X11_byTurns_23, if_pos rfl]
    · have z2i : 0 ≤ x.toInt := by
        rw [Int32.lt_iff_toInt_lt, t0] at z2
        omega
      rw [if_neg z2]
      by_cases z3 : x < nI (dsT n (32 * r))
      · have z3i : x.toInt < (dsT n (32 * r) : Int) := by rwa [Int32.lt_iff_toInt_lt, tD] at z3
        have xe : x = nI x.toInt.toNat := by rw [zI_nI, Int.toNat_of_nonneg z2i, zI_to]
        have h1n : 1 ≤ n := by
          by_cases y : n = 0
          · have : ∀ r, r < fc 0 → dsT 0 (32 * r) = 0 := by decide +kernel
            rw [y] at z3i p1
            rw [this r p1] at z3i
            omega
          · omega
        obtain ⟨h2, c1, c2⟩ := k_by46 X (d + 1) tx tu gu tl (i := x.toInt.toNat) h1n hn (by omega) x.toInt.toNat (32 * r) 0 0 h1 (by omega) ha (by omega) (by omega) (by rw [e73, h0]) a3
        refine ⟨h2, ?_, a2.tr (c1.mo fun c hc => Or.inr (Or.inr hc))⟩
        rw [st, if_pos z3, decide_eq_true (by rw [E1]; omega), decide_eq_true (by rw [E2]; omega), Bool.and_true, bz_t, e_X11_byTurns_23, if_neg one0, if_neg z1, xe, clI (by omega)]
        exact c2 999996 (by omega)
      · have z3i : (dsT n (32 * r) : Int) ≤ x.toInt := by
          rw [Int32.lt_iff_toInt_lt, tD] at z3
          omega
        refine ⟨h1, ?_, a2⟩
        rw [st, if_neg z3, decide_eq_false (p := x ≤ nI (dsT n (32 * r)) - 1) (by rw [E2]; omega), Bool.and_false, bz_f, e_X11_byTurns_23, if_pos rfl]
theorem x_bt0 {b n : Nat} {L : Nat → Nat} (hb : TuA b tl) (hn : n ≤ 5) (h : DT) (e1 : gF h 1 0 = nI n) (hL : ∀ j, j < n → gA h 5 j = nI (L j) ∧ L j < 5) (hr : rkL (lsF L n 0) < fc n) (HT : TuOk h b) (x : Int32) : ∃ h', (∀ f, (bV (cal X (d + 3) 92 [vP (some b), vI (gF h 1 0)] (SK tx (some b) gu tl, h)) fun H1 => m_X10_byTurns X (d + 3) (f + 1) 32 [(0, vP (some 0)), (1, vI x)] [] H1) = some (some (vI (btV n (32 * rkL (lsF L n 0)) x)), (SK tx (some b) gu tl, h'))) ∧ smX (fun c => b ≤ c ∧ c ≤ b + 4) h h' ∧ TuOk h' b := by
  obtain ⟨h1, a1, a2, a3, a4, a5⟩ := x_prep X d tx (some b) gu tl hb hn h HT
  have b95 := hb.b95
  refine ⟨h1, fun f => ?_, a2, Or.inr ⟨n, hn, a3, a4, a5⟩⟩
  rw [e1, a1, bV_s, e_X10_byTurnss_32 (hb := hb), x_ans X d tx (some b) gu tl (L := L) hb hn h1 (by rw [a2.F (by omega), e1]) (fun j hj => by rw [a2.A (by omega)]; exact hL j hj) hr a3 a4 a5, bI_s]
theorem x_byTurns {n : Nat} {L : Nat → Nat} (hLt : Late tu gu tl) (hn : n ≤ 5) (h : DT) (hT : ∀ b, tu = some b → TuOk h b) (e1 : gF h 1 0 = nI n) (hL : ∀ j, j < n → gA h 5 j = nI (L j) ∧ L j < 5) (hr : rkL (lsF L n 0) < fc n) (x : Int32) : ∃ b tl' h', cal X (d + 4) 121 [vP (some 0), vI x] (SK tx tu gu tl, h) = some (some (vI (btV n (32 * rkL (lsF L n 0)) x)), (SK tx (some b) gu tl', h')) ∧ Late (some b) gu tl' ∧ smX (fun c => 95 ≤ c) h h' ∧ TuOk h' b := by
  rcases id hLt with ⟨rfl, rfl, rfl⟩ | ⟨rfl, rfl, rfl⟩ | ⟨rfl, rfl, rfl⟩ | ⟨rfl, rfl, rfl⟩ | ⟨rfl, rfl, rfl⟩
  · have L2 : Late (some 95) none (TuC 95) := Or.inr (Or.inl ⟨rfl, rfl, rfl⟩)
    have s0 : smX (fun c => 95 ≤ c) h (zA (zA (zA (zA (sF (zF h 95) 95 0 (-1)) 96) 97) 98) 99) := smX.tr (smX.tr (smX.tr (smX.tr (smX.tr (smX_zF (by omega)) (smX_sF (by omega))) (smX_zA (by omega))) (smX_zA (by omega))) (smX_zA (by omega))) (smX_zA (by omega))
    have t0 : TuOk (zA (zA (zA (zA (sF (zF h 95) 95 0 (-1)) 96) 97) 98) 99) 95 := Or.inl (by
      show gF (sF (zF h 95) 95 0 (-1)) 95 0 = -1
      rw [gF_sF, if_pos ⟨rfl, rfl⟩])
    obtain ⟨h', k1, k2, k3⟩ := x_bt0 X d tx none (TuC 95) (L := L) L2.t hn _ (by rw [s0.F (by omega), e1]) (fun j hj => by rw [s0.A (by omega)]; exact hL j hj) hr t0 x
    refine ⟨95, TuC 95, h', ?_, L2, s0.tr (k2.mo fun c hc => by omega), k3⟩
    rw [c_X10_byTurnsn, e_X10_byTurnsn_0, c_X9_initn, e_X9_initn_0, bV_s]
    show m_X10_byTurns X (d + 3) 999999 15 _ _ (SK tx none none (TuC 95), _) = _
    rw [e_X10_byTurns_15 (hb := L2.t)]
    exact k1 999997
  · have hb := hLt.t
    obtain ⟨h', k1, k2, k3⟩ := x_bt0 X d tx _ _ (L := L) hb hn h e1 hL hr (hT _ rfl) x
    refine ⟨_, _, h', ?_, hLt, k2.mo fun c hc => by omega, k3⟩
    rw [c_X10_byTurnss, e_X10_byTurnss_0 (hb := hb)]
    exact k1 999998
  · have L2 : Late (some 98) (some 95) (GuC 95 ++ TuC 98) := Or.inr (Or.inr (Or.inr (Or.inr ⟨rfl, rfl, rfl⟩)))
    have s0 : smX (fun c => 95 ≤ c) h (zA (zA (zA (zA (sF (zF h 98) 98 0 (-1)) 99) 100) 101) 102) := smX.tr (smX.tr (smX.tr (smX.tr (smX.tr (smX_zF (by omega)) (smX_sF (by omega))) (smX_zA (by omega))) (smX_zA (by omega))) (smX_zA (by omega))) (smX_zA (by omega))
    have t0 : TuOk (zA (zA (zA (zA (sF (zF h 98) 98 0 (-1)) 99) 100) 101) 102) 98 := Or.inl (by
      show gF (sF (zF h 98) 98 0 (-1)) 98 0 = -1
      rw [gF_sF, if_pos ⟨rfl, rfl⟩])
    obtain ⟨h', k1, k2, k3⟩ := x_bt0 X d tx (some 95) (GuC 95 ++ TuC 98) (L := L) L2.t hn _ (by rw [s0.F (by omega), e1]) (fun j hj => by rw [s0.A (by omega)]; exact hL j hj) hr t0 x
    refine ⟨98, GuC 95 ++ TuC 98, h', ?_, L2, s0.tr (k2.mo fun c hc => by omega), k3⟩
    show cal X (d + 4) 121 [vP (some 0), vI x] (SK tx none (some 95) [cO 0 [none, some 96, some 97, some 40], cN 0 500, cN 0 1999], h) = _
    rw [c_X10_byTurnsm, e_X10_byTurnsm_0, c_X9_initm, e_X9_initm_0, bV_s]
    show m_X10_byTurns X (d + 3) 999999 15 _ _ (SK tx none (some 95) (GuC 95 ++ TuC 98), _) = _
    rw [e_X10_byTurns_15 (hb := L2.t)]
    exact k1 999997
  all_goals
    have hb := hLt.t
    obtain ⟨h', k1, k2, k3⟩ := x_bt0 X d tx _ _ (L := L) hb hn h e1 hL hr (hT _ rfl) x
    refine ⟨_, _, h', ?_, hLt, k2.mo fun c hc => by omega, k3⟩
    rw [c_X10_byTurnss, e_X10_byTurnss_0 (hb := hb)]
    exact k1 999998
theorem op_byTurns (hLt : Late tu gu tl) (h : DT) (H : Rel h) (hT : ∀ b, tu = some b → TuOk h b) (x : Int32) : ∃ v b tl' h1 h2, cal X 100 121 [vP (some 0), vI x] (SK tx tu gu tl, h) = some (some v, (SK tx (some b) gu tl', h1)) ∧ cal X 100 265 [vP (some 72), vI x] (SK tx (some b) gu tl', h1) = some (some v, (SK tx (some b) gu tl', h2)) ∧ Late (some b) gu tl' ∧ Rel h2 ∧ TuOk h2 b := by
  obtain ⟨n, t, k, n', t', k', L', TT, hA, hI, ht, hP, hF, hL'⟩ := id H
  have hn := hA.1.1.2.1
  have e0 : gA h 73 0 = nI n := hA.1.1.1
  have rv := hA.1.rv
  have sur := rv.2.2.2.2.2.2.2.2.2.2
  have cl : ∀ p : Nat, p < 5 → (nI p).toNatClampNeg % 5 = p := fun p hp => by rw [clI (by omega)]; omega
  have hs : ∀ p, p < n → ∃ s, s < n ∧ (fun i => (gA h 73 (17 + i)).toNatClampNeg % 5) s = p := fun p hp => by
    obtain ⟨s, s1, s2⟩ := sur p hp
    refine ⟨s, s1, ?_⟩
    show (gA h 73 (17 + s)).toNatClampNeg % 5 = p
    rw [show gA h 73 (17 + s) = nI p from s2, cl p (by omega)]
  have h5 : ∀ i, (fun i => (gA h 73 (17 + i)).toNatClampNeg % 5) i < 5 := fun i => Nat.mod_lt _ (by omega)
  have hv : ∀ i, i < n → gA h 73 (17 + i) = nI ((fun i => (gA h 73 (17 + i)).toNatClampNeg % 5) i) := fun i hi => by
    obtain ⟨p, p1, p2⟩ := rv.at hi
    show _ = nI ((gA h 73 (17 + i)).toNatClampNeg % 5)
    rw [p2, cl p (by omega)]
  generalize (fun i => (gA h 73 (17 + i)).toNatClampNeg % 5) = L at *
  obtain ⟨p1, p2⟩ := pm_ok hn L h5 hs
  have r0 := hA.2.1.r0
  obtain ⟨b, tl', h1, a1, a2, a3, a4⟩ := x_byTurns X 96 tx tu gu tl (L := L) hLt hn h hT (by rw [r0.1, e0]) (fun j hj => ⟨by rw [show gA h 5 j = gA h 73 (17 + j) from r0.2.2.2.2.2.2.2 j (by omega), hv j hj], h5 j⟩) p1 x
  have e73 : gA h1 73 = gA h 73 := smA a3 (by omega)
  obtain ⟨h2, b1, b2⟩ := k_byTurns X 97 tx (some b) gu tl' (L := L) hn h1 (by rw [e73, e0]) (fun i hi => by rw [e73]; exact hv i hi) h5 hs x
  have b95 := a2.t.b95
  refine ⟨_, b, tl', h1, h2, a1, b1, a2, H.to fun c c1 c2 => ⟨(smF b2 c2).trans (smF a3 (by omega)), (smA b2 c2).trans (smA a3 (by omega))⟩, ?_⟩
  rcases a4 with u | ⟨m, m1, m2, m3, m4⟩
  · exact Or.inl (by rw [b2.F (by unfold is85; omega)]; exact u)
  · refine Or.inr ⟨m, m1, by rw [b2.F (by unfold is85; omega)]; exact m2, fun r hr i hi => ?_, fun a ha => ?_⟩
    · rw [b2.A (by unfold is85; omega), b2.A (by unfold is85; omega)]
      exact m3 r hr i hi
    · rw [b2.A (by unfold is85; omega)]
      exact m4 a ha
end TZ
