/-! LIKELY, FIRST: the operations -/
theorem sl_cs {x : Int32} (h : (decide (-9 ≤ x) && decide (x ≤ 9)) = true) : ∃ a, a < 19 ∧ x + 9 = nI a := by
  rw [Bool.and_eq_true, decide_eq_true_eq, decide_eq_true_eq] at h
  obtain ⟨z, h1, h2, rfl⟩ := in_z (lo := -9) (hi := 9) h.1 h.2 (by omega) (by omega) (by omega) (by omega)
  refine ⟨(z + 9).toNat, by omega, ?_⟩
  rw [show (9 : Int32) = zI 9 from rfl, zI_add, zI_nI]
  congr 1
  omega
section OO
variable (X : XS) (d : Nat) (tx tu gu : Option Nat) (tl : List SC)
theorem LB.z {h : DT} {c : Nat} {P : Nat → Nat} (H : LB h c P) : LB h c (zer false P) := fun i hi => by
  unfold zer
  rw [if_neg (by simp)]
  exact H i hi
theorem k_lk31 {a : Nat} (ha : a < 19) (x1 x2 x3 x4 : Int32) (hx : x1 + 9 = nI a) : ∀ (c i : Nat) (h : DT), i + c = 19 → (∀ j, j < i → gB h 92 j = lM (one9 a j)) → ∃ h', (∀ f, m_X11_likely X d (f + c + 1) 31 [(0, vP (some 72)), (1, vI x1), (2, vI x2), (3, vI x3), (4, vI x4), (5, vI (nI i))] [] (SK tx tu gu tl, h) = m_X11_likely X d f 68 [(0, vP (some 72)), (2, vI x2), (3, vI x3), (4, vI x4), (5, vI (nI 0))] [] (SK tx tu gu tl, h')) ∧ KZ h h' ∧ LB h' 92 (one9 a)
  | 0, i, h, hi, hd => by
    refine ⟨h, fun f => ?_, smX.rf _ h, fun j hj => hd j (by omega)⟩
    rw [e_X11_likely_31, litI 19, if_pos (nI_le (by omega) (by omega))]
    rfl
  | c + 1, i, h, hi, hd => by
    obtain ⟨h', k1, k2, k3⟩ := k_lk31 ha x1 x2 x3 x4 hx c (i + 1) (sB h 92 i (lM (one9 a i))) (by omega) (fun j hj => by
      rw [gB_sB]
      by_cases z : j = i
      · subst z
        rw [if_pos ⟨rfl, rfl⟩]
      · rw [if_neg (by omega)]
        exact hd j (by omega))
    refine ⟨h', fun f => ?_, smX.tr (smX_sB (by omega)) k2, k3⟩
    rw [show f + (c + 1) + 1 = f + c + 1 + 1 by omega, e_X11_likely_31, litI 19, if_neg (nI_ge (by omega) (by omega)), hx, nI_1, ← k1 f]
    unfold one9
    by_cases z : i = a
    · rw [if_pos (congrArg nI z), if_pos z, inbI (by omega) (by omega)]
      rfl
    · rw [if_neg (fun q => z ((nI_eq (by omega) (by omega)).mp q)), if_neg z, inbI (by omega) (by omega)]
      rfl
theorem k_fi24 {a : Nat} (ha : a < 19) (x1 x2 x3 : Int32) (hx : x1 + 9 = nI a) : ∀ (c i : Nat) (h : DT), i + c = 19 → (∀ j, j < i → gB h 92 j = lM (one9 a j)) → ∃ h', (∀ f, m_X11_first X d (f + c + 1) 24 [(0, vP (some 72)), (1, vI x1), (2, vI x2), (3, vI x3), (4, vI (nI i))] [] (SK tx tu gu tl, h) = m_X11_first X d f 61 [(0, vP (some 72)), (2, vI x2), (3, vI x3), (4, vI (nI 0))] [] (SK tx tu gu tl, h')) ∧ KZ h h' ∧ LB h' 92 (one9 a)
  | 0, i, h, hi, hd => by
    refine ⟨h, fun f => ?_, smX.rf _ h, fun j hj => hd j (by omega)⟩
    rw [e_X11_first_24, litI 19, if_pos (nI_le (by omega) (by omega))]
    rfl
  | c + 1, i, h, hi, hd => by
    obtain ⟨h', k1, k2, k3⟩ := k_fi24 ha x1 x2 x3 hx c (i + 1) (sB h 92 i (lM (one9 a i))) (by omega) (fun j hj => by
      rw [gB_sB]
      by_cases z : j = i
      · subst z
        rw [if_pos ⟨rfl, rfl⟩]
      · rw [if_neg (by omega)]
        exact hd j (by omega))
    refine ⟨h', fun f => ?_, smX.tr (smX_sB (by omega)) k2, k3⟩
    rw [show f + (c + 1) + 1 = f + c + 1 + 1 by omega, e_X11_first_24, litI 19, if_neg (nI_ge (by omega) (by omega)), hx, nI_1, ← k1 f]
    unfold one9
    by_cases z : i = a
    · rw [if_pos (congrArg nI z), if_pos z, inbI (by omega) (by omega)]
      rfl
    · rw [if_neg (fun q => z ((nI_eq (by omega) (by omega)).mp q)), if_neg z, inbI (by omega) (by omega)]
      rfl
theorem k_lk68 {N a : Nat} (hN : N ≤ 20) (ha : a < 19) (x3 x4 : Int32) (hx : x3 + 9 = nI a) : ∀ (c k f : Nat) (P : Nat → Nat) (h : DT), k + c = N → LB h 92 P → spN false c P a ≤ 3 ^ N → c + 1 ≤ f → ∃ h', m_X11_likely X (d + 2) f 68 [(0, vP (some 72)), (2, vI (nI N)), (3, vI x3), (4, vI x4), (5, vI (nI k))] [] (SK tx tu gu tl, h) = some (some (vL (oddV (spN false c P a) N x4)), (SK tx tu gu tl, h')) ∧ KZ h h'
  | 0, k, f, P, h, hk, hP, hu, hf => by
    obtain ⟨f, rfl⟩ : ∃ g, f = g + 1 := ⟨f - 1, by omega⟩
    refine ⟨h, ?_, smX.rf _ h⟩
    rw [e_X11_likely_68, if_pos (nI_le (by omega) (by omega)), hx, inbI (by omega) (by omega), k_threes X (d + 1) tx tu gu tl hN, bL_s, hP a ha, k_part X d tx tu gu tl hN (show P a ≤ 3 ^ N from hu), bL_s]
    rfl
  | c + 1, k, f, P, h, hk, hP, hu, hf => by
    obtain ⟨f, rfl⟩ : ∃ g, f = g + 1 := ⟨f - 1, by omega⟩
    obtain ⟨h1, g1, g2, g3⟩ := k_goOne X (d + 1) tx tu gu tl h hP.z
    obtain ⟨h2, j1, j2⟩ := k_lk68 hN ha x3 x4 hx c (k + 1) f (gos (zer false P)) h1 (by omega) g3 hu (by omega)
    refine ⟨h2, ?_, g2.tr j2⟩
    rw [e_X11_likely_68, if_neg (nI_ge (by omega) (by omega)), g1, bV_s, nI_1]
    exact j1
theorem k_fi61 {N : Nat} (hN : N ≤ 20) (x3 : Int32) : ∀ (c k f : Nat) (P : Nat → Nat) (h : DT), k + c = N → LB h 92 P → spN true c P 9 ≤ 3 ^ N → c + 1 ≤ f → ∃ h', m_X11_first X (d + 2) f 61 [(0, vP (some 72)), (2, vI (nI N)), (3, vI x3), (4, vI (nI k))] [] (SK tx tu gu tl, h) = some (some (vL (oddV (spN true c P 9) N x3)), (SK tx tu gu tl, h')) ∧ KZ h h'
  | 0, k, f, P, h, hk, hP, hu, hf => by
    obtain ⟨f, rfl⟩ : ∃ g, f = g + 1 := ⟨f - 1, by omega⟩
    refine ⟨h, ?_, smX.rf _ h⟩
    rw [e_X11_first_61, if_pos (nI_le (by omega) (by omega)), k_threes X (d + 1) tx tu gu tl hN, bL_s, hP 9 (by omega), k_part X d tx tu gu tl hN (show P 9 ≤ 3 ^ N from hu), bL_s]
    rfl
  | c + 1, k, f, P, h, hk, hP, hu, hf => by
    obtain ⟨f, rfl⟩ : ∃ g, f = g + 1 := ⟨f - 1, by omega⟩
    have hz : LB (sB h 92 9 0) 92 (zer true P) := fun j hj => by
      rw [gB_sB]
      unfold zer
      by_cases z : j = 9
      · rw [if_pos ⟨rfl, z⟩, if_pos ⟨rfl, z⟩]
        rfl
      · rw [if_neg (fun q => z q.2), if_neg (fun q => z q.2)]
        exact hP j hj
    obtain ⟨h1, g1, g2, g3⟩ := k_goOne X (d + 1) tx tu gu tl (sB h 92 9 0) hz
    obtain ⟨h2, j1, j2⟩ := k_fi61 hN x3 c (k + 1) f (gos (zer true P)) h1 (by omega) g3 hu (by omega)
    refine ⟨h2, ?_, (smX.tr (smX_sB (by omega)) g2).tr j2⟩
    rw [e_X11_first_61, if_neg (nI_ge (by omega) (by omega)), g1, bV_s, nI_1]
    exact j1
theorem op_likely {n t k : Nat} (h : DT) (H : RA h (gA h 73) n t k) (x1 x2 x3 x4 : Int32) : OpA X tx tu gu tl h n t k 133 [vP (some 0), vI x1, vI x2, vI x3, vI x4] 289 [vP (some 72), vI x1, vI x2, vI x3, vI x4] := by
  cases d1 : (decide (-9 ≤ x1) && decide (x1 ≤ 9)) with
  | false =>
    refine OpA_id (v := vL (-1)) H ?_ ?_
    · rw [c_X10_likely, e_X10_likely_0, x_isSlant, d1, bz_f, bI_s, if_pos rfl]
    · rw [c_X11_likely, e_X11_likely_0, k_isSteep, d1, bz_f, bI_s, if_pos rfl]
  | true =>
    cases d3 : (decide (-9 ≤ x3) && decide (x3 ≤ 9)) with
    | false =>
      refine OpA_id (v := vL (-1)) H ?_ ?_
      · rw [c_X10_likely, e_X10_likely_0, x_isSlant, d1, bz_t, bI_s, if_neg one0, x_within, bI_s]
        cases (decide (0 ≤ x2) && decide (x2 ≤ 20)) with
        | false => rw [bz_f, if_pos rfl]
        | true => rw [bz_t, if_neg one0, x_isSlant, d3, bz_f, bI_s, e_X10_likely_21, if_pos rfl]
      · rw [c_X11_likely, e_X11_likely_0, k_isSteep, d1, bz_t, bI_s, if_neg one0, k_isSteep, d3, bz_f, bI_s, if_pos rfl]
    | true =>
      rcases rg_cs x2 0 20 (by omega) with ⟨N, n1, n2, rfl, hd⟩ | hd
      · replace hd : (decide (0 ≤ nI N) && decide (nI N ≤ 20)) = true := hd
        obtain ⟨a, ha, ea⟩ := sl_cs d1
        obtain ⟨c, hc, ec⟩ := sl_cs d3
        have hu := spN_le false N 0 (one9 a) (one9_le a) c hc
        rw [Nat.zero_add] at hu
        obtain ⟨h1, a1, a2, a3⟩ := x_spread X 98 tx tu gu tl (N := N) n2 ha false x1 ea h
        obtain ⟨h2, b1, b2, b3⟩ := k_lk31 X 99 tx tu gu tl ha x1 (nI N) x3 x4 ea 19 0 h1 (by omega) (fun j hj => by omega)
        obtain ⟨h3, c1, c2⟩ := k_lk68 X 97 tx tu gu tl n2 hc x3 x4 ec N 0 999979 (one9 a) h2 (by omega) b3 hu (by omega)
        refine OpA_z (v := vL (oddV (spN false N (one9 a) c) N x4)) H ?_ a2 ?_ (b2.tr c2)
        · rw [c_X10_likely, e_X10_likely_0, x_isSlant, d1, bz_t, bI_s, if_neg one0, x_within, hd, bz_t, bI_s, if_neg one0, x_isSlant, d3, bz_t, bI_s, e_X10_likely_21, if_neg one0, show (0 : Int32) = bzB false from rfl, a1, bV_s, e_X10_likely_38, x_share X 98 tx tu gu tl n2 hc x3 x4 ec h1 a3 hu, bL_s]
        · rw [c_X11_likely, e_X11_likely_0, k_isSteep, d1, bz_t, bI_s, if_neg one0, k_isSteep, d3, bz_t, bI_s, if_neg one0, k_isIn, hd, bz_t, bI_s, if_neg one0]
          exact (b1 999979).trans c1
      · replace hd : (decide (0 ≤ x2) && decide (x2 ≤ 20)) = false := hd
        refine OpA_id (v := vL (-1)) H ?_ ?_
        · rw [c_X10_likely, e_X10_likely_0, x_isSlant, d1, bz_t, bI_s, if_neg one0, x_within, hd, bz_f, bI_s, if_pos rfl]
        · rw [c_X11_likely, e_X11_likely_0, k_isSteep, d1, bz_t, bI_s, if_neg one0, k_isSteep, d3, bz_t, bI_s, if_neg one0, k_isIn, hd, bz_f, bI_s, if_pos rfl]
theorem op_first {n t k : Nat} (h : DT) (H : RA h (gA h 73) n t k) (x1 x2 x3 : Int32) : OpA X tx tu gu tl h n t k 134 [vP (some 0), vI x1, vI x2, vI x3] 290 [vP (some 72), vI x1, vI x2, vI x3] := by
  cases d1 : (decide (-9 ≤ x1) && decide (x1 ≤ 9)) with
  | false =>
    refine OpA_id (v := vL (-1)) H ?_ ?_
    · rw [c_X10_first, e_X10_first_0, x_isSlant, d1, bz_f, bI_s, if_pos rfl]
    · rw [c_X11_first, e_X11_first_0, k_isSteep, d1, bz_f, bI_s, if_pos rfl]
  | true =>
    rcases rg_cs x2 0 20 (by omega) with ⟨N, n1, n2, rfl, hd⟩ | hd
    · replace hd : (decide (0 ≤ nI N) && decide (nI N ≤ 20)) = true := hd
      obtain ⟨a, ha, ea⟩ := sl_cs d1
      have hu := spN_le true N 0 (one9 a) (one9_le a) 9 (by omega)
      rw [Nat.zero_add] at hu
      obtain ⟨h1, a1, a2, a3⟩ := x_spread X 98 tx tu gu tl (N := N) n2 ha true x1 ea h
      obtain ⟨h2, b1, b2, b3⟩ := k_fi24 X 99 tx tu gu tl ha x1 (nI N) x3 ea 19 0 h1 (by omega) (fun j hj => by omega)
      obtain ⟨h3, c1, c2⟩ := k_fi61 X 97 tx tu gu tl n2 x3 N 0 999979 (one9 a) h2 (by omega) b3 hu (by omega)
      refine OpA_z (v := vL (oddV (spN true N (one9 a) 9) N x3)) H ?_ a2 ?_ (b2.tr c2)
      · rw [c_X10_first, e_X10_first_0, x_isSlant, d1, bz_t, bI_s, if_neg one0, x_within, hd, bz_t, bI_s, e_X10_first_14, if_neg one0]
        rw [show cal X 99 16 [vP (some 47), vI x1, vI (nI N), vI 1] (SK tx tu gu tl, h) = some (none, (SK tx tu gu tl, h1)) from a1, bV_s, e_X10_first_31, x_share X 98 tx tu gu tl n2 (a := 9) (by omega) 0 x3 rfl h1 a3 hu, bL_s]
      · rw [c_X11_first, e_X11_first_0, k_isSteep, d1, bz_t, bI_s, if_neg one0, k_isIn, hd, bz_t, bI_s, if_neg one0]
        exact (b1 999979).trans c1
    · replace hd : (decide (0 ≤ x2) && decide (x2 ≤ 20)) = false := hd
      refine OpA_id (v := vL (-1)) H ?_ ?_
      · rw [c_X10_first, e_X10_first_0, x_isSlant, d1, bz_t, bI_s, if_neg one0, x_within, hd, bz_f, bI_s, e_X10_first_14, if_pos rfl]
      · rw [c_X11_first, e_X11_first_0, k_isSteep, d1, bz_t, bI_s, if_neg one0, k_isIn, hd, bz_f, bI_s, if_pos rfl]
end OO
