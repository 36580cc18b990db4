/-! LEAVES of both -/
theorem i32lt {a b : Int32} : a < b ↔ a.toInt < b.toInt := Int32.lt_iff_toInt_lt
theorem i32le {a b : Int32} : a ≤ b ↔ a.toInt ≤ b.toInt := Int32.le_iff_toInt_le
theorem i32eq {a b : Int32} : a = b ↔ a.toInt = b.toInt := Int32.toInt_inj.symm
theorem nIt {n : Nat} (h : n < 2147483648) : (nI n).toInt = (n : Int) := nI_toInt h
theorem i0t : (0 : Int32).toInt = 0 := rfl
theorem i1t : (1 : Int32).toInt = 1 := rfl
theorem im1t : (-1 : Int32).toInt = -1 := rfl
theorem per_cs (x : Int32) {n : Nat} (hn : n < 2147483648) : (∃ j, j < n ∧ x = nI j) ∨ (x < 0 ∨ nI n ≤ x) := by
  by_cases h0 : x < 0
  · exact Or.inr (Or.inl h0)
  · by_cases h1 : nI n ≤ x
    · exact Or.inr (Or.inr h1)
    · left
      rw [i32lt, i0t] at h0
      rw [i32le, nIt hn] at h1
      refine ⟨x.toInt.toNat, by omega, i32eq.mpr ?_⟩
      rw [nIt (by omega)]
      omega
theorem nIm1 {n : Nat} (hn : n < 2147483648) : (nI n - 1).toInt = (n : Int) - 1 := by
  rw [zI_nI, show (1 : Int32) = zI 1 from rfl, zI_sub, zI_toInt (by omega) (by omega)]
theorem in_dec {v lo hi : Int32} (h : lo ≤ v ∧ v ≤ hi) : (decide (lo ≤ v) && decide (v ≤ hi)) = true := by simp [h.1, h.2]
theorem in_decf {v lo hi : Int32} (h : ¬ (lo ≤ v ∧ v ≤ hi)) : (decide (lo ≤ v) && decide (v ≤ hi)) = false := by
  by_cases h1 : lo ≤ v
  · rw [Bool.and_eq_false_iff]
    exact Or.inr (decide_eq_false fun q => h ⟨h1, q⟩)
  · rw [Bool.and_eq_false_iff]
    exact Or.inl (decide_eq_false h1)
theorem per_t {n j : Nat} (hn : n ≤ 5) (hj : j < n) : (decide (0 ≤ nI j) && decide (nI j ≤ nI n - 1)) = true := by
  refine in_dec ⟨?_, ?_⟩
  · rw [i32le, i0t, nIt (by omega)]; omega
  · rw [i32le, nIm1 (by omega), nIt (by omega)]; omega
theorem per_f {x : Int32} {n : Nat} (hn : n ≤ 5) (hx : x < 0 ∨ nI n ≤ x) : (decide (0 ≤ x) && decide (x ≤ nI n - 1)) = false := by
  refine in_decf fun ⟨q1, q2⟩ => ?_
  rw [i32le, i0t] at q1
  rw [i32le, nIm1 (by omega)] at q2
  rcases hx with h | h
  · rw [i32lt, i0t] at h; omega
  · rw [i32le, nIt (by omega)] at h; omega
theorem one0 : ¬ (1 : Int32) = 0 := by decide
section LF
variable (X : XS) (d : Nat) (tx tu gu : Option Nat) (tl : List SC) (h : DT)
theorem k_isIn (v lo hi : Int32) : cal X (d + 1) 162 [vI v, vI lo, vI hi] (SK tx tu gu tl, h) = some (some (vI (bzB (decide (lo ≤ v) && decide (v ≤ hi)))), (SK tx tu gu tl, h)) := by
  rw [c_X11_isIn, e_X11_isIn_0]
  by_cases h1 : v < lo
  · rw [if_pos h1]; simp [bzB, i32_lt_nle h1]
  · rw [if_neg h1]
    by_cases h2 : hi < v
    · rw [if_pos h2]; simp [bzB, i32_lt_nle h2]
    · rw [if_neg h2]; simp [bzB, i32_nlt h1, i32_nlt h2]
theorem x_within (v lo hi : Int32) : cal X (d + 1) 146 [vI v, vI lo, vI hi] (SK tx tu gu tl, h) = some (some (vI (bzB (decide (lo ≤ v) && decide (v ≤ hi)))), (SK tx tu gu tl, h)) := by
  rw [c_X10_within, e_X10_within_0]
  by_cases h1 : v < lo
  · rw [if_pos h1]; simp [bzB, i32_lt_nle h1]
  · rw [if_neg h1]
    by_cases h2 : hi < v
    · rw [if_pos h2]; simp [bzB, i32_lt_nle h2]
    · rw [if_neg h2]; simp [bzB, i32_nlt h1, i32_nlt h2]
theorem k_isSteep (x : Int32) : cal X (d + 2) 168 [vI x] (SK tx tu gu tl, h) = some (some (vI (bzB (decide (-9 ≤ x) && decide (x ≤ 9)))), (SK tx tu gu tl, h)) := by
  rw [c_X11_isSteep, e_X11_isSteep_0, k_isIn, bI_s, if_pos (bz01 _)]
theorem x_isSlant (x : Int32) : cal X (d + 2) 147 [vI x] (SK tx tu gu tl, h) = some (some (vI (bzB (decide (-9 ≤ x) && decide (x ≤ 9)))), (SK tx tu gu tl, h)) := by
  rw [c_X10_isSlant, e_X10_isSlant_0, x_within, bI_s, if_pos (bz01 _)]
theorem k_isSeat (x : Int32) : cal X (d + 2) 169 [vI x] (SK tx tu gu tl, h) = some (some (vI (bzB (decide (0 ≤ x) && decide (x ≤ 4)))), (SK tx tu gu tl, h)) := by
  rw [c_X11_isSeat, e_X11_isSeat_0, k_isIn, bI_s, if_pos (bz01 _)]
theorem k_isPerson (x : Int32) : cal X (d + 2) 167 [vP (some 72), vI x] (SK tx tu gu tl, h) = some (some (vI (bzB (decide (0 ≤ x) && decide (x ≤ gA h 73 0 - 1)))), (SK tx tu gu tl, h)) := by
  rw [c_X11_isPerson, e_X11_isPerson_0, k_isIn, bI_s, if_pos (bz01 _)]
theorem k_per_t {n j : Nat} (ha : gA h 73 0 = nI n) (hn : n ≤ 5) (hj : j < n) : cal X (d + 2) 167 [vP (some 72), vI (nI j)] (SK tx tu gu tl, h) = some (some (vI 1), (SK tx tu gu tl, h)) := by
  rw [k_isPerson, ha, per_t hn hj, bz_t]
theorem k_per_f {n : Nat} {x : Int32} (ha : gA h 73 0 = nI n) (hn : n ≤ 5) (hx : x < 0 ∨ nI n ≤ x) : cal X (d + 2) 167 [vP (some 72), vI x] (SK tx tu gu tl, h) = some (some (vI 0), (SK tx tu gu tl, h)) := by
  rw [k_isPerson, ha, per_f hn hx, bz_f]
theorem x_has_t {n j p : Nat} (hp : p = 1 ∨ p = 31) (ha : gF h p 0 = nI n) (hn : n ≤ 5) (hj : j < n) : cal X (d + 1) 56 [vP (some p), vI (nI j)] (SK tx tu gu tl, h) = some (some (vI 1), (SK tx tu gu tl, h)) := by
  rw [c_X5_has, e_X5_has_0 (hp := hp), if_neg (nI_pos (by omega)), ha, if_neg (nI_ge (by omega) (by omega))]
theorem x_has_f {n p : Nat} {x : Int32} (hp : p = 1 ∨ p = 31) (ha : gF h p 0 = nI n) (hx : x < 0 ∨ nI n ≤ x) : cal X (d + 1) 56 [vP (some p), vI x] (SK tx tu gu tl, h) = some (some (vI 0), (SK tx tu gu tl, h)) := by
  rw [c_X5_has, e_X5_has_0 (hp := hp), ha]
  by_cases h0 : x < 0
  · rw [if_pos h0]
  · rw [if_neg h0, if_pos (hx.resolve_left h0)]
theorem k_slantIn_t {n s q : Nat} (ha : gA h 73 0 = nI n) (hn : n ≤ 5) (hs : s < n) (hq : gA h 73 (17 + s) = nI q) (hq5 : q < 5) : cal X (d + 3) 170 [vP (some 72), vI (nI s)] (SK tx tu gu tl, h) = some (some (vI (gA h 73 (12 + q))), (SK tx tu gu tl, h)) := by
  rw [c_X11_slantIn, e_X11_slantIn_0, k_per_t X d tx tu gu tl h ha hn hs, bI_s, e_X11_slantIn_5, if_neg one0, litI 17, addI, inbI (by omega) (by omega), hq, litI 12, addI, inbI (by omega) (by omega)]
theorem k_slantIn_f {n : Nat} {x : Int32} (ha : gA h 73 0 = nI n) (hn : n ≤ 5) (hx : x < 0 ∨ nI n ≤ x) : cal X (d + 3) 170 [vP (some 72), vI x] (SK tx tu gu tl, h) = some (some (vI 0), (SK tx tu gu tl, h)) := by
  rw [c_X11_slantIn, e_X11_slantIn_0, k_per_f X d tx tu gu tl h ha hn hx, bI_s, e_X11_slantIn_5, if_pos rfl]
theorem x_slantIn_t {n s q p : Nat} (hp : p = 1 ∨ p = 31) (ha : gF h p 0 = nI n) (hn : n ≤ 5) (hs : s < n) (hq : gA h (p + 4) s = nI q) (hq5 : q < 5) : cal X (d + 1) 58 [vP (some p), vI (nI s)] (SK tx tu gu tl, h) = some (some (vI (gA h (p + 1) q)), (SK tx tu gu tl, h)) := by
  rw [c_X5_slantIn, e_X5_slantIn_0 (hp := hp), if_neg (nI_pos (by omega)), ha, if_neg (nI_ge (by omega) (by omega)), inbI (by omega) (by omega), hq, inbI (by omega) (by omega)]
theorem x_slantIn_f {n p : Nat} {x : Int32} (hp : p = 1 ∨ p = 31) (ha : gF h p 0 = nI n) (hx : x < 0 ∨ nI n ≤ x) : cal X (d + 1) 58 [vP (some p), vI x] (SK tx tu gu tl, h) = some (some (vI 0), (SK tx tu gu tl, h)) := by
  rw [c_X5_slantIn, e_X5_slantIn_0 (hp := hp), ha]
  by_cases h0 : x < 0
  · rw [if_pos h0]
  · rw [if_neg h0, if_pos (hx.resolve_left h0)]
theorem seatOf_lp (x : Int32) (s : Nat) (hs : gA h 73 (17 + s) = x) (h5 : s < 5) : ∀ (k i f : Nat), i + k = s → (∀ j, i ≤ j → j < s → gA h 73 (17 + j) ≠ x) → k < f → m_X11_seatOf X d f 2 [(0, vP (some 72)), (1, vI x), (2, vI (nI i))] [] (SK tx tu gu tl, h) = some (some (vI (nI s)), (SK tx tu gu tl, h))
  | 0, i, 0, hi, hj, hf => absurd hf (Nat.not_lt_zero _)
  | 0, i, f + 1, hi, hj, hf => by
    obtain rfl : i = s := by omega
    rw [e_X11_seatOf_2, litI 17, addI, inbI (by omega) (by omega), if_pos hs]
  | k + 1, i, 0, hi, hj, hf => absurd hf (Nat.not_lt_zero _)
  | k + 1, i, f + 1, hi, hj, hf => by
    rw [e_X11_seatOf_2, litI 17, addI, inbI (by omega) (by omega), if_neg (hj i (Nat.le_refl _) (by omega)), nI_1]
    exact seatOf_lp x s hs h5 k (i + 1) f (by omega) (fun j h1 h2 => hj j (by omega) h2) (by omega)
theorem k_seatOf {x : Int32} {s : Nat} (hs : gA h 73 (17 + s) = x) (h5 : s < 5) (hj : ∀ j, j < s → gA h 73 (17 + j) ≠ x) : cal X (d + 1) 171 [vP (some 72), vI x] (SK tx tu gu tl, h) = some (some (vI (nI s)), (SK tx tu gu tl, h)) := by
  rw [c_X11_seatOf, e_X11_seatOf_0]
  exact seatOf_lp X d tx tu gu tl h x s hs h5 s 0 999999 (by omega) (fun j _ h2 => hj j h2) (by omega)
theorem xseatOf_lp {p n : Nat} (hp : p = 1 ∨ p = 31) (ha : gF h p 0 = nI n) (hn : n ≤ 5) (x : Int32) (s : Nat) (hs : gA h (p + 4) s = x) (h5 : s < n) : ∀ (k i f : Nat), i + k = s → (∀ j, i ≤ j → j < s → gA h (p + 4) j ≠ x) → k < f → m_X5_seatOf X d f 2 [(0, vP (some p)), (1, vI x), (2, vI (nI i))] [] (SK tx tu gu tl, h) = some (some (vI (nI s)), (SK tx tu gu tl, h))
  | 0, i, 0, hi, hj, hf => absurd hf (Nat.not_lt_zero _)
  | 0, i, f + 1, hi, hj, hf => by
    obtain rfl : i = s := by omega
    rw [e_X5_seatOf_2 (hp := hp), ha, if_neg (nI_ge (by omega) (by omega)), inbI (by omega) (by omega), if_pos hs]
  | k + 1, i, 0, hi, hj, hf => absurd hf (Nat.not_lt_zero _)
  | k + 1, i, f + 1, hi, hj, hf => by
    rw [e_X5_seatOf_2 (hp := hp), ha, if_neg (nI_ge (by omega) (by omega)), inbI (by omega) (by omega), if_neg (hj i (Nat.le_refl _) (by omega)), nI_1]
    exact xseatOf_lp hp ha hn x s hs h5 k (i + 1) f (by omega) (fun j h1 h2 => hj j (by omega) h2) (by omega)
theorem x_seatOf {p n : Nat} {x : Int32} {s : Nat} (hp : p = 1 ∨ p = 31) (ha : gF h p 0 = nI n) (hn : n ≤ 5) (hs : gA h (p + 4) s = x) (h5 : s < n) (hj : ∀ j, j < s → gA h (p + 4) j ≠ x) : cal X (d + 1) 59 [vP (some p), vI x] (SK tx tu gu tl, h) = some (some (vI (nI s)), (SK tx tu gu tl, h)) := by
  rw [c_X5_seatOf, e_X5_seatOf_0 (hp := hp)]
  exact xseatOf_lp X d tx tu gu tl h hp ha hn x s hs h5 s 0 999999 (by omega) (fun j _ h2 => hj j h2) (by omega)
theorem k_begin {p : Nat} (hp : p < 5) : cal X (d + 1) 173 [vP (some 72), vI (nI p)] (SK tx tu gu tl, h) = some (none, (SK tx tu gu tl, wA h 73 (upd (upd (gA h 73) (12 + p) (gA h 73 (27 + p))) (17 + p) (nI p)))) := by
  rw [c_X11_begin, e_X11_begin_0, litI 27, addI, inbI (by omega) (by omega), litI 12, addI, inbI (by omega) (by omega), litI 17, addI, inbI (by omega) (by omega), sA_w, sA_w, gA_wA', wA_wA]
theorem k_size (x : Int32) : cal X (d + 1) 164 [vI x] (SK tx tu gu tl, h) = some (some (vI (if 0 ≤ x then x else -x)), (SK tx tu gu tl, h)) := by
  rw [c_X11_size, e_X11_size_0]
  by_cases h1 : 0 ≤ x
  · rw [if_pos h1, if_pos h1]
  · rw [if_neg h1, if_neg h1]
end LF
