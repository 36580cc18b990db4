/-! THE REFERENCE: its leaves -/
theorem ixa {c : Int32} (a j : Nat) (hc : c = nI a) : c + nI j = nI (a + j) := by rw [hc, nI_add]
section M1
variable (X : XS) (d : Nat) (tx tu gu : Option Nat) (tl : List SC) (h : DT)
theorem k_isIn (v lo hi : Int32) : cal X (d + 1) 162 [vI v, vI lo, vI hi] (SK tx tu gu tl, h) = some (some (vI (bzB (decide (lo ≤ v) && decide (v ≤ hi)))), (SK tx tu gu tl, h)) := by
  rw [c_X11_isIn, e_X11_isIn_0]
  by_cases h1 : v < lo
  · rw [if_pos h1]; simp [bzB, i32_lt_nle h1]
  · rw [if_neg h1]
    by_cases h2 : hi < v
    · rw [if_pos h2]; simp [bzB, i32_lt_nle h2]
    · rw [if_neg h2]; simp [bzB, i32_nlt h1, i32_nlt h2]
theorem k_isSteep (x : Int32) : cal X (d + 2) 168 [vI x] (SK tx tu gu tl, h) = some (some (vI (bzB (decide (-9 ≤ x) && decide (x ≤ 9)))), (SK tx tu gu tl, h)) := by
  rw [c_X11_isSteep, e_X11_isSteep_0, k_isIn, bI_s, if_pos (bz01 _)]
theorem k_isSeat (x : Int32) : cal X (d + 2) 169 [vI x] (SK tx tu gu tl, h) = some (some (vI (bzB (decide (0 ≤ x) && decide (x ≤ 4)))), (SK tx tu gu tl, h)) := by
  rw [c_X11_isSeat, e_X11_isSeat_0, k_isIn, bI_s, if_pos (bz01 _)]
theorem k_isPerson (x : Int32) : cal X (d + 2) 167 [vP (some 72), vI x] (SK tx tu gu tl, h) = some (some (vI (bzB (decide (0 ≤ x) && decide (x ≤ gA h 73 0 - 1)))), (SK tx tu gu tl, h)) := by
  rw [c_X11_isPerson, e_X11_isPerson_0, k_isIn, bI_s, if_pos (bz01 _)]
theorem per_t {a : Int32} {n p : Nat} (ha : a = nI n) (hn : n ≤ 5) (hp : p < n) : (decide (0 ≤ nI p) && decide (nI p ≤ a - 1)) = true := by
  obtain ⟨m, rfl⟩ : ∃ m, n = m + 1 := ⟨n - 1, by omega⟩
  rw [ha, nI_pred]
  have h1 : (0 : Int32) ≤ nI p := nI_pos' (by omega)
  have h2 : nI p ≤ nI m := nI_le (by omega) (by omega)
  simp [h1, h2]
theorem per_f {a x : Int32} {n : Nat} (ha : a = nI n) (hn : n ≤ 5) (hp : ∀ p, p < n → x ≠ nI p) : (decide (0 ≤ x) && decide (x ≤ a - 1)) = false := by
  rw [Bool.and_eq_false_iff]
  by_cases h0 : 0 ≤ x
  · right
    rw [decide_eq_false_iff_not]
    intro h1
    have hx : 0 ≤ x.toInt := by have := Int32.le_iff_toInt_le.mp h0; simpa using this
    cases n with
    | zero =>
      rw [ha] at h1
      have e : (nI 0 - 1 : Int32) = -1 := rfl
      rw [e] at h1
      have := Int32.le_iff_toInt_le.mp h1
      have e2 : (-1 : Int32).toInt = -1 := rfl
      omega
    | succ m =>
      rw [ha, nI_pred] at h1
      have h2 := Int32.le_iff_toInt_le.mp h1
      rw [nI_toInt (by omega)] at h2
      refine hp x.toInt.toNat (by omega) (Int32.toInt_inj.mp ?_)
      rw [nI_toInt (by omega)]
      omega
  · left
    exact decide_eq_false h0
theorem k_person_t {n p : Nat} (ha : gA h 73 0 = nI n) (hn : n ≤ 5) (hp : p < n) : cal X (d + 2) 167 [vP (some 72), vI (nI p)] (SK tx tu gu tl, h) = some (some (vI 1), (SK tx tu gu tl, h)) := by
  rw [k_isPerson, per_t ha hn hp, bz_t]
theorem k_person_f {n : Nat} {x : Int32} (ha : gA h 73 0 = nI n) (hn : n ≤ 5) (hp : ∀ p, p < n → x ≠ nI p) : cal X (d + 2) 167 [vP (some 72), vI x] (SK tx tu gu tl, h) = some (some (vI 0), (SK tx tu gu tl, h)) := by
  rw [k_isPerson, per_f ha hn hp, bz_f]
theorem k_slantIn_t {n s q : Nat} (ha : gA h 73 0 = nI n) (hn : n ≤ 5) (hs : s < n) (hq : gA h 73 (17 + s) = nI q) (hq5 : q < 5) : cal X (d + 3) 170 [vP (some 72), vI (nI s)] (SK tx tu gu tl, h) = some (some (vI (gA h 73 (12 + q))), (SK tx tu gu tl, h)) := by
  rw [c_X11_slantIn, e_X11_slantIn_0, k_person_t X (d + 0) tx tu gu tl h ha hn hs, bI_s, e_X11_slantIn_5, if_neg (by decide), inb_at (ixa 17 s rfl) (by omega) (by omega), hq, inb_at (ixa 12 q rfl) (by omega) (by omega)]
theorem k_slantIn_f {n : Nat} {x : Int32} (ha : gA h 73 0 = nI n) (hn : n ≤ 5) (hs : ∀ p, p < n → x ≠ nI p) : cal X (d + 3) 170 [vP (some 72), vI x] (SK tx tu gu tl, h) = some (some (vI 0), (SK tx tu gu tl, h)) := by
  rw [c_X11_slantIn, e_X11_slantIn_0, k_person_f X (d + 0) tx tu gu tl h ha hn hs, bI_s, e_X11_slantIn_5, if_pos rfl]
theorem seatOf_lp (x : Int32) (s : Nat) (hs : gA h 73 (17 + s) = x) (h5 : s < 5) : ∀ (k i f : Nat), i + k = s → (∀ j, i ≤ j → j < s → gA h 73 (17 + j) ≠ x) → k < f → m_X11_seatOf X d f 2 [(0, vP (some 72)), (1, vI x), (2, vI (nI i))] [] (SK tx tu gu tl, h) = some (some (vI (nI s)), (SK tx tu gu tl, h))
  | 0, i, 0, hi, hj, hf => absurd hf (Nat.not_lt_zero _)
  | 0, i, f + 1, hi, hj, hf => by
    obtain rfl : i = s := by omega
    rw [e_X11_seatOf_2, inb_at (ixa 17 i rfl) (by omega) (by omega), if_pos hs]
  | k + 1, i, 0, hi, hj, hf => absurd hf (Nat.not_lt_zero _)
  | k + 1, i, f + 1, hi, hj, hf => by
    rw [e_X11_seatOf_2, inb_at (ixa 17 i rfl) (by omega) (by omega), if_neg (hj i (Nat.le_refl _) (by omega)), nI_1]
    exact seatOf_lp x s hs h5 k (i + 1) f (by omega) (fun j h1 h2 => hj j (by omega) h2) (by omega)
theorem k_seatOf {x : Int32} {s : Nat} (hs : gA h 73 (17 + s) = x) (h5 : s < 5) (hj : ∀ j, j < s → gA h 73 (17 + j) ≠ x) : cal X (d + 1) 171 [vP (some 72), vI x] (SK tx tu gu tl, h) = some (some (vI (nI s)), (SK tx tu gu tl, h)) := by
  rw [c_X11_seatOf, e_X11_seatOf_0]
  exact seatOf_lp X d tx tu gu tl h x s hs h5 s 0 999999 (by omega) (fun j _ h2 => hj j h2) (by omega)
theorem k_begin {p : Nat} (hp : p < 5) : cal X (d + 1) 173 [vP (some 72), vI (nI p)] (SK tx tu gu tl, h) = some (none, (SK tx tu gu tl, sA (sA h 73 (12 + p) (gA h 73 (27 + p))) 73 (17 + p) (nI p))) := by
  rw [c_X11_begin, e_X11_begin_0, inb_at (ixa 27 p rfl) (by omega) (by omega), inb_at (ixa 12 p rfl) (by omega) (by omega), inb_at (ixa 17 p rfl) (by omega) (by omega)]
end M1
