/-! THE LAW: its switch and its loop -/
section LP
variable (X : XS)
set_option maxRecDepth 10000 in
set_option maxHeartbeats 4000000 in
theorem lw_27 (tx tu gu : Option Nat) (tl : List SC) {h : DT} (H : Ful tu gu tl h) {i : Nat} (hi : i + 6 ≤ X.1) (hX : X.1 ≤ 3072) : ∃ tx' tu' gu' tl' h2, Ful tu' gu' tl' h2 ∧ ∀ F f, F + 3 ≤ f → ∃ f', F ≤ f' ∧ m_L_law X 100 f 27 [(0, vE 101), (1, vP (some 0)), (2, vP (some 72)), (3, vI (nI i))] [] (SK tx tu gu tl, h) = m_L_law X 100 f' 18 [(0, vE 101), (1, vP (some 0)), (2, vP (some 72)), (3, vI (nI (i + 6)))] [] (SK tx' tu' gu' tl', h2) := by
  have b0 : ∀ K : Nat → RR, inb (nI i) X.1 K = K i := fun K => inbI (by omega) (by omega)
  have e0 := fun f => e_L_law_27 X 100 f (nI i) tx tu gu tl h
  simp only [b0] at e0
  generalize X.2 i &&& 63 = w at e0
  by_cases z0 : w = 0
  · obtain ⟨tx', tu', gu', tl', h2, F0, e⟩ := ls_0 X tx tu gu tl H hi hX
    refine ⟨tx', tu', gu', tl', h2, F0, fun F f hf => ?_⟩
    obtain ⟨f, rfl⟩ : ∃ g, f = g + 2 + 1 := ⟨f - 3, by omega⟩
    exact ⟨f, by omega, by rw [e0, if_pos z0]; exact e f⟩
  simp only [if_neg z0] at e0
  by_cases z1 : w = 1
  · obtain ⟨tx', tu', gu', tl', h2, F0, e⟩ := ls_1 X tx tu gu tl H hi hX
    refine ⟨tx', tu', gu', tl', h2, F0, fun F f hf => ?_⟩
    obtain ⟨f, rfl⟩ : ∃ g, f = g + 2 + 1 := ⟨f - 3, by omega⟩
    exact ⟨f, by omega, by rw [e0, if_pos z1]; exact e f⟩
  simp only [if_neg z1] at e0
  by_cases z2 : w = 2
  · obtain ⟨tx', tu', gu', tl', h2, F0, e⟩ := ls_2 X tx tu gu tl H hi hX
    refine ⟨tx', tu', gu', tl', h2, F0, fun F f hf => ?_⟩
    obtain ⟨f, rfl⟩ : ∃ g, f = g + 2 + 1 := ⟨f - 3, by omega⟩
    exact ⟨f, by omega, by rw [e0, if_pos z2]; exact e f⟩
  simp only [if_neg z2] at e0
  by_cases z3 : w = 3
  · obtain ⟨tx', tu', gu', tl', h2, F0, e⟩ := ls_3 X tx tu gu tl H hi hX
    refine ⟨tx', tu', gu', tl', h2, F0, fun F f hf => ?_⟩
    obtain ⟨f, rfl⟩ : ∃ g, f = g + 2 + 1 := ⟨f - 3, by omega⟩
    exact ⟨f, by omega, by rw [e0, if_pos z3]; exact e f⟩
  simp only [if_neg z3] at e0
  by_cases z4 : w = 4
  · obtain ⟨tx', tu', gu', tl', h2, F0, e⟩ := ls_4 X tx tu gu tl H i
    refine ⟨tx', tu', gu', tl', h2, F0, fun F f hf => ?_⟩
    obtain ⟨f, rfl⟩ : ∃ g, f = g + 2 + 1 := ⟨f - 3, by omega⟩
    exact ⟨f + 1, by omega, by rw [e0, if_pos z4]; exact e (f + 1)⟩
  simp only [if_neg z4] at e0
  by_cases z5 : w = 5
  · obtain ⟨tx', tu', gu', tl', h2, F0, e⟩ := ls_5 X tx tu gu tl H hi hX
    refine ⟨tx', tu', gu', tl', h2, F0, fun F f hf => ?_⟩
    obtain ⟨f, rfl⟩ : ∃ g, f = g + 2 + 1 := ⟨f - 3, by omega⟩
    exact ⟨f, by omega, by rw [e0, if_pos z5]; exact e f⟩
  simp only [if_neg z5] at e0
  by_cases z6 : w = 6
  · obtain ⟨tx', tu', gu', tl', h2, F0, e⟩ := ls_6 X tx tu gu tl H hi hX
    refine ⟨tx', tu', gu', tl', h2, F0, fun F f hf => ?_⟩
    obtain ⟨f, rfl⟩ : ∃ g, f = g + 2 + 1 := ⟨f - 3, by omega⟩
    exact ⟨f, by omega, by rw [e0, if_pos z6]; exact e f⟩
  simp only [if_neg z6] at e0
  by_cases z7 : w = 7
  · obtain ⟨tx', tu', gu', tl', h2, F0, e⟩ := ls_7 X tx tu gu tl H hi hX
    refine ⟨tx', tu', gu', tl', h2, F0, fun F f hf => ?_⟩
    obtain ⟨f, rfl⟩ : ∃ g, f = g + 2 + 1 := ⟨f - 3, by omega⟩
    exact ⟨f, by omega, by rw [e0, if_pos z7]; exact e f⟩
  simp only [if_neg z7] at e0
  by_cases z8 : w = 8
  · obtain ⟨tx', tu', gu', tl', h2, F0, e⟩ := ls_8 X tx tu gu tl H hi hX
    refine ⟨tx', tu', gu', tl', h2, F0, fun F f hf => ?_⟩
    obtain ⟨f, rfl⟩ : ∃ g, f = g + 2 + 1 := ⟨f - 3, by omega⟩
    exact ⟨f, by omega, by rw [e0, if_pos z8]; exact e f⟩
  simp only [if_neg z8] at e0
  by_cases z9 : w = 9
  · obtain ⟨tx', tu', gu', tl', h2, F0, e⟩ := ls_9 X tx tu gu tl H hi hX
    refine ⟨tx', tu', gu', tl', h2, F0, fun F f hf => ?_⟩
    obtain ⟨f, rfl⟩ : ∃ g, f = g + 2 + 1 := ⟨f - 3, by omega⟩
    exact ⟨f, by omega, by rw [e0, if_pos z9]; exact e f⟩
  simp only [if_neg z9] at e0
  by_cases z10 : w = 10
  · obtain ⟨tx', tu', gu', tl', h2, F0, e⟩ := ls_10 X tx tu gu tl H hi hX
    refine ⟨tx', tu', gu', tl', h2, F0, fun F f hf => ?_⟩
    obtain ⟨f, rfl⟩ : ∃ g, f = g + 2 + 1 := ⟨f - 3, by omega⟩
    exact ⟨f, by omega, by rw [e0, if_pos z10]; exact e f⟩
  simp only [if_neg z10] at e0
  by_cases z11 : w = 11
  · obtain ⟨tx', tu', gu', tl', h2, F0, e⟩ := ls_11 X tx tu gu tl H hi hX
    refine ⟨tx', tu', gu', tl', h2, F0, fun F f hf => ?_⟩
    obtain ⟨f, rfl⟩ : ∃ g, f = g + 2 + 1 := ⟨f - 3, by omega⟩
    exact ⟨f, by omega, by rw [e0, if_pos z11]; exact e f⟩
  simp only [if_neg z11] at e0
  by_cases z12 : w = 12
  · obtain ⟨tx', tu', gu', tl', h2, F0, e⟩ := ls_12 X tx tu gu tl H hi hX
    refine ⟨tx', tu', gu', tl', h2, F0, fun F f hf => ?_⟩
    obtain ⟨f, rfl⟩ : ∃ g, f = g + 2 + 1 := ⟨f - 3, by omega⟩
    exact ⟨f, by omega, by rw [e0, if_pos z12]; exact e f⟩
  simp only [if_neg z12] at e0
  by_cases z13 : w = 13
  · obtain ⟨tx', tu', gu', tl', h2, F0, e⟩ := ls_13 X tx tu gu tl H i
    refine ⟨tx', tu', gu', tl', h2, F0, fun F f hf => ?_⟩
    obtain ⟨f, rfl⟩ : ∃ g, f = g + 2 + 1 := ⟨f - 3, by omega⟩
    exact ⟨f + 1, by omega, by rw [e0, if_pos z13]; exact e (f + 1)⟩
  simp only [if_neg z13] at e0
  by_cases z14 : w = 14
  · obtain ⟨tx', tu', gu', tl', h2, F0, e⟩ := ls_14 X tx tu gu tl H hi hX
    refine ⟨tx', tu', gu', tl', h2, F0, fun F f hf => ?_⟩
    obtain ⟨f, rfl⟩ : ∃ g, f = g + 2 + 1 := ⟨f - 3, by omega⟩
    exact ⟨f, by omega, by rw [e0, if_pos z14]; exact e f⟩
  simp only [if_neg z14] at e0
  by_cases z15 : w = 15
  · obtain ⟨tx', tu', gu', tl', h2, F0, e⟩ := ls_15 X tx tu gu tl H hi hX
    refine ⟨tx', tu', gu', tl', h2, F0, fun F f hf => ?_⟩
    obtain ⟨f, rfl⟩ : ∃ g, f = g + 2 + 1 := ⟨f - 3, by omega⟩
    exact ⟨f, by omega, by rw [e0, if_pos z15]; exact e f⟩
  simp only [if_neg z15] at e0
  by_cases z16 : w = 16
  · obtain ⟨tx', tu', gu', tl', h2, F0, e⟩ := ls_16 X tx tu gu tl H hi hX
    refine ⟨tx', tu', gu', tl', h2, F0, fun F f hf => ?_⟩
    obtain ⟨f, rfl⟩ : ∃ g, f = g + 2 + 1 := ⟨f - 3, by omega⟩
    exact ⟨f, by omega, by rw [e0, if_pos z16]; exact e f⟩
  simp only [if_neg z16] at e0
  by_cases z17 : w = 17
  · obtain ⟨tx', tu', gu', tl', h2, F0, e⟩ := ls_17 X tx tu gu tl H hi hX
    refine ⟨tx', tu', gu', tl', h2, F0, fun F f hf => ?_⟩
    obtain ⟨f, rfl⟩ : ∃ g, f = g + 2 + 1 := ⟨f - 3, by omega⟩
    exact ⟨f, by omega, by rw [e0, if_pos z17]; exact e f⟩
  simp only [if_neg z17] at e0
  by_cases z18 : w = 18
  · obtain ⟨tx', tu', gu', tl', h2, F0, e⟩ := ls_18 X tx tu gu tl H hi hX
    refine ⟨tx', tu', gu', tl', h2, F0, fun F f hf => ?_⟩
    obtain ⟨f, rfl⟩ : ∃ g, f = g + 2 + 1 := ⟨f - 3, by omega⟩
    exact ⟨f, by omega, by rw [e0, if_pos z18]; exact e f⟩
  simp only [if_neg z18] at e0
  by_cases z19 : w = 19
  · obtain ⟨tx', tu', gu', tl', h2, F0, e⟩ := ls_19 X tx tu gu tl H hi hX
    refine ⟨tx', tu', gu', tl', h2, F0, fun F f hf => ?_⟩
    obtain ⟨f, rfl⟩ : ∃ g, f = g + 2 + 1 := ⟨f - 3, by omega⟩
    exact ⟨f, by omega, by rw [e0, if_pos z19]; exact e f⟩
  simp only [if_neg z19] at e0
  by_cases z20 : w = 20
  · obtain ⟨tx', tu', gu', tl', h2, F0, e⟩ := ls_20 X tx tu gu tl H hi hX
    refine ⟨tx', tu', gu', tl', h2, F0, fun F f hf => ?_⟩
    obtain ⟨f, rfl⟩ : ∃ g, f = g + 2 + 1 := ⟨f - 3, by omega⟩
    exact ⟨f, by omega, by rw [e0, if_pos z20]; exact e f⟩
  simp only [if_neg z20] at e0
  by_cases z21 : w = 21
  · obtain ⟨tx', tu', gu', tl', h2, F0, e⟩ := ls_21 X tx tu gu tl H hi hX
    refine ⟨tx', tu', gu', tl', h2, F0, fun F f hf => ?_⟩
    obtain ⟨f, rfl⟩ : ∃ g, f = g + 2 + 1 := ⟨f - 3, by omega⟩
    exact ⟨f, by omega, by rw [e0, if_pos z21]; exact e f⟩
  simp only [if_neg z21] at e0
  by_cases z22 : w = 22
  · obtain ⟨tx', tu', gu', tl', h2, F0, e⟩ := ls_22 X tx tu gu tl H hi hX
    refine ⟨tx', tu', gu', tl', h2, F0, fun F f hf => ?_⟩
    obtain ⟨f, rfl⟩ : ∃ g, f = g + 2 + 1 := ⟨f - 3, by omega⟩
    exact ⟨f, by omega, by rw [e0, if_pos z22]; exact e f⟩
  simp only [if_neg z22] at e0
  by_cases z23 : w = 23
  · obtain ⟨tx', tu', gu', tl', h2, F0, e⟩ := ls_23 X tx tu gu tl H hi hX
    refine ⟨tx', tu', gu', tl', h2, F0, fun F f hf => ?_⟩
    obtain ⟨f, rfl⟩ : ∃ g, f = g + 2 + 1 := ⟨f - 3, by omega⟩
    exact ⟨f, by omega, by rw [e0, if_pos z23]; exact e f⟩
  simp only [if_neg z23] at e0
  by_cases z24 : w = 24
  · obtain ⟨tx', tu', gu', tl', h2, F0, e⟩ := ls_24 X tx tu gu tl H hi hX
    refine ⟨tx', tu', gu', tl', h2, F0, fun F f hf => ?_⟩
    obtain ⟨f, rfl⟩ : ∃ g, f = g + 2 + 1 := ⟨f - 3, by omega⟩
    exact ⟨f, by omega, by rw [e0, if_pos z24]; exact e f⟩
  simp only [if_neg z24] at e0
  by_cases z25 : w = 25
  · obtain ⟨tx', tu', gu', tl', h2, F0, e⟩ := ls_25 X tx tu gu tl H hi hX
    refine ⟨tx', tu', gu', tl', h2, F0, fun F f hf => ?_⟩
    obtain ⟨f, rfl⟩ : ∃ g, f = g + 2 + 1 := ⟨f - 3, by omega⟩
    exact ⟨f, by omega, by rw [e0, if_pos z25]; exact e f⟩
  simp only [if_neg z25] at e0
  by_cases z26 : w = 26
  · obtain ⟨tx', tu', gu', tl', h2, F0, e⟩ := ls_26 X tx tu gu tl H hi hX
    refine ⟨tx', tu', gu', tl', h2, F0, fun F f hf => ?_⟩
    obtain ⟨f, rfl⟩ : ∃ g, f = g + 2 + 1 := ⟨f - 3, by omega⟩
    exact ⟨f, by omega, by rw [e0, if_pos z26]; exact e f⟩
  simp only [if_neg z26] at e0
  by_cases z27 : w = 27
  · obtain ⟨tx', tu', gu', tl', h2, F0, e⟩ := ls_27 X tx tu gu tl H hi hX
    refine ⟨tx', tu', gu', tl', h2, F0, fun F f hf => ?_⟩
    obtain ⟨f, rfl⟩ : ∃ g, f = g + 2 + 1 := ⟨f - 3, by omega⟩
    exact ⟨f, by omega, by rw [e0, if_pos z27]; exact e f⟩
  simp only [if_neg z27] at e0
  by_cases z28 : w = 28
  · obtain ⟨tx', tu', gu', tl', h2, F0, e⟩ := ls_28 X tx tu gu tl H hi hX
    refine ⟨tx', tu', gu', tl', h2, F0, fun F f hf => ?_⟩
    obtain ⟨f, rfl⟩ : ∃ g, f = g + 2 + 1 := ⟨f - 3, by omega⟩
    exact ⟨f, by omega, by rw [e0, if_pos z28]; exact e f⟩
  simp only [if_neg z28] at e0
  by_cases z29 : w = 29
  · obtain ⟨tx', tu', gu', tl', h2, F0, e⟩ := ls_29 X tx tu gu tl H hi hX
    refine ⟨tx', tu', gu', tl', h2, F0, fun F f hf => ?_⟩
    obtain ⟨f, rfl⟩ : ∃ g, f = g + 2 + 1 := ⟨f - 3, by omega⟩
    exact ⟨f, by omega, by rw [e0, if_pos z29]; exact e f⟩
  simp only [if_neg z29] at e0
  by_cases z30 : w = 30
  · obtain ⟨tx', tu', gu', tl', h2, F0, e⟩ := ls_30 X tx tu gu tl H hi hX
    refine ⟨tx', tu', gu', tl', h2, F0, fun F f hf => ?_⟩
    obtain ⟨f, rfl⟩ : ∃ g, f = g + 2 + 1 := ⟨f - 3, by omega⟩
    exact ⟨f, by omega, by rw [e0, if_pos z30]; exact e f⟩
  simp only [if_neg z30] at e0
  by_cases z31 : w = 31
  · obtain ⟨tx', tu', gu', tl', h2, F0, e⟩ := ls_31 X tx tu gu tl H hi hX
    refine ⟨tx', tu', gu', tl', h2, F0, fun F f hf => ?_⟩
    obtain ⟨f, rfl⟩ : ∃ g, f = g + 2 + 1 := ⟨f - 3, by omega⟩
    exact ⟨f, by omega, by rw [e0, if_pos z31]; exact e f⟩
  simp only [if_neg z31] at e0
  by_cases z32 : w = 32
  · obtain ⟨tx', tu', gu', tl', h2, F0, e⟩ := ls_32 X tx tu gu tl H hi hX
    refine ⟨tx', tu', gu', tl', h2, F0, fun F f hf => ?_⟩
    obtain ⟨f, rfl⟩ : ∃ g, f = g + 2 + 1 := ⟨f - 3, by omega⟩
    exact ⟨f, by omega, by rw [e0, if_pos z32]; exact e f⟩
  simp only [if_neg z32] at e0
  by_cases z33 : w = 33
  · obtain ⟨tx', tu', gu', tl', h2, F0, e⟩ := ls_33 X tx tu gu tl H hi hX
    refine ⟨tx', tu', gu', tl', h2, F0, fun F f hf => ?_⟩
    obtain ⟨f, rfl⟩ : ∃ g, f = g + 2 + 1 := ⟨f - 3, by omega⟩
    exact ⟨f, by omega, by rw [e0, if_pos z33]; exact e f⟩
  simp only [if_neg z33] at e0
  by_cases z34 : w = 34
  · obtain ⟨tx', tu', gu', tl', h2, F0, e⟩ := ls_34 X tx tu gu tl H hi hX
    refine ⟨tx', tu', gu', tl', h2, F0, fun F f hf => ?_⟩
    obtain ⟨f, rfl⟩ : ∃ g, f = g + 2 + 1 := ⟨f - 3, by omega⟩
    exact ⟨f, by omega, by rw [e0, if_pos z34]; exact e f⟩
  simp only [if_neg z34] at e0
  by_cases z35 : w = 35
  · obtain ⟨tx', tu', gu', tl', h2, F0, e⟩ := ls_35 X tx tu gu tl H hi hX
    refine ⟨tx', tu', gu', tl', h2, F0, fun F f hf => ?_⟩
    obtain ⟨f, rfl⟩ : ∃ g, f = g + 2 + 1 := ⟨f - 3, by omega⟩
    exact ⟨f, by omega, by rw [e0, if_pos z35]; exact e f⟩
  simp only [if_neg z35] at e0
  by_cases z36 : w = 36
  · obtain ⟨tx', tu', gu', tl', h2, F0, e⟩ := ls_36 X tx tu gu tl H i
    refine ⟨tx', tu', gu', tl', h2, F0, fun F f hf => ?_⟩
    obtain ⟨f, rfl⟩ : ∃ g, f = g + 2 + 1 := ⟨f - 3, by omega⟩
    exact ⟨f + 1, by omega, by rw [e0, if_pos z36]; exact e (f + 1)⟩
  simp only [if_neg z36] at e0
  by_cases z37 : w = 37
  · obtain ⟨tx', tu', gu', tl', h2, F0, e⟩ := ls_37 X tx tu gu tl H i
    refine ⟨tx', tu', gu', tl', h2, F0, fun F f hf => ?_⟩
    obtain ⟨f, rfl⟩ : ∃ g, f = g + 2 + 1 := ⟨f - 3, by omega⟩
    exact ⟨f + 1, by omega, by rw [e0, if_pos z37]; exact e (f + 1)⟩
  simp only [if_neg z37] at e0
  by_cases z38 : w = 38
  · obtain ⟨tx', tu', gu', tl', h2, F0, e⟩ := ls_38 X tx tu gu tl H hi hX
    refine ⟨tx', tu', gu', tl', h2, F0, fun F f hf => ?_⟩
    obtain ⟨f, rfl⟩ : ∃ g, f = g + 2 + 1 := ⟨f - 3, by omega⟩
    exact ⟨f, by omega, by rw [e0, if_pos z38]; exact e f⟩
  simp only [if_neg z38] at e0
  by_cases z39 : w = 39
  · obtain ⟨tx', tu', gu', tl', h2, F0, e⟩ := ls_39 X tx tu gu tl H hi hX
    refine ⟨tx', tu', gu', tl', h2, F0, fun F f hf => ?_⟩
    obtain ⟨f, rfl⟩ : ∃ g, f = g + 2 + 1 := ⟨f - 3, by omega⟩
    exact ⟨f, by omega, by rw [e0, if_pos z39]; exact e f⟩
  simp only [if_neg z39] at e0
  by_cases z40 : w = 40
  · obtain ⟨tx', tu', gu', tl', h2, F0, e⟩ := ls_40 X tx tu gu tl H i
    refine ⟨tx', tu', gu', tl', h2, F0, fun F f hf => ?_⟩
    obtain ⟨f, rfl⟩ : ∃ g, f = g + 2 + 1 := ⟨f - 3, by omega⟩
    exact ⟨f + 1, by omega, by rw [e0, if_pos z40]; exact e (f + 1)⟩
  simp only [if_neg z40] at e0
  by_cases z41 : w = 41
  · obtain ⟨tx', tu', gu', tl', h2, F0, e⟩ := ls_41 X tx tu gu tl H i
    refine ⟨tx', tu', gu', tl', h2, F0, fun F f hf => ?_⟩
    obtain ⟨f, rfl⟩ : ∃ g, f = g + 2 + 1 := ⟨f - 3, by omega⟩
    exact ⟨f + 1, by omega, by rw [e0, if_pos z41]; exact e (f + 1)⟩
  simp only [if_neg z41] at e0
  by_cases z42 : w = 42
  · obtain ⟨tx', tu', gu', tl', h2, F0, e⟩ := ls_42 X tx tu gu tl H i
    refine ⟨tx', tu', gu', tl', h2, F0, fun F f hf => ?_⟩
    obtain ⟨f, rfl⟩ : ∃ g, f = g + 2 + 1 := ⟨f - 3, by omega⟩
    exact ⟨f + 1, by omega, by rw [e0, if_pos z42]; exact e (f + 1)⟩
  simp only [if_neg z42] at e0
  by_cases z43 : w = 43
  · obtain ⟨tx', tu', gu', tl', h2, F0, e⟩ := ls_43 X tx tu gu tl H hi hX
    refine ⟨tx', tu', gu', tl', h2, F0, fun F f hf => ?_⟩
    obtain ⟨f, rfl⟩ : ∃ g, f = g + 2 + 1 := ⟨f - 3, by omega⟩
    exact ⟨f, by omega, by rw [e0, if_pos z43]; exact e f⟩
  simp only [if_neg z43] at e0
  by_cases z44 : w = 44
  · obtain ⟨tx', tu', gu', tl', h2, F0, e⟩ := ls_44 X tx tu gu tl H i
    refine ⟨tx', tu', gu', tl', h2, F0, fun F f hf => ?_⟩
    obtain ⟨f, rfl⟩ : ∃ g, f = g + 2 + 1 := ⟨f - 3, by omega⟩
    exact ⟨f + 1, by omega, by rw [e0, if_pos z44]; exact e (f + 1)⟩
  simp only [if_neg z44] at e0
  by_cases z45 : w = 45
  · obtain ⟨tx', tu', gu', tl', h2, F0, e⟩ := ls_45 X tx tu gu tl H i
    refine ⟨tx', tu', gu', tl', h2, F0, fun F f hf => ?_⟩
    obtain ⟨f, rfl⟩ : ∃ g, f = g + 2 + 1 := ⟨f - 3, by omega⟩
    exact ⟨f + 1, by omega, by rw [e0, if_pos z45]; exact e (f + 1)⟩
  simp only [if_neg z45] at e0
  by_cases z46 : w = 46
  · obtain ⟨tx', tu', gu', tl', h2, F0, e⟩ := ls_46 X tx tu gu tl H hi hX
    refine ⟨tx', tu', gu', tl', h2, F0, fun F f hf => ?_⟩
    obtain ⟨f, rfl⟩ : ∃ g, f = g + 2 + 1 := ⟨f - 3, by omega⟩
    exact ⟨f, by omega, by rw [e0, if_pos z46]; exact e f⟩
  simp only [if_neg z46] at e0
  refine ⟨tx, tu, gu, tl, h, H, fun F f hf => ?_⟩
  obtain ⟨f, rfl⟩ : ∃ g, f = g + 1 := ⟨f - 1, by omega⟩
  exact ⟨f, by omega, by rw [e0, show nI i + 6 = nI (i + 6) from addI i 6]⟩
theorem lw_18 (hX : X.1 ≤ 3072) : ∀ (c i : Nat) (tx tu gu : Option Nat) (tl : List SC) (h : DT), Ful tu gu tl h → X.1 < i + 6 * c + 6 → i ≤ X.1 + 6 → ∃ tx' tu' gu' tl' h', Late tu' gu' tl' ∧ ∀ f, 4 * c + 1 ≤ f → m_L_law X 100 f 18 [(0, vE 101), (1, vP (some 0)), (2, vP (some 72)), (3, vI (nI i))] [] (SK tx tu gu tl, h) = some (some (vI 1), (SK tx' tu' gu' tl', h'))
  | c, i, tx, tu, gu, tl, h, H, hc, hi => by
    have ez : Int32.ofNat X.1 - 6 = zI ((X.1 : Int) - 6) := by
      show nI X.1 - 6 = _
      rw [zI_nI, show (6 : Int32) = zI 6 from rfl, zI_sub]
    have el : (Int32.ofNat X.1 - 6 < nI i) = (((X.1 : Int) - 6) < (i : Int)) := by rw [ez, zI_nI, zI_lt (by omega) (by omega) (by omega) (by omega)]
    by_cases z : X.1 < i + 6
    · refine ⟨tx, tu, gu, tl, h, H.2.1, fun f hf => ?_⟩
      obtain ⟨f, rfl⟩ : ∃ g, f = g + 1 := ⟨f - 1, by omega⟩
      rw [e_L_law_18, if_pos (by rw [el]; omega)]
    · cases c with
      | zero => omega
      | succ c =>
        obtain ⟨tx1, tu1, gu1, tl1, h1, H1, s⟩ := lw_27 X tx tu gu tl H (i := i) (by omega) hX
        obtain ⟨tx', tu', gu', tl', h', L, e⟩ := lw_18 hX c (i + 6) tx1 tu1 gu1 tl1 h1 H1 (by omega) (by omega)
        refine ⟨tx', tu', gu', tl', h', L, fun f hf => ?_⟩
        obtain ⟨f, rfl⟩ : ∃ g, f = g + 1 := ⟨f - 1, by omega⟩
        obtain ⟨f', f1, f2⟩ := s (4 * c + 1) f (by omega)
        rw [e_L_law_18, if_neg (by rw [el]; omega), f2]
        exact e f' f1
end LP
