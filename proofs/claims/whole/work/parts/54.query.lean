/-! LOOPS over the row: book, ledger, straight, steepest, spread, ragged, median -/
section QV
variable (X : XS) (tx tu gu : Option Nat) (tl : List SC) (h : DT)
theorem op_book {n t k : Nat} (H : RA h (gA h 73) n t k) (x1 x2 : Int32) : OpA X tx tu gu tl h n t k 117 [vP (some 0), vI x1, vI x2] 252 [vP (some 72), vI x1, vI x2] := by
  obtain ⟨b, hb, ab, xb⟩ := H.bk
  by_cases h1 : x1 = -1
  · refine OpA_id (v := vI (nI b)) H ?_ ?_
    · rw [c_X10_book, e_X10_book_0, if_pos h1, xb]
    · rw [c_X11_book, e_X11_book_0, if_pos h1, ab]
  · by_cases hv : 0 ≤ x1 ∧ x1 ≤ nI b - 1
    · have hd := in_dec hv
      obtain ⟨j, hj, rfl⟩ : ∃ j, j < b ∧ x1 = nI j := by
        rcases per_cs x1 (n := b) (by omega) with q | q
        · exact q
        · exfalso
          have q1 := hv.1
          have q2 := hv.2
          rw [i32le, i0t] at q1
          rw [i32le, nIm1 (by omega)] at q2
          rcases q with g | g
          · rw [i32lt, i0t] at g; omega
          · rw [i32le, nIt (by omega)] at g; omega
      by_cases h0 : x2 = 0
      · have hd2 : (decide ((0 : Int32) ≤ x2) && decide (x2 ≤ 2)) = true := by rw [h0]; decide
        refine OpA_id (v := vI (gA h 73 (1456 + j) / 95)) H ?_ ?_
        · rw [c_X10_book, e_X10_book_0, if_neg h1, xb, x_within, hd, bz_t, bI_s, e_X10_book_27, if_neg one0, if_pos h0, c_X5_bookedYear, e_X5_bookedYear_0 (hp := Or.inl rfl), inbI (by omega) (by omega), H.bo (by omega)]
          rfl
        · simp only [c_X11_book, e_X11_book_0, if_neg h1, ab, k_isIn, hd, hd2, bz_t, bI_s, e_X11_book_36, if_neg one0]
          rw [c_X11_entry, e_X11_entry_0, litI 1456, addI, inbI (by omega) (by omega), if_pos h0]
          rfl
      by_cases h2 : x2 = 1
      · have hd2 : (decide ((0 : Int32) ≤ x2) && decide (x2 ≤ 2)) = true := by rw [h2]; decide
        refine OpA_id (v := vI (gA h 73 (1456 + j) / 19 - gA h 73 (1456 + j) / 19 / 5 * 5)) H ?_ ?_
        · rw [c_X10_book, e_X10_book_0, if_neg h1, xb, x_within, hd, bz_t, bI_s, e_X10_book_27, if_neg one0, if_neg h0, if_pos h2, c_X5_bookedPerson, e_X5_bookedPerson_0 (hp := Or.inl rfl), inbI (by omega) (by omega), H.bo (by omega)]
          rfl
        · simp only [c_X11_book, e_X11_book_0, if_neg h1, ab, k_isIn, hd, hd2, bz_t, bI_s, e_X11_book_36, if_neg one0]
          rw [c_X11_entry, e_X11_entry_0, litI 1456, addI, inbI (by omega) (by omega), if_neg h0, if_pos h2]
          rfl
      by_cases h3 : x2 = 2
      · have hd2 : (decide ((0 : Int32) ≤ x2) && decide (x2 ≤ 2)) = true := by rw [h3]; decide
        refine OpA_id (v := vI (gA h 73 (1456 + j) - gA h 73 (1456 + j) / 19 * 19 - 9)) H ?_ ?_
        · rw [c_X10_book, e_X10_book_0, if_neg h1, xb, x_within, hd, bz_t, bI_s, e_X10_book_27, if_neg one0, if_neg h0, if_neg h2, if_pos h3, c_X5_bookedWind, e_X5_bookedWind_0 (hp := Or.inl rfl), inbI (by omega) (by omega), H.bo (by omega)]
          rfl
        · simp only [c_X11_book, e_X11_book_0, if_neg h1, ab, k_isIn, hd, hd2, bz_t, bI_s, e_X11_book_36, if_neg one0]
          rw [c_X11_entry, e_X11_entry_0, litI 1456, addI, inbI (by omega) (by omega), if_neg h0, if_neg h2]
          rfl
      · have hd2 : (decide ((0 : Int32) ≤ x2) && decide (x2 ≤ 2)) = false := by
          refine in_decf fun ⟨q1, q2⟩ => ?_
          rw [i32le, i0t] at q1
          rw [i32le] at q2
          have e2 : (2 : Int32).toInt = 2 := rfl
          rw [e2] at q2
          have : x2.toInt = 0 ∨ x2.toInt = 1 ∨ x2.toInt = 2 := by omega
          rcases this with g | g | g
          · exact h0 (i32eq.mpr g)
          · exact h2 (i32eq.mpr g)
          · exact h3 (i32eq.mpr g)
        refine OpA_id (v := vI (-100)) H ?_ ?_
        · rw [c_X10_book, e_X10_book_0, if_neg h1, xb, x_within, hd, bz_t, bI_s, e_X10_book_27, if_neg one0, if_neg h0, if_neg h2, if_neg h3]
        · simp only [c_X11_book, e_X11_book_0, if_neg h1, ab, k_isIn, hd, hd2, bz_t, bz_f, bI_s, e_X11_book_36, if_neg one0, if_true]
    · have hd := in_decf hv
      refine OpA_id (v := vI (-100)) H ?_ ?_
      · simp only [c_X10_book, e_X10_book_0, if_neg h1, xb, x_within, hd, bz_f, bI_s, e_X10_book_27, if_true]
      · simp only [c_X11_book, e_X11_book_0, if_neg h1, ab, k_isIn, hd, bz_f, bI_s, if_true]
theorem op_ledger {n t k : Nat} (H : RA h (gA h 73) n t k) (x1 : Int32) : OpA X tx tu gu tl h n t k 142 [vP (some 0), vI x1] 253 [vP (some 72), vI x1] := by
  obtain ⟨a0, hn, x0⟩ := H.p
  obtain ⟨b, hb, ab, xb⟩ := H.bk
  by_cases h1 : x1 = -1
  · have lp : ∀ (k p g : Nat), p + k = b → k < g → m_X11_ledger X 99 g 20 [(0, vP (some 72)), (1, vI x1), (2, vI (nI p)), (3, vI (nI p))] [] (SK tx tu gu tl, h) = some (some (vI (nI b)), (SK tx tu gu tl, h)) := by
      intro k
      induction k with
      | zero =>
        intro p g hp hg
        obtain ⟨g, rfl⟩ := sc hg
        obtain rfl : p = b := by omega
        rw [e_X11_ledger_20, ab, if_pos (nI_le (by omega) (by omega))]
      | succ k ih =>
        intro p g hp hg
        obtain ⟨g, rfl⟩ := sc hg
        rw [e_X11_ledger_20, ab, if_neg (nI_ge (by omega) (by omega)), if_pos h1, nI_1]
        exact ih (p + 1) g (by omega) (by omega)
    refine OpA_id (v := vI (nI b)) H ?_ ?_
    · rw [c_X10_ledger, e_X10_ledger_0, if_pos h1, xb]
    · rw [c_X11_ledger, e_X11_ledger_0, if_pos h1]
      exact lp b 0 999999 (by omega) (by omega)
  · rcases per_cs x1 (n := n) (by omega) with ⟨j, hj, rfl⟩ | hx
    · have lp : ∀ (k p f g : Nat) (a : Int32), p + k = b → k < f → k < g → ∃ v, m_X10_ledger X 99 f 31 [(0, vP (some 0)), (1, vI (nI j)), (2, vI a), (3, vI (nI p))] [] (SK tx tu gu tl, h) = some (some (vI (v)), (SK tx tu gu tl, h)) ∧ m_X11_ledger X 99 g 20 [(0, vP (some 72)), (1, vI (nI j)), (2, vI a), (3, vI (nI p))] [] (SK tx tu gu tl, h) = some (some (vI (v)), (SK tx tu gu tl, h)) := by
        intro k
        induction k with
        | zero =>
          intro p f g a hp hf hg
          obtain ⟨f, rfl⟩ := sc hf
          obtain ⟨g, rfl⟩ := sc hg
          refine ⟨a, ?_, ?_⟩
          · rw [e_X10_ledger_31, xb, if_pos (nI_le (by omega) (by omega))]
          · rw [e_X11_ledger_20, ab, if_pos (nI_le (by omega) (by omega))]
        | succ k ih =>
          intro p f g a hp hf hg
          obtain ⟨f, rfl⟩ := sc hf
          obtain ⟨g, rfl⟩ := sc hg
          rw [e_X10_ledger_31, e_X11_ledger_20, xb, ab, if_neg (nI_ge (by omega) (by omega)), if_neg (nI_ge (by omega) (by omega)), if_neg h1, c_X5_bookedPerson, e_X5_bookedPerson_0 (hp := Or.inl rfl), inbI (by omega) (by omega), H.bo (by omega), c_X11_entry, e_X11_entry_0, litI 1456, addI, inbI (by omega) (by omega), if_neg (by decide), if_pos rfl, bI_s, bI_s, nI_1]
          by_cases hz : gA h 73 (1456 + p) / 19 - gA h 73 (1456 + p) / 19 / 5 * 5 = nI j
          · rw [if_pos hz, if_pos hz]
            exact ih (p + 1) f g _ (by omega) (by omega) (by omega)
          · rw [if_neg hz, if_neg hz, Int32.add_zero]
            exact ih (p + 1) f g _ (by omega) (by omega) (by omega)
      obtain ⟨v, e1, e2⟩ := lp b 0 999999 999999 0 (by omega) (by omega) (by omega)
      refine OpA_id (v := vI v) H ?_ ?_
      · rw [c_X10_ledger, e_X10_ledger_0, if_neg h1, x_has_t X _ tx tu gu tl h (Or.inl rfl) x0 hn hj, bI_s, if_neg one0]
        exact e1
      · rw [c_X11_ledger, e_X11_ledger_0, if_neg h1, k_per_t X _ tx tu gu tl h a0 hn hj, bI_s, if_neg one0]
        exact e2
    · refine OpA_id (v := vI (-2)) H ?_ ?_
      · rw [c_X10_ledger, e_X10_ledger_0, if_neg h1, x_has_f X _ tx tu gu tl h (Or.inl rfl) x0 hx, bI_s, if_pos rfl]
      · rw [c_X11_ledger, e_X11_ledger_0, if_neg h1, k_per_f X _ tx tu gu tl h a0 hn hx, bI_s, if_pos rfl]
theorem op_straight {n t k : Nat} (H : RA h (gA h 73) n t k) : OpA X tx tu gu tl h n t k 140 [vP (some 0)] 254 [vP (some 72)] := by
  obtain ⟨a0, hn, x0⟩ := H.p
  have lp : ∀ (k p f g : Nat) (a : Int32), p + k = n → k < f → k < g → ∃ v, m_X10_straight X 99 f 4 [(0, vP (some 0)), (1, vI a), (2, vI (nI p))] [] (SK tx tu gu tl, h) = some (some (vI (v)), (SK tx tu gu tl, h)) ∧ m_X11_straight X 99 g 4 [(0, vP (some 72)), (1, vI a), (2, vI (nI p))] [] (SK tx tu gu tl, h) = some (some (vI (v)), (SK tx tu gu tl, h)) := by
    intro k
    induction k with
    | zero =>
      intro p f g a hp hf hg
      obtain ⟨f, rfl⟩ := sc hf
      obtain ⟨g, rfl⟩ := sc hg
      refine ⟨a, ?_, ?_⟩
      · rw [e_X10_straight_4, x0, if_pos (nI_le (by omega) (by omega))]
      · rw [e_X11_straight_4, a0, if_pos (nI_le (by omega) (by omega))]
    | succ k ih =>
      intro p f g a hp hf hg
      obtain ⟨f, rfl⟩ := sc hf
      obtain ⟨g, rfl⟩ := sc hg
      rw [e_X10_straight_4, e_X11_straight_4, x0, a0, if_neg (nI_ge (by omega) (by omega)), if_neg (nI_ge (by omega) (by omega)), inbI (by omega) (by omega), litI 12, addI, inbI (by omega) (by omega), H.sl (by omega), nI_1]
      by_cases hz : gA h 73 (12 + p) = 0
      · rw [if_pos hz, if_pos hz]
        exact ih (p + 1) f g _ (by omega) (by omega) (by omega)
      · rw [if_neg hz, if_neg hz, Int32.or_zero]
        exact ih (p + 1) f g _ (by omega) (by omega) (by omega)
  obtain ⟨v, e1, e2⟩ := lp n 0 999999 999999 0 (by omega) (by omega) (by omega)
  exact OpA_id (v := vI v) H (by rw [c_X10_straight, e_X10_straight_0]; exact e1) (by rw [c_X11_straight, e_X11_straight_0]; exact e2)
theorem op_steepest {n t k : Nat} (H : RA h (gA h 73) n t k) : OpA X tx tu gu tl h n t k 141 [vP (some 0)] 255 [vP (some 72)] := by
  obtain ⟨a0, hn, x0⟩ := H.p
  have lp : ∀ (k p f g : Nat) (b w : Int32), p + k = n → k < f → 2 * k < g → (b = -1 ∧ w = 0 ∨ ∃ q, q < n ∧ b = nI q ∧ w = absI (gA h 73 (12 + q))) → ∃ v, m_X10_steepest X 99 f 6 [(0, vP (some 0)), (1, vI b), (2, vI w), (3, vI (nI p))] [] (SK tx tu gu tl, h) = some (some (vI (v)), (SK tx tu gu tl, h)) ∧ m_X11_steepest X 99 g 4 [(0, vP (some 72)), (1, vI b), (2, vI (nI p))] [] (SK tx tu gu tl, h) = some (some (vI (v)), (SK tx tu gu tl, h)) := by
    intro k
    induction k with
    | zero =>
      intro p f g b w hp hf hg hi
      obtain ⟨f, rfl⟩ := sc hf
      obtain ⟨g, rfl⟩ := sc hg
      refine ⟨b, ?_, ?_⟩
      · rw [e_X10_steepest_6, x0, if_pos (nI_le (by omega) (by omega))]
      · rw [e_X11_steepest_4, a0, if_pos (nI_le (by omega) (by omega))]
    | succ k ih =>
      intro p f g b w hp hf hg hi
      obtain ⟨f, rfl⟩ := sc hf
      obtain ⟨g, rfl⟩ : ∃ g', g = g' + 1 + 1 := ⟨g - 2, by omega⟩
      rw [e_X10_steepest_6, e_X11_steepest_4, x0, a0, if_neg (nI_ge (by omega) (by omega)), if_neg (nI_ge (by omega) (by omega)), inbI (by omega) (by omega), litI 12, addI, inbI (by omega) (by omega), H.sl (by omega), abs0, k_size', bI_s, e_X11_steepest_26, nI_1]
      have hnew : nI p = -1 ∧ absI (gA h 73 (12 + p)) = 0 ∨ ∃ q, q < n ∧ nI p = nI q ∧ absI (gA h 73 (12 + p)) = absI (gA h 73 (12 + q)) := Or.inr ⟨p, by omega, rfl, rfl⟩
      rcases hi with ⟨rfl, rfl⟩ | ⟨q, hq, rfl, rfl⟩
      · rw [if_pos rfl]
        by_cases hz : absI (gA h 73 (12 + p)) ≤ 0
        · rw [if_pos hz, if_pos hz]
          exact ih (p + 1) f g _ _ (by omega) (by omega) (by omega) (Or.inl ⟨rfl, rfl⟩)
        · rw [if_neg hz, if_neg hz]
          exact ih (p + 1) f g _ _ (by omega) (by omega) (by omega) hnew
      · have hm : ¬ nI q = -1 := by
          intro e
          have := congrArg Int32.toInt e
          rw [nIt (by omega), im1t] at this
          omega
        rw [if_neg hm, litI 12, addI, inbI (by omega) (by omega), k_size', bI_s]
        by_cases hz : absI (gA h 73 (12 + p)) ≤ absI (gA h 73 (12 + q))
        · rw [if_pos hz, if_pos hz]
          exact ih (p + 1) f g _ _ (by omega) (by omega) (by omega) (Or.inr ⟨q, hq, rfl, rfl⟩)
        · rw [if_neg hz, if_neg hz]
          exact ih (p + 1) f g _ _ (by omega) (by omega) (by omega) hnew
  obtain ⟨v, e1, e2⟩ := lp n 0 999999 999999 (-1) 0 (by omega) (by omega) (by omega) (Or.inl ⟨rfl, rfl⟩)
  exact OpA_id (v := vI v) H (by rw [c_X10_steepest, e_X10_steepest_0]; exact e1) (by rw [c_X11_steepest, e_X11_steepest_0]; exact e2)
theorem min_ite (a b : Int32) : (if a < b then a else b) = if b ≤ a then b else a := by
  by_cases h1 : b ≤ a
  · rw [if_pos h1, if_neg (i32_le_nlt h1)]
  · rw [if_neg h1, if_pos (i32_nle h1)]
theorem op_spread {n t k : Nat} (H : RA h (gA h 73) n t k) : OpA X tx tu gu tl h n t k 136 [vP (some 0)] 292 [vP (some 72)] := by
  obtain ⟨a0, hn, x0⟩ := H.p
  by_cases hn0 : n = 0
  · subst hn0
    refine OpA_id (v := vI 0) H ?_ ?_
    · rw [c_X10_spread, e_X10_spread_0, x0, if_pos (by decide)]
    · rw [c_X11_spread, e_X11_spread_0, e_X11_spread_8, a0, if_pos (by decide), if_pos (by decide)]
  have lp : ∀ (k p f g : Nat) (b w : Int32), p + k = n → k < f → 2 * k < g → ∃ v, m_X10_spread X 99 f 20 [(0, vP (some 0)), (1, vI b), (2, vI w), (3, vI (nI p))] [] (SK tx tu gu tl, h) = some (some (vI (v)), (SK tx tu gu tl, h)) ∧ m_X11_spread X 99 g 8 [(0, vP (some 72)), (1, vI b), (2, vI w), (3, vI (nI p))] [] (SK tx tu gu tl, h) = some (some (vI (v)), (SK tx tu gu tl, h)) := by
    intro k
    induction k with
    | zero =>
      intro p f g b w hp hf hg
      obtain ⟨f, rfl⟩ := sc hf
      obtain ⟨g, rfl⟩ := sc hg
      refine ⟨w - b, ?_, ?_⟩
      · rw [e_X10_spread_20, x0, if_pos (nI_le (by omega) (by omega))]
      · rw [e_X11_spread_8, a0, if_pos (nI_le (by omega) (by omega)), if_neg (nI_ne0 (by omega) (by omega))]
    | succ k ih =>
      intro p f g b w hp hf hg
      obtain ⟨f, rfl⟩ := sc hf
      obtain ⟨g, rfl⟩ : ∃ g', g = g' + 1 + 1 := ⟨g - 2, by omega⟩
      have e3 : ∀ y : Int32, m_X11_spread X 99 (g + 1) 44 [(0, vP (some 72)), (2, vI w), (3, vI (nI p))] [vI y] (SK tx tu gu tl, h) = m_X11_spread X 99 g 8 [(0, vP (some 72)), (1, vI y), (2, vI (if w < gA h 73 (12 + p) then gA h 73 (12 + p) else w)), (3, vI (nI (p + 1)))] [] (SK tx tu gu tl, h) := fun y => by
        rw [e_X11_spread_44, litI 12, addI, inbI (by omega) (by omega), inbI (by omega) (by omega), nI_1]
        by_cases hz : gA h 73 (12 + p) ≤ w
        · rw [if_pos hz, if_neg (i32_le_nlt hz)]
        · rw [if_neg hz, if_pos (i32_nle hz)]
      have e2 : m_X11_spread X 99 (g + 1 + 1) 8 [(0, vP (some 72)), (1, vI b), (2, vI w), (3, vI (nI p))] [] (SK tx tu gu tl, h) = m_X11_spread X 99 g 8 [(0, vP (some 72)), (1, vI (if gA h 73 (12 + p) < b then gA h 73 (12 + p) else b)), (2, vI (if w < gA h 73 (12 + p) then gA h 73 (12 + p) else w)), (3, vI (nI (p + 1)))] [] (SK tx tu gu tl, h) := by
        rw [e_X11_spread_8, a0, if_neg (nI_ge (by omega) (by omega)), litI 12, addI, inbI (by omega) (by omega), inbI (by omega) (by omega), e3, e3, min_ite]
        by_cases hz : b ≤ gA h 73 (12 + p)
        · rw [if_pos hz, if_pos hz]
        · rw [if_neg hz, if_neg hz]
      rw [e_X10_spread_20, e2, x0, if_neg (nI_ge (by omega) (by omega)), inbI (by omega) (by omega), inbI (by omega) (by omega), H.sl (by omega), nI_1]
      exact ih (p + 1) f g _ _ (by omega) (by omega) (by omega)
  obtain ⟨v, e1, e2⟩ := lp n 0 999999 999999 9 (-9) (by omega) (by omega) (by omega)
  exact OpA_id (v := vI v) H (by rw [c_X10_spread, e_X10_spread_0, x0, if_neg (nI_ne0 (by omega) (by omega))]; exact e1) (by rw [c_X11_spread, e_X11_spread_0]; exact e2)
theorem op_ragged {n t k : Nat} (H : RA h (gA h 73) n t k) (x : Int32) : OpA X tx tu gu tl h n t k 123 [vP (some 0), vI x] 270 [vP (some 72), vI x] := by
  obtain ⟨a0, hn, x0⟩ := H.p
  have lp : ∀ (k p f g : Nat) (b : Int32), (p + 1 + k = n ∨ n ≤ p + 1 ∧ k = 0) → 2 * k < f → 2 * k < g → p ≤ 5 → ∃ v, m_X10_ragged X 99 f 4 [(0, vP (some 0)), (1, vI x), (2, vI b), (3, vI (nI p))] [] (SK tx tu gu tl, h) = some (some (vI (v)), (SK tx tu gu tl, h)) ∧ m_X11_ragged X 99 g 4 [(0, vP (some 72)), (1, vI x), (2, vI b), (3, vI (nI p))] [] (SK tx tu gu tl, h) = some (some (vI (v)), (SK tx tu gu tl, h)) := by
    intro k
    induction k with
    | zero =>
      intro p f g b hp hf hg h5
      obtain ⟨f, rfl⟩ := sc hf
      obtain ⟨g, rfl⟩ := sc hg
      rw [e_X10_ragged_4, e_X11_ragged_4, x0, a0, nI_1, if_pos (nI_le (by omega) (by omega)), if_pos (nI_le (by omega) (by omega))]
      by_cases hz : x = -1
      · rw [if_pos hz]; exact ⟨_, rfl, rfl⟩
      · rw [if_neg hz]; exact ⟨_, rfl, rfl⟩
    | succ k ih =>
      intro p f g b hp hf hg h5
      obtain ⟨f, rfl⟩ : ∃ g', f = g' + 1 + 1 := ⟨f - 2, by omega⟩
      obtain ⟨g, rfl⟩ : ∃ g', g = g' + 1 + 1 := ⟨g - 2, by omega⟩
      obtain ⟨q, hq, eq⟩ := H.at (s := p) (by omega)
      obtain ⟨r, hr, er⟩ := H.at (s := p + 1) (by omega)
      have xq : gA h (1 + 4) p = nI q := (H.si (by omega)).trans eq
      have xr : gA h (1 + 4) (p + 1) = nI r := (H.si (by omega)).trans er
      rw [e_X10_ragged_4, e_X11_ragged_4, x0, a0, nI_1, if_neg (nI_ge (by omega) (by omega)), if_neg (nI_ge (by omega) (by omega)), x_slantIn_t X _ tx tu gu tl h (Or.inl rfl) x0 hn (by omega) xq (by omega), k_slantIn_t X _ tx tu gu tl h a0 hn (by omega) eq (by omega), bI_s, bI_s, e_X10_ragged_25, e_X11_ragged_21, nI_1, x_slantIn_t X _ tx tu gu tl h (Or.inl rfl) x0 hn (by omega) xr (by omega), k_slantIn_t X _ tx tu gu tl h a0 hn (by omega) er (by omega), bI_s, bI_s, H.sl (by omega), H.sl (by omega)]
      by_cases hz : gA h 73 (12 + q) ≤ 0
      · rw [if_pos hz, if_pos hz]
        exact ih (p + 1) f g _ (by omega) (by omega) (by omega) (by omega)
      · rw [if_neg hz, if_neg hz]
        by_cases hy : gA h 73 (12 + r) < 0
        · rw [if_neg (i32_lt_nle hy), if_pos hy]
          by_cases hb : b = x
          · rw [if_pos hb, if_pos hb]; exact ⟨_, rfl, rfl⟩
          · rw [if_neg hb, if_neg hb]
            exact ih (p + 1) f g _ (by omega) (by omega) (by omega) (by omega)
        · rw [if_pos (i32_nlt hy), if_neg hy]
          exact ih (p + 1) f g _ (by omega) (by omega) (by omega) (by omega)
  obtain ⟨v, e1, e2⟩ := lp (n - 1) 0 999999 999999 0 (by omega) (by omega) (by omega) (by omega)
  exact OpA_id (v := vI v) H (by rw [c_X10_ragged, e_X10_ragged_0]; exact e1) (by rw [c_X11_ragged, e_X11_ragged_0]; exact e2)
/-- how many of the first m numbers from a place on are so -/
def cnt (A : Nat → Int32) (P : Int32 → Bool) : Nat → Nat
  | 0 => 0
  | m + 1 => cnt A P m + (if P (A (12 + m)) = true then 1 else 0)
theorem cnt_le (A : Nat → Int32) (P : Int32 → Bool) : ∀ m, cnt A P m ≤ m
  | 0 => Nat.le_refl 0
  | m + 1 => by
    have := cnt_le A P m
    unfold cnt
    split <;> omega
theorem cnt_mono {A : Nat → Int32} {P Q : Int32 → Bool} (hPQ : ∀ x, P x = true → Q x = true) : ∀ m, cnt A P m ≤ cnt A Q m
  | 0 => Nat.le_refl 0
  | m + 1 => by
    have := cnt_mono (A := A) hPQ m
    unfold cnt
    by_cases h1 : P (A (12 + m)) = true
    · rw [if_pos h1, if_pos (hPQ _ h1)]; omega
    · rw [if_neg h1]
      split <;> omega
theorem cnt_add {A : Nat → Int32} {P Q R : Int32 → Bool} (h1 : ∀ x, R x = true ↔ P x = true ∨ Q x = true) (h2 : ∀ x, P x = true → Q x = true → False) : ∀ m, cnt A R m = cnt A P m + cnt A Q m
  | 0 => rfl
  | m + 1 => by
    have := cnt_add (A := A) h1 h2 m
    unfold cnt
    by_cases hp : P (A (12 + m)) = true
    · rw [if_pos hp, if_pos ((h1 _).mpr (Or.inl hp)), if_neg (fun q => h2 _ hp q)]; omega
    · by_cases hq : Q (A (12 + m)) = true
      · rw [if_neg hp, if_pos hq, if_pos ((h1 _).mpr (Or.inr hq))]; omega
      · rw [if_neg hp, if_neg hq, if_neg (fun q => ((h1 _).mp q).elim hp hq)]; omega
theorem cnt_ex {A : Nat → Int32} {P : Int32 → Bool} : ∀ m, 0 < cnt A P m → ∃ i, i < m ∧ P (A (12 + i)) = true
  | 0, h => absurd h (Nat.lt_irrefl 0)
  | m + 1, h => by
    unfold cnt at h
    by_cases hp : P (A (12 + m)) = true
    · exact ⟨m, by omega, hp⟩
    · rw [if_neg hp] at h
      obtain ⟨i, hi, e⟩ := cnt_ex m (by omega)
      exact ⟨i, by omega, e⟩
theorem cnt_all {A : Nat → Int32} {P : Int32 → Bool} : ∀ m, (∀ i, i < m → P (A (12 + i)) = true) → cnt A P m = m
  | 0, _ => rfl
  | m + 1, h => by
    unfold cnt
    rw [if_pos (h m (by omega)), cnt_all m (fun i hi => h i (by omega))]
theorem cnt_s (A : Nat → Int32) (P : Int32 → Bool) (m : Nat) : cnt A P (m + 1) = cnt A P m + (if P (A (12 + m)) = true then 1 else 0) := rfl
def lsB (y x : Int32) : Bool := decide (x < y)
def eqB (y x : Int32) : Bool := decide (x = y)
def leB (y x : Int32) : Bool := decide (x ≤ y)
theorem cnt_le3 (A : Nat → Int32) (y : Int32) (m : Nat) : cnt A (leB y) m = cnt A (lsB y) m + cnt A (eqB y) m := by
  refine cnt_add (fun x => ?_) (fun x h1 h2 => ?_) m
  · simp only [leB, lsB, eqB, decide_eq_true_eq]
    rw [i32le, i32lt, i32eq]; omega
  · simp only [lsB, eqB, decide_eq_true_eq] at h1 h2
    rw [i32lt] at h1
    rw [i32eq] at h2
    omega
theorem x_howMany {n : Nat} (d : Nat) (x0 : gF h 1 0 = nI n) (hn : n ≤ 5) (y : Int32) (A : Nat → Int32) (hs : ∀ i, i < 5 → gA h 2 i = A (12 + i)) : cal X (d + 1) 73 [vP (some 1), vI y] (SK tx tu gu tl, h) = some (some (vI (nI (cnt A (eqB y) n))), (SK tx tu gu tl, h)) := by
  have lp : ∀ (k p f : Nat), p + k = n → k < f → m_X5_howManyLean X d f 4 [(0, vP (some 1)), (1, vI y), (2, vI (nI (cnt A (eqB y) p))), (3, vI (nI p))] [] (SK tx tu gu tl, h) = some (some (vI (nI (cnt A (eqB y) n))), (SK tx tu gu tl, h)) := by
    intro k
    induction k with
    | zero =>
      intro p f hp hf
      obtain ⟨f, rfl⟩ := sc hf
      obtain rfl : p = n := by omega
      rw [e_X5_howManyLean_4 (hp := Or.inl rfl), x0, if_pos (nI_le (by omega) (by omega))]
    | succ k ih =>
      intro p f hp hf
      obtain ⟨f, rfl⟩ := sc hf
      have e := ih (p + 1) f (by omega) (by omega)
      rw [e_X5_howManyLean_4 (hp := Or.inl rfl), x0, if_neg (nI_ge (by omega) (by omega)), inbI (by omega) (by omega), hs p (by omega), nI_1, nI_1]
      rw [cnt_s] at e
      by_cases hz : A (12 + p) = y
      · rw [if_pos hz]
        rw [if_pos (by simp [eqB, hz])] at e
        exact e
      · rw [if_neg hz]
        rw [if_neg (by simp [eqB, hz])] at e
        exact e
  rw [c_X5_howManyLean, e_X5_howManyLean_0 (hp := Or.inl rfl)]
  exact lp n 0 999999 (by omega) (by omega)
theorem zm9 : zI (-9) = (-9 : Int32) := by decide
theorem lt_nx {x y y1 : Int32} {z : Int} (e : y.toInt = z) (e1 : y1.toInt = z + 1) : leB y x = lsB y1 x := by
  rw [Bool.eq_iff_iff]
  simp only [leB, lsB, decide_eq_true_eq]
  rw [i32le, i32lt, e, e1]
  exact Int.lt_add_one_iff.symm
theorem cnt_nx {A : Nat → Int32} {y y1 : Int32} {z : Int} (e : y.toInt = z) (e1 : y1.toInt = z + 1) (m : Nat) : cnt A (leB y) m = cnt A (lsB y1) m := by
  have : leB y = lsB y1 := funext fun x => lt_nx e e1
  rw [this]
theorem md_lp {n t k0 : Nat} (H : RA h (gA h 73) n t k0) (hn0 : ¬ n = 0) : ∀ (k : Nat) (z : Int) (f : Nat), z + k = 10 → -9 ≤ z → k < f → (cnt (gA h 73) (lsB (zI z)) n ≤ (n - 1) / 2) → ∃ s : Int, z ≤ s ∧ s ≤ 9 ∧ cnt (gA h 73) (lsB (zI s)) n ≤ (n - 1) / 2 ∧ (n - 1) / 2 < cnt (gA h 73) (leB (zI s)) n ∧ m_X10_median X 99 f 30 [(0, vP (some 0)), (1, vI (nI ((n - 1) / 2))), (2, vI (nI (cnt (gA h 73) (lsB (zI z)) n))), (3, vI (zI z))] [] (SK tx tu gu tl, h) = some (some (vI (zI s)), (SK tx tu gu tl, h)) := by
  obtain ⟨a0, hn, x0⟩ := H.p
  intro k
  induction k with
  | zero =>
    intro z f hz h9 hf hc
    exfalso
    have : cnt (gA h 73) (lsB (zI z)) n = n := cnt_all n fun i hi => by
      have := H.s9 (i := i) (by omega)
      obtain ⟨w, hw1, hw2, ew⟩ := s9z this
      simp only [lsB, ew, decide_eq_true_eq]
      rw [zI_lt (by omega) (by omega) (by omega) (by omega)]
      omega
    omega
  | succ k ih =>
    intro z f hz h9 hf hc
    obtain ⟨f, rfl⟩ := sc hf
    have e3 := cnt_le3 (gA h 73) (zI z) n
    have l3 := cnt_le (gA h 73) (leB (zI z)) n
    rw [e_X10_median_30, show (9 : Int32) = zI 9 from rfl, if_neg (by rw [zI_lt (by omega) (by omega) (by omega) (by omega)]; omega), x_howMany X tx tu gu tl h 98 x0 hn (zI z) (gA h 73) (fun i hi => H.sl hi), bI_s, addI, ← e3]
    by_cases hm : cnt (gA h 73) (leB (zI z)) n ≤ (n - 1) / 2
    · rw [if_pos (nI_le hm (by omega)), show (1 : Int32) = zI 1 from rfl, zI_add]
      have ee : cnt (gA h 73) (leB (zI z)) n = cnt (gA h 73) (lsB (zI (z + 1))) n := cnt_nx (z := z) (zI_toInt (by omega) (by omega)) (zI_toInt (by omega) (by omega)) n
      rw [ee] at hm ⊢
      obtain ⟨s, h1, h2, h3, h4, h5⟩ := ih (z + 1) f (by omega) (by omega) (by omega) hm
      exact ⟨s, by omega, h2, h3, h4, h5⟩
    · rw [if_neg (nI_ge (by omega) (by omega))]
      exact ⟨z, by omega, by omega, hc, by omega, rfl⟩
theorem md_x {n t k : Nat} (H : RA h (gA h 73) n t k) (hn0 : ¬ n = 0) : ∃ s : Int, -9 ≤ s ∧ s ≤ 9 ∧ cnt (gA h 73) (lsB (zI s)) n ≤ (n - 1) / 2 ∧ (n - 1) / 2 < cnt (gA h 73) (leB (zI s)) n ∧ cal X 100 135 [vP (some 0)] (SK tx tu gu tl, h) = some (some (vI (zI s)), (SK tx tu gu tl, h)) := by
  obtain ⟨a0, hn, x0⟩ := H.p
  have hmid : (nI n - 1) / 2 = nI ((n - 1) / 2) := by
    obtain ⟨m, rfl⟩ : ∃ m, n = m + 1 := ⟨n - 1, by omega⟩
    rw [nI_pred, litI 2, divI (by omega) (by omega) (by omega)]
    rfl
  have lpx := md_lp X tx tu gu tl h H hn0
  have c9 : cnt (gA h 73) (lsB (zI (-9))) n = 0 := by
    rcases Nat.eq_zero_or_pos (cnt (gA h 73) (lsB (zI (-9))) n) with q | q
    · exact q
    · obtain ⟨i, hi, e⟩ := cnt_ex n q
      obtain ⟨w, hw1, hw2, ew⟩ := s9z (H.s9 (i := i) (by omega))
      simp only [lsB, ew, decide_eq_true_eq] at e
      rw [zI_lt (by omega) (by omega) (by omega) (by omega)] at e
      omega
  obtain ⟨s, hs1, hs2, hs3, hs4, ex⟩ := lpx 19 (-9) 999999 (by omega) (by omega) (by omega) (by omega)
  refine ⟨s, hs1, hs2, hs3, hs4, ?_⟩
  rw [c_X10_median, e_X10_median_0, x0, if_neg (nI_ne0 (by omega) (by omega)), hmid]
  rw [c9, zm9] at ex
  exact ex
theorem md_k {n t k : Nat} (H : RA h (gA h 73) n t k) (hn0 : ¬ n = 0) {s : Int} (hs1 : -9 ≤ s) (hs2 : s ≤ 9) (hs3 : cnt (gA h 73) (lsB (zI s)) n ≤ (n - 1) / 2) (hs4 : (n - 1) / 2 < cnt (gA h 73) (leB (zI s)) n) : cal X 100 291 [vP (some 72)] (SK tx tu gu tl, h) = some (some (vI (zI s)), (SK tx tu gu tl, h)) := by
  obtain ⟨a0, hn, x0⟩ := H.p
  have hmid : (nI n - 1) / 2 = nI ((n - 1) / 2) := by
    obtain ⟨m, rfl⟩ : ∃ m, n = m + 1 := ⟨n - 1, by omega⟩
    rw [nI_pred, litI 2, divI (by omega) (by omega) (by omega)]
    rfl
  -- the reference counts for one
  have lq : ∀ (k q p g : Nat), q + k = n → p < n → 2 * k < g → m_X11_median X 99 g 22 [(0, vP (some 72)), (1, vI (nI n)), (2, vI (nI p)), (3, vI (nI (cnt (gA h 73) (lsB (gA h 73 (12 + p))) q))), (4, vI (nI (cnt (gA h 73) (eqB (gA h 73 (12 + p))) q))), (5, vI (nI q))] [] (SK tx tu gu tl, h) = m_X11_median X 99 (g - 2 * k) 22 [(0, vP (some 72)), (1, vI (nI n)), (2, vI (nI p)), (3, vI (nI (cnt (gA h 73) (lsB (gA h 73 (12 + p))) n))), (4, vI (nI (cnt (gA h 73) (eqB (gA h 73 (12 + p))) n))), (5, vI (nI n))] [] (SK tx tu gu tl, h) := by
    intro k
    induction k with
    | zero =>
      intro q p g hq hp hg
      obtain rfl : q = n := by omega
      rfl
    | succ k ih =>
      intro q p g hq hp hg
      obtain ⟨g, rfl⟩ : ∃ g', g = g' + 1 + 1 := ⟨g - 2, by omega⟩
      have e := ih (q + 1) p g (by omega) hp (by omega)
      rw [show g + 1 + 1 - 2 * (k + 1) = g - 2 * k by omega, ← e]
      have e5 : ∀ v : Nat, m_X11_median X 99 (g + 1) 56 [(0, vP (some 72)), (1, vI (nI n)), (2, vI (nI p)), (4, vI (nI (cnt (gA h 73) (eqB (gA h 73 (12 + p))) q))), (5, vI (nI q))] [vI (nI v), vI (nI (cnt (gA h 73) (lsB (gA h 73 (12 + p))) q))] (SK tx tu gu tl, h) = m_X11_median X 99 g 22 [(0, vP (some 72)), (1, vI (nI n)), (2, vI (nI p)), (3, vI (nI (cnt (gA h 73) (lsB (gA h 73 (12 + p))) q + v))), (4, vI (nI (cnt (gA h 73) (eqB (gA h 73 (12 + p))) (q + 1)))), (5, vI (nI (q + 1)))] [] (SK tx tu gu tl, h) := fun v => by
        rw [e_X11_median_56, litI 12, addI, inbI (by omega) (by omega), addI, inbI (by omega) (by omega), addI, nI_1, nI_1, Int32.add_zero]
        show _ = m_X11_median X 99 g 22 [(0, vP (some 72)), (1, vI (nI n)), (2, vI (nI p)), (3, vI (nI (cnt (gA h 73) (lsB (gA h 73 (12 + p))) q + v))), (4, vI (nI (cnt (gA h 73) (eqB (gA h 73 (12 + p))) q + (if eqB (gA h 73 (12 + p)) (gA h 73 (12 + q)) = true then 1 else 0)))), (5, vI (nI (q + 1)))] [] (SK tx tu gu tl, h)
        by_cases hz : gA h 73 (12 + q) = gA h 73 (12 + p)
        · rw [if_pos hz, if_pos (by simp [eqB, hz])]
        · rw [if_neg hz, if_neg (by simp [eqB, hz])]
          rfl
      rw [e_X11_median_22, if_neg (nI_ge (by omega) (by omega)), litI 12, addI, inbI (by omega) (by omega), addI, inbI (by omega) (by omega)]
      have e6 : cnt (gA h 73) (lsB (gA h 73 (12 + p))) (q + 1) = cnt (gA h 73) (lsB (gA h 73 (12 + p))) q + (if lsB (gA h 73 (12 + p)) (gA h 73 (12 + q)) = true then 1 else 0) := rfl
      rw [e6]
      by_cases hz : gA h 73 (12 + p) ≤ gA h 73 (12 + q)
      · rw [if_pos hz, if_neg (by simp only [lsB, decide_eq_true_eq]; exact i32_le_nlt hz)]
        exact e5 0
      · rw [if_neg hz, if_pos (by simp only [lsB, decide_eq_true_eq]; exact i32_nle hz)]
        exact e5 1
  have lp : ∀ (k p g : Nat), p + k = n → 20 * k < g → (∃ q, p ≤ q ∧ q < n ∧ gA h 73 (12 + q) = zI s) → m_X11_median X 99 g 9 [(0, vP (some 72)), (1, vI (nI n)), (2, vI (nI p))] [] (SK tx tu gu tl, h) = some (some (vI (zI s)), (SK tx tu gu tl, h)) := by
    intro k
    induction k with
    | zero =>
      intro p g hp hg ⟨q, h1, h2, _⟩
      omega
    | succ k ih =>
      intro p g hp hg hex
      obtain ⟨g, rfl⟩ := sc hg
      have l1 := cnt_le (gA h 73) (lsB (gA h 73 (12 + p))) n
      have l2 := cnt_le (gA h 73) (leB (gA h 73 (12 + p))) n
      have l3 := cnt_le3 (gA h 73) (gA h 73 (12 + p)) n
      have e := lq n 0 p g (by omega) (by omega) (by omega)
      rw [e_X11_median_9, if_neg (nI_ge (by omega) (by omega))]
      refine e.trans ?_
      obtain ⟨g2, hg2⟩ : ∃ g', g - 2 * n = g' + 1 + 1 := ⟨g - 2 * n - 2, by omega⟩
      rw [hg2, e_X11_median_22, if_pos (nI_le (by omega) (by omega)), hmid, addI, ← l3, k_isIn]
      obtain ⟨w, hw1, hw2, ew⟩ := s9z (H.s9 (i := p) (by omega))
      by_cases hw : w = s
      · subst hw
        have hd : (decide (nI (cnt (gA h 73) (lsB (gA h 73 (12 + p))) n) ≤ nI ((n - 1) / 2)) && decide (nI ((n - 1) / 2) ≤ nI (cnt (gA h 73) (leB (gA h 73 (12 + p))) n) - 1)) = true := by
          refine in_dec ⟨?_, ?_⟩
          · rw [ew]; exact nI_le hs3 (by omega)
          · rw [i32le, nIm1 (by omega), nIt (by omega), ew]
            omega
        rw [hd, bz_t, bI_s, e_X11_median_111, if_neg one0, litI 12, addI, inbI (by omega) (by omega), ew]
      · have hd : (decide (nI (cnt (gA h 73) (lsB (gA h 73 (12 + p))) n) ≤ nI ((n - 1) / 2)) && decide (nI ((n - 1) / 2) ≤ nI (cnt (gA h 73) (leB (gA h 73 (12 + p))) n) - 1)) = false := by
          refine in_decf fun ⟨q1, q2⟩ => ?_
          rw [leI (by omega) (by omega)] at q1
          rw [i32le, nIm1 (by omega), nIt (by omega)] at q2
          rcases Nat.lt_or_ge (cnt (gA h 73) (lsB (gA h 73 (12 + p))) n) (cnt (gA h 73) (leB (zI s)) n) with g1 | g1
          · rcases Nat.lt_or_ge (cnt (gA h 73) (lsB (zI s)) n) (cnt (gA h 73) (leB (gA h 73 (12 + p))) n) with g3 | g3
            · rcases Int.lt_or_gt_of_ne hw with g5 | g5
              · have := cnt_mono (A := gA h 73) (P := leB (gA h 73 (12 + p))) (Q := lsB (zI s)) (fun x hx => by
                  simp only [lsB, leB, decide_eq_true_eq] at hx ⊢
                  rw [ew, i32le, zI_toInt (by omega) (by omega)] at hx
                  rw [i32lt, zI_toInt (by omega) (by omega)]
                  omega) n
                omega
              · have := cnt_mono (A := gA h 73) (P := leB (zI s)) (Q := lsB (gA h 73 (12 + p))) (fun x hx => by
                  simp only [lsB, leB, decide_eq_true_eq] at hx ⊢
                  rw [i32le, zI_toInt (by omega) (by omega)] at hx
                  rw [ew, i32lt, zI_toInt (by omega) (by omega)]
                  omega) n
                omega
            · omega
          · omega
        rw [hd, bz_f, bI_s, e_X11_median_111, if_pos rfl, nI_1]
        refine ih (p + 1) g2 (by omega) (by omega) ?_
        obtain ⟨q, h1, h2, h3⟩ := hex
        refine ⟨q, ?_, h2, h3⟩
        rcases Nat.lt_or_ge p q with g1 | g1
        · exact g1
        · exfalso
          obtain rfl : q = p := by omega
          rw [ew] at h3
          have := congrArg Int32.toInt h3
          rw [zI_toInt (by omega) (by omega), zI_toInt (by omega) (by omega)] at this
          exact hw this
  have hex : ∃ q, 0 ≤ q ∧ q < n ∧ gA h 73 (12 + q) = zI s := by
    have e := cnt_le3 (gA h 73) (zI s) n
    obtain ⟨i, hi, e2⟩ := cnt_ex (A := gA h 73) (P := eqB (zI s)) n (by omega)
    exact ⟨i, by omega, hi, by simpa [eqB] using e2⟩
  rw [c_X11_median, e_X11_median_0, a0]
  exact lp n 0 999999 (by omega) (by omega) hex
theorem op_median {n t k : Nat} (H : RA h (gA h 73) n t k) : OpA X tx tu gu tl h n t k 135 [vP (some 0)] 291 [vP (some 72)] := by
  obtain ⟨a0, hn, x0⟩ := H.p
  by_cases hn0 : n = 0
  · subst hn0
    refine OpA_id (v := vI (-100)) H ?_ ?_
    · rw [c_X10_median, e_X10_median_0, x0, if_pos (by decide)]
    · rw [c_X11_median, e_X11_median_0, e_X11_median_9, a0, if_pos (by decide)]
  obtain ⟨s, h1, h2, h3, h4, e⟩ := md_x X tx tu gu tl h H hn0
  exact OpA_id (v := vI (zI s)) H e (md_k X tx tu gu tl h H hn0 h1 h2 h3 h4)
end QV
