/-! A TEXT IS PLAYED, clause by clause -/
def perR (A : Nat → Int32) (n : Nat) (x1 x2 : Int32) : Int32 × (Nat → Int32) × Nat := bif (decide (-9 ≤ x1) && decide (x1 ≤ 9)) && (decide (1 ≤ x2) && decide (x2 ≤ 9)) && Nat.blt n 5 then (nI n, addF A n x1 x2, n + 1) else (-1, A, n)
def rckR (A : Nat → Int32) (x1 x2 : Int32) : Bool × (Nat → Int32) := bif (decide (0 ≤ x1) && decide (x1 ≤ 4)) && (decide (-9 ≤ x2) && decide (x2 ≤ 9)) then (true, upd A (32 + x1.toNatClampNeg) x2) else (false, A)
theorem dec2 {a b v : Int32} (h : (decide (a ≤ v) && decide (v ≤ b)) = true) : a ≤ v ∧ v ≤ b := by
  rw [Bool.and_eq_true, decide_eq_true_eq, decide_eq_true_eq] at h
  exact h
theorem blt5 {n : Nat} (h : Nat.blt n 5 = true) : n < 5 := Nat.le_of_ble_eq_true h
theorem perR_I {A : Nat → Int32} {n t k : Nat} (H : Inv A n t k) (x1 x2 : Int32) : Inv (perR A n x1 x2).2.1 (perR A n x1 x2).2.2 t k := by
  unfold perR
  cases h1 : (decide (-9 ≤ x1) && decide (x1 ≤ 9)) with
  | false => exact H
  | true =>
    cases h2 : (decide (1 ≤ x2) && decide (x2 ≤ 9)) with
    | false => exact H
    | true =>
      cases h3 : Nat.blt n 5 with
      | false => exact H
      | true => exact H.ad (blt5 h3) (dec2 h1) (dec2 h2)
theorem rckR_I {A : Nat → Int32} {n t k : Nat} (H : Inv A n t k) (x1 x2 : Int32) : Inv (rckR A x1 x2).2 n t k := by
  unfold rckR
  cases h1 : (decide (0 ≤ x1) && decide (x1 ≤ 4)) with
  | false => exact H
  | true =>
    cases h2 : (decide (-9 ≤ x2) && decide (x2 ≤ 9)) with
    | false => exact H
    | true =>
      obtain ⟨j, hj, rfl⟩ := in_nI (m := 4) (dec2 h1).1 (dec2 h1).2 (by omega)
      show Inv (upd A (32 + (nI j).toNatClampNeg) x2) n t k
      rw [clI (by omega)]
      exact H.to (by omega) (fun _ => dec2 h2) (by omega)
section PL
variable (X : XS) (d : Nat) (tx tu gu : Option Nat) (tl : List SC)
theorem x_person {n t k : Nat} (h : DT) {A : Nat → Int32} (HI : Inv A n t k) (HX : XA h A k) (x1 x2 : Int32) : XC X (d + 4) tx tu gu tl h 99 [vP (some 0), vI x1, vI x2] (vI (perR A n x1 x2).1) (perR A n x1 x2).2.1 k := by
  have hn := HI.1.2.1
  have hk := HI.2.2.1.2.1
  have x0 := x0_of HI HX
  unfold perR
  cases h1 : (decide (-9 ≤ x1) && decide (x1 ≤ 9)) with
  | false =>
    refine XC_id ?_ HX
    rw [c_X10_person, e_X10_person_0, x_isSlant, h1, bz_f, bI_s, if_pos rfl]
    rfl
  | true =>
    cases h2 : (decide (1 ≤ x2) && decide (x2 ≤ 9)) with
    | false =>
      refine XC_id ?_ HX
      rw [c_X10_person, e_X10_person_0, x_isSlant, h1, bz_t, bI_s, if_neg one0, x_within, h2, bz_f, bI_s, e_X10_person_14, if_pos rfl]
      rfl
    | true =>
      cases h3 : Nat.blt n 5 with
      | false =>
        have h5 : n = 5 := by
          rcases Nat.lt_or_ge n 5 with q | q
          · rw [show Nat.blt n 5 = true from Nat.ble_eq_true_of_le q] at h3; cases h3
          · omega
        refine XC_id ?_ HX
        rw [c_X10_person, e_X10_person_0, x_isSlant, h1, bz_t, bI_s, if_neg one0, x_within, h2, bz_t, bI_s, e_X10_person_14, if_neg one0, x0, h5, if_neg (by decide)]
        rfl
      | true =>
        have h5 := blt5 h3
        refine ⟨sF (sA (sA (sA (sA h 2 n x1) 4 n x1) 3 n x2) 5 n (nI n)) 1 0 (nI (n + 1)), ?_, (((((smX_sA (by unfold isXa; omega)).tr (smX_sA (by unfold isXa; omega))).tr (smX_sA (by unfold isXa; omega))).tr (smX_sA (by unfold isXa; omega))).tr (smX_sF (by unfold isXa; omega))), ?_⟩
        · rw [c_X10_person, e_X10_person_0, x_isSlant, h1, bz_t, bI_s, if_neg one0, x_within, h2, bz_t, bI_s, e_X10_person_14, if_neg one0, x0, if_pos (by rw [litI 5, ltI (by omega) (by omega)]; omega), c_X5_add, e_X5_add_0 (hp := Or.inl rfl), x0, if_pos (by rw [litI 5, ltI (by omega) (by omega)]; omega), inbI (by omega) (by omega), inbI (by omega) (by omega), inbI (by omega) (by omega), inbI (by omega) (by omega), bV_s, e_X10_person_39, gF_sF, if_pos ⟨rfl, rfl⟩, nI_1, nI_pred]
          rfl
        · have e1 := XA.rf (f := 0) (a := 0) (v := nI (n + 1)) (XA.ra (c := 5) (j := n) (a := 17 + n) (v := nI n) (XA.ra (c := 3) (j := n) (a := 22 + n) (v := x2) (XA.ra (c := 4) (j := n) (a := 27 + n) (v := x1) (XA.ra (c := 2) (j := n) (a := 12 + n) (v := x1) HX hk (by omega)) hk (by omega)) hk (by omega)) hk (by omega)) (by omega)
          have e2 : upd (upd (upd (upd (upd A (12 + n) x1) (27 + n) x1) (22 + n) x2) (17 + n) (nI n)) 0 (nI (n + 1)) = addF A n x1 x2 := by
            funext i
            simp only [addF, upd_at]
            by_cases q1 : i = 0
            · simp [q1]
            · by_cases q2 : i = 17 + n
              · simp [q2]
              · by_cases q3 : i = 12 + n
                · rw [if_neg q1, if_neg q2, if_neg (by omega), if_neg (by omega), if_pos q3, if_neg q1, if_neg q2, if_pos q3]
                · rw [if_neg q1, if_neg q2, if_neg q1, if_neg q2, if_neg q3, if_neg q3]
          rw [e2] at e1
          exact e1
theorem k_person {n t k : Nat} (h : DT) (HI : Inv (gA h 73) n t k) (x1 x2 : Int32) : KC X (d + 4) tx tu gu tl h 172 [vP (some 72), vI x1, vI x2] (vI (perR (gA h 73) n x1 x2).1) (perR (gA h 73) n x1 x2).2.1 := by
  have hn := HI.1.2.1
  have a0 := HI.1.1
  unfold perR
  cases h1 : (decide (-9 ≤ x1) && decide (x1 ≤ 9)) with
  | false =>
    refine KC_id ?_
    rw [c_X11_person, e_X11_person_0, k_isSteep, h1, bz_f, bI_s, if_pos rfl]
    rfl
  | true =>
    cases h2 : (decide (1 ≤ x2) && decide (x2 ≤ 9)) with
    | false =>
      refine KC_id ?_
      rw [c_X11_person, e_X11_person_0, k_isSteep, h1, bz_t, bI_s, if_neg one0, k_isIn, h2, bz_f, bI_s, e_X11_person_14, if_pos rfl]
      rfl
    | true =>
      cases h3 : Nat.blt n 5 with
      | false =>
        have h5 : n = 5 := by
          rcases Nat.lt_or_ge n 5 with q | q
          · rw [show Nat.blt n 5 = true from Nat.ble_eq_true_of_le q] at h3; cases h3
          · omega
        refine KC_id ?_
        rw [c_X11_person, e_X11_person_0, k_isSteep, h1, bz_t, bI_s, if_neg one0, k_isIn, h2, bz_t, bI_s, e_X11_person_14, if_neg one0, a0, h5, if_pos (by decide)]
        rfl
      | true =>
        have h5 := blt5 h3
        show KC X (d + 4) tx tu gu tl h 172 [vP (some 72), vI x1, vI x2] (vI (nI n)) (addF (gA h 73) n x1 x2)
        refine KC_w ?_
        rw [c_X11_person, e_X11_person_0, k_isSteep, h1, bz_t, bI_s, if_neg one0, k_isIn, h2, bz_t, bI_s, e_X11_person_14, if_neg one0, a0, if_neg (by rw [litI 5, eqI (by omega) (by omega)]; omega), litI 27, addI, inbI (by omega) (by omega), litI 22, addI, inbI (by omega) (by omega), k_begin X _ tx tu gu tl _ (by omega), bV_s, e_X11_person_61]
        simp only [sA_w, gA_wA', wA_wA]
        rw [pk_un (show 27 + n ≠ 22 + n by omega), pk_us, pk_un (show (0 : Nat) ≠ 17 + n by omega), pk_un (show (0 : Nat) ≠ 12 + n by omega), pk_un (show (0 : Nat) ≠ 22 + n by omega), pk_un (show (0 : Nat) ≠ 27 + n by omega), a0, nI_1]
        rfl
theorem x_rack {n t k : Nat} (h : DT) {A : Nat → Int32} (HX : XA h A k) (x1 x2 : Int32) : XC X (d + 4) tx tu gu tl h 100 [vP (some 0), vI x1, vI x2] (vI (bzB (rckR A x1 x2).1)) (rckR A x1 x2).2 k := by
  unfold rckR
  cases h1 : (decide (0 ≤ x1) && decide (x1 ≤ 4)) with
  | false =>
    refine XC_id ?_ HX
    rw [c_X10_rack, e_X10_rack_0, x_within, h1, bz_f, bI_s, if_pos rfl]
    rfl
  | true =>
    cases h2 : (decide (-9 ≤ x2) && decide (x2 ≤ 9)) with
    | false =>
      refine XC_id ?_ HX
      rw [c_X10_rack, e_X10_rack_0, x_within, h1, bz_t, bI_s, if_neg one0, x_isSlant, h2, bz_f, bI_s, e_X10_rack_13, if_pos rfl]
      rfl
    | true =>
      obtain ⟨j, hj, rfl⟩ := in_nI (m := 4) (dec2 h1).1 (dec2 h1).2 (by omega)
      show XC X (d + 4) tx tu gu tl h 100 [vP (some 0), vI (nI j), vI x2] (vI 1) (upd A (32 + (nI j).toNatClampNeg) x2) k
      rw [clI (by omega)]
      refine ⟨sA h 10 j x2, ?_, smX_sA (by unfold isXa; omega), HX.ta (by omega)⟩
      rw [c_X10_rack, e_X10_rack_0, x_within, h1, bz_t, bI_s, if_neg one0, x_isSlant, h2, bz_t, bI_s, e_X10_rack_13, if_neg one0, inbI (by omega) (by omega)]
theorem k_rack (h : DT) (x1 x2 : Int32) : KC X (d + 4) tx tu gu tl h 174 [vP (some 72), vI x1, vI x2] (vI (bzB (rckR (gA h 73) x1 x2).1)) (rckR (gA h 73) x1 x2).2 := by
  unfold rckR
  cases h1 : (decide (0 ≤ x1) && decide (x1 ≤ 4)) with
  | false =>
    refine KC_id ?_
    rw [c_X11_rack, e_X11_rack_0, k_isSeat, h1, bz_f, bI_s, if_pos rfl]
    rfl
  | true =>
    cases h2 : (decide (-9 ≤ x2) && decide (x2 ≤ 9)) with
    | false =>
      refine KC_id ?_
      rw [c_X11_rack, e_X11_rack_0, k_isSeat, h1, bz_t, bI_s, if_neg one0, k_isSteep, h2, bz_f, bI_s, e_X11_rack_11, if_pos rfl]
      rfl
    | true =>
      obtain ⟨j, hj, rfl⟩ := in_nI (m := 4) (dec2 h1).1 (dec2 h1).2 (by omega)
      show KC X (d + 4) tx tu gu tl h 174 [vP (some 72), vI (nI j), vI x2] (vI 1) (upd (gA h 73) (32 + (nI j).toNatClampNeg) x2)
      rw [clI (by omega)]
      refine KC_w ?_
      rw [c_X11_rack, e_X11_rack_0, k_isSeat, h1, bz_t, bI_s, if_neg one0, k_isSteep, h2, bz_t, bI_s, e_X11_rack_11, if_neg one0, litI 32, addI, inbI (by omega) (by omega), sA_w]
end PL
/-- what a clause does: whether it can be, the numbers, people, steps -/
def plY (TT : Nat → TXT) (A : Nat → Int32) (n k v : Nat) : Bool × (Nat → Int32) × Nat × Nat := (decide (yOf A + v ≤ 9999), (yrI (rulL (A 2) TT) n (min v (9999 - yOf A)) A k).1, n, (yrI (rulL (A 2) TT) n (min v (9999 - yOf A)) A k).2.1)
def plS (TT : Nat → TXT) (q : Nat × Nat × Nat) (A : Nat → Int32) (n k : Nat) : Bool × (Nat → Int32) × Nat × Nat :=
  if q.1 = 2 then (!decide ((perR A n (nI q.2.1 - 9) (nI q.2.2)).1 = -1), (perR A n (nI q.2.1 - 9) (nI q.2.2)).2.1, (perR A n (nI q.2.1 - 9) (nI q.2.2)).2.2, k)
  else if q.1 = 3 then ((rckR A (nI q.2.2) (nI q.2.1 - 9)).1, (rckR A (nI q.2.2) (nI q.2.1 - 9)).2, n, k)
  else if q.1 = 4 then ((swpR A n k (nI q.2.1) (nI q.2.2)).1, (swpR A n k (nI q.2.1) (nI q.2.2)).2.1, n, (swpR A n k (nI q.2.1) (nI q.2.2)).2.2)
  else if q.1 = 5 then ((turR A n k (nI q.2.1)).1, (turR A n k (nI q.2.1)).2.1, n, (turR A n k (nI q.2.1)).2.2)
  else if q.1 = 6 then ((prpR A n k (nI q.2.1) true).1, (prpR A n k (nI q.2.1) true).2.1, n, (prpR A n k (nI q.2.1) true).2.2)
  else if q.1 = 7 then ((prpR A n k (nI q.2.1) false).1, (prpR A n k (nI q.2.1) false).2.1, n, (prpR A n k (nI q.2.1) false).2.2)
  else if q.1 = 8 then plY TT A n k q.2.1 else (true, A, n, k)
theorem yrI_y {o : Option Cd} {n t : Nat} : ∀ (c k : Nat) (A : Nat → Int32), Inv A n t k → yOf A + c ≤ 9999 → yOf (yrI o n c A k).1 = yOf A + c
  | 0, k, A, H, hy => rfl
  | c + 1, k, A, H, hy => by
    show yOf (yrI o n c (yr1 o n A k) (kN k)).1 = _
    rw [yrI_y c (kN k) _ (yr1_I H (by omega)) (by rw [yr1_y H]; omega), yr1_y H]
    omega
theorem plS_I {TT : Nat → TXT} {q : Nat × Nat × Nat} {A : Nat → Int32} {n t k : Nat} (H : Inv A n t k) : Inv (plS TT q A n k).2.1 (plS TT q A n k).2.2.1 t (plS TT q A n k).2.2.2 := by
  have hy := H.rv.y
  unfold plS
  by_cases h2 : q.1 = 2
  · rw [if_pos h2]; exact perR_I H _ _
  rw [if_neg h2]
  by_cases h3 : q.1 = 3
  · rw [if_pos h3]; exact rckR_I H _ _
  rw [if_neg h3]
  by_cases h4 : q.1 = 4
  · rw [if_pos h4]; exact H.swR _ _
  rw [if_neg h4]
  by_cases h5 : q.1 = 5
  · rw [if_pos h5]; exact H.tuR _
  rw [if_neg h5]
  by_cases h6 : q.1 = 6
  · rw [if_pos h6]; exact H.prR _ _
  rw [if_neg h6]
  by_cases h7 : q.1 = 7
  · rw [if_pos h7]; exact H.prR _ _
  rw [if_neg h7]
  by_cases h8 : q.1 = 8
  · rw [if_pos h8]; exact yrI_I _ _ _ H (by omega)
  · rw [if_neg h8]; exact H
section PM
variable (X : XS) (d : Nat) (tx tu gu : Option Nat) (tl : List SC)
theorem x_perform {n t k s v w : Nat} {b3 : Int32} {TT : Nat → TXT} (h : DT) {A : Nat → Int32} (HI : Inv A n t k) (HX : XA h A k) (HT : ∀ j, j < t → TxR h j (TT j)) (hN : NmA h 41) (hs : s ≤ 8) (hv : v ≤ 60) (x2 : Int32) (e2 : 2 ≤ s → x2 = nI v) (e3 : 2 ≤ s → s ≤ 4 → b3 = nI w) : ∃ h1, cal X (d + 7) 153 [vP (some 0), vI (nI (s + 1)), vI x2, vI b3] (SK tx tu gu tl, h) = some (some (vI (bzB (plS TT (s, v, w) A n k).1)), (SK tx tu gu tl, h1)) ∧ smX isXl h h1 ∧ XA h1 (plS TT (s, v, w) A n k).2.1 (plS TT (s, v, w) A n k).2.2.2 ∧ NmA h1 41 := by
  have ne : ∀ m : Nat, m < 1000 → s + 1 ≠ m → ¬ nI (s + 1) = nI m := fun m hm hne => by rw [eqI (by omega) (by omega)]; exact hne
  have hy := HI.rv.y
  have x3 : gF h 1 3 = nI (yOf A) := HX.1.2.2.2.1.trans hy.1
  unfold plS
  rw [c_X10_perform, e_X10_perform_0]
  show ∃ h1, _ = some (some (vI (bzB (if s = 2 then _ else _ : Bool × (Nat → Int32) × Nat × Nat).1)), (SK tx tu gu tl, h1)) ∧ _
  by_cases h2 : s = 2
  · have ew := e3 (by omega) (by omega)
    rw [e2 (by omega), ew]
    rw [if_pos (show nI (s + 1) = 3 by rw [h2]; rfl), if_pos h2]
    obtain ⟨h1, g1, g2, g3⟩ := x_person X (d + 2) tx tu gu tl h HI HX (nI v - 9) (nI w)
    refine ⟨h1, ?_, g2.xl, g3, xa_N g2 hN⟩
    rw [g1, bI_s]
    show (if (perR A n (nI v - 9) (nI w)).1 = -1 then _ else _) = some (some (vI (bzB (!decide ((perR A n (nI v - 9) (nI w)).1 = -1)))), (SK tx tu gu tl, h1))
    by_cases g : (perR A n (nI v - 9) (nI w)).1 = -1
    · rw [if_pos g, decide_eq_true g]; rfl
    · rw [if_neg g, decide_eq_false g]; rfl
  rw [if_neg (show ¬ nI (s + 1) = 3 from ne 3 (by omega) (by omega)), if_neg h2]
  by_cases h3 : s = 3
  · have ew := e3 (by omega) (by omega)
    rw [e2 (by omega), ew]
    rw [if_pos (show nI (s + 1) = 4 by rw [h3]; rfl), if_pos h3]
    obtain ⟨h1, g1, g2, g3⟩ := x_rack X (d + 2) tx tu gu tl (n := n) (t := t) h HX (nI w) (nI v - 9)
    refine ⟨h1, ?_, g2.xl, g3, xa_N g2 hN⟩
    rw [g1, bI_s, if_pos (bz01 _)]
  rw [if_neg (show ¬ nI (s + 1) = 4 from ne 4 (by omega) (by omega)), if_neg h3]
  by_cases h4 : s = 4
  · have ew := e3 (by omega) (by omega)
    rw [e2 (by omega), ew]
    rw [if_pos (show nI (s + 1) = 5 by rw [h4]; rfl), if_pos h4]
    obtain ⟨h1, g1, g2, g3⟩ := x_swap X (d + 2) tx tu gu tl h HI HX (nI v) (nI w)
    refine ⟨h1, ?_, g2.xl, g3, xa_N g2 hN⟩
    rw [g1, bI_s, if_pos (bz01 _)]
  rw [if_neg (show ¬ nI (s + 1) = 5 from ne 5 (by omega) (by omega)), if_neg h4]
  by_cases h5 : s = 5
  · rw [e2 (by omega)]
    rw [if_pos (show nI (s + 1) = 6 by rw [h5]; rfl), if_pos h5]
    obtain ⟨h1, g1, g2, g3⟩ := x_turn X (d + 2) tx tu gu tl h HI HX (nI v)
    refine ⟨h1, ?_, g2.xl, g3, xa_N g2 hN⟩
    rw [g1, bI_s, if_pos (bz01 _)]
  rw [if_neg (show ¬ nI (s + 1) = 6 from ne 6 (by omega) (by omega)), if_neg h5]
  by_cases h6 : s = 6
  · rw [e2 (by omega)]
    rw [if_pos (show nI (s + 1) = 7 by rw [h6]; rfl), if_pos h6]
    obtain ⟨h1, g1, g2, g3⟩ := x_prop X (d + 2) tx tu gu tl h HI HX (nI v) true
    refine ⟨h1, ?_, g2.xl, g3, xa_N g2 hN⟩
    have g1' : cal X (d + 6) 108 [vP (some 0), vI (nI v), vI 1] (SK tx tu gu tl, h) = some (some (vI (bzB (prpR A n k (nI v) true).1)), (SK tx tu gu tl, h1)) := g1
    rw [g1', bI_s, if_pos (bz01 _)]
  rw [if_neg (show ¬ nI (s + 1) = 7 from ne 7 (by omega) (by omega)), if_neg h6]
  by_cases h7 : s = 7
  · rw [e2 (by omega)]
    rw [if_pos (show nI (s + 1) = 8 by rw [h7]; rfl), if_pos h7]
    obtain ⟨h1, g1, g2, g3⟩ := x_prop X (d + 2) tx tu gu tl h HI HX (nI v) false
    refine ⟨h1, ?_, g2.xl, g3, xa_N g2 hN⟩
    have g1' : cal X (d + 6) 108 [vP (some 0), vI (nI v), vI 0] (SK tx tu gu tl, h) = some (some (vI (bzB (prpR A n k (nI v) false).1)), (SK tx tu gu tl, h1)) := g1
    rw [g1', bI_s, if_pos (bz01 _)]
  rw [if_neg (show ¬ nI (s + 1) = 8 from ne 8 (by omega) (by omega)), if_neg h7]
  by_cases h8 : s = 8
  · rw [e2 (by omega)]
    rw [if_pos (show nI (s + 1) = 9 by rw [h8]; rfl), if_pos h8, x3, litI 9999, subI (by omega)]
    have em : (if nI (9999 - yOf A) < nI v then nI (9999 - yOf A) else nI v) = nI (min v (9999 - yOf A)) := by
      by_cases g : 9999 - yOf A < v
      · rw [if_pos (nI_lt g (by omega))]; congr 1; omega
      · rw [if_neg (nI_nlt (by omega) (by omega))]; congr 1; omega
    obtain ⟨h1, g1, g2, g3, g4⟩ := x_yrl X d tx tu gu tl (n := n) (t := t) (TT := TT) (v := min v (9999 - yOf A)) (by omega) (min v (9999 - yOf A)) 0 999999 k 0 h A HI HX HT hN (by omega) (by omega) (by omega)
    refine ⟨h1, ?_, g2, g3, g4⟩
    have g1' : cal X (d + 6) 152 [vP (some 0), vI (nI (min v (9999 - yOf A)))] (SK tx tu gu tl, h) = some (some (vI (nI (0 + (yrI (rulL (A 2) TT) n (min v (9999 - yOf A)) A k).2.2))), (SK tx tu gu tl, h1)) := by
      rw [c_X10_passYears, e_X10_passYears_0]; exact g1
    rw [em, g1', bI_s]
    show _ = some (some (vI (bzB (decide (yOf A + v ≤ 9999)))), (SK tx tu gu tl, h1))
    by_cases g : yOf A + v ≤ 9999
    · rw [if_pos (show nI (min v (9999 - yOf A)) = nI v by congr 1; omega), decide_eq_true g]; rfl
    · rw [if_neg (show ¬ nI (min v (9999 - yOf A)) = nI v by rw [eqI (by omega) (by omega)]; omega), decide_eq_false g]; rfl
  · refine ⟨h, ?_, smX.rf _ h, ?_, hN⟩
    · rw [if_neg (show ¬ nI (s + 1) = 9 from ne 9 (by omega) (by omega)), if_neg h8]
      rfl
    · rw [if_neg h8]; exact HX
theorem k_played1 {n t k s v w x : Nat} {TT : Nat → TXT} (h : DT) (HI : Inv (gA h 73) n t k) (HT : ∀ j, j < t → TxR h j (TT j)) (hN : NmA h 78) (hw : gF h 72 23 = 1) (hs : s ≤ 8) (hv : v ≤ 60) (hx : x + 2 < 2724) (e0 : gA h 75 x = nI s) (e2 : 2 ≤ s → gA h 75 (x + 1) = nI v) (e3 : 2 ≤ s → s ≤ 4 → gA h 75 (x + 2) = nI w) : ∃ h', cal X (d + 11) 243 [vP (some 72), vI (nI x)] (SK tx tu gu tl, h) = some (some (vI (bzB (plS TT (s, v, w) (gA h 73) n k).1)), (SK tx tu gu tl, h')) ∧ mSame h h' ∧ gA h' 73 = (plS TT (s, v, w) (gA h 73) n k).2.1 ∧ NmA h' 78 := by
  have ne : ∀ m : Nat, m < 1000 → s ≠ m → ¬ nI s = nI m := fun m hm hne => by rw [eqI (by omega) (by omega)]; exact hne
  have hy := HI.rv.y
  have ht4 := HI.t.2.1
  unfold plS
  rw [c_X11_isPlayed, e_X11_isPlayed_0, nI_1, inbI (by omega) (by omega), show nI x + 2 = nI (x + 2) from addI x 2, inbI (by omega) (by omega), inbI (by omega) (by omega), e0]
  show ∃ h1, _ = some (some (vI (bzB (if s = 2 then _ else _ : Bool × (Nat → Int32) × Nat × Nat).1)), (SK tx tu gu tl, h1)) ∧ _
  by_cases h2 : s = 2
  · rw [e2 (by omega), e3 (by omega) (by omega), if_pos (show nI s = 2 by rw [h2]; rfl), if_pos h2]
    obtain ⟨h1, g1, g2, g3, g4⟩ := k_person X (d + 6) tx tu gu tl h HI (nI v - 9) (nI w)
    refine ⟨h1, ?_, g2, g3, g4 hN⟩
    rw [g1, bI_s]
    show (if (perR (gA h 73) n (nI v - 9) (nI w)).1 < 0 then _ else _) = some (some (vI (bzB (!decide ((perR (gA h 73) n (nI v - 9) (nI w)).1 = -1)))), (SK tx tu gu tl, h1))
    have pc : (perR (gA h 73) n (nI v - 9) (nI w)).1 = -1 ∨ (perR (gA h 73) n (nI v - 9) (nI w)).1 = nI n := by
      unfold perR
      cases ((decide (-9 ≤ nI v - 9) && decide (nI v - 9 ≤ 9)) && (decide (1 ≤ nI w) && decide (nI w ≤ 9)) && Nat.blt n 5) with
      | false => exact Or.inl rfl
      | true => exact Or.inr rfl
    have hn := HI.1.2.1
    rcases pc with g | g
    · rw [g]; rfl
    · rw [g, if_neg (nI_pos (by omega)), decide_eq_false (nIneg (by omega))]; rfl
  rw [if_neg (show ¬ nI s = 2 from ne 2 (by omega) (by omega)), if_neg h2]
  by_cases h3 : s = 3
  · rw [e2 (by omega), e3 (by omega) (by omega), if_pos (show nI s = 3 by rw [h3]; rfl), if_pos h3]
    obtain ⟨h1, g1, g2, g3, g4⟩ := k_rack X (d + 6) tx tu gu tl h (nI w) (nI v - 9)
    refine ⟨h1, ?_, g2, g3, g4 hN⟩
    rw [g1, bI_s, if_pos (bz01 _)]
  rw [if_neg (show ¬ nI s = 3 from ne 3 (by omega) (by omega)), if_neg h3]
  by_cases h4 : s = 4
  · rw [e2 (by omega), e3 (by omega) (by omega), if_pos (show nI s = 4 by rw [h4]; rfl), if_pos h4]
    obtain ⟨h1, g1, g2, g3, g4⟩ := k_swap X (d + 6) tx tu gu tl h HI (nI v) (nI w)
    refine ⟨h1, ?_, g2, g3, g4 hN⟩
    rw [g1, bI_s, if_pos (bz01 _)]
  rw [if_neg (show ¬ nI s = 4 from ne 4 (by omega) (by omega)), if_neg h4]
  by_cases h5 : s = 5
  · rw [e2 (by omega), if_pos (show nI s = 5 by rw [h5]; rfl), if_pos h5]
    obtain ⟨h1, g1, g2, g3, g4⟩ := k_turn X (d + 6) tx tu gu tl h HI (nI v)
    refine ⟨h1, ?_, g2, g3, g4 hN⟩
    rw [g1, bI_s, if_pos (bz01 _)]
  rw [if_neg (show ¬ nI s = 5 from ne 5 (by omega) (by omega)), if_neg h5]
  by_cases h6 : s = 6
  · rw [e2 (by omega), if_pos (show nI s = 6 by rw [h6]; rfl), if_pos h6]
    obtain ⟨h1, g1, g2, g3, g4⟩ := k_prop X (d + 6) tx tu gu tl h HI (nI v) true
    refine ⟨h1, ?_, g2, g3, g4 hN⟩
    have g1' : cal X (d + 10) 240 [vP (some 72), vI (nI v), vI 1] (SK tx tu gu tl, h) = some (some (vI (bzB (prpR (gA h 73) n k (nI v) true).1)), (SK tx tu gu tl, h1)) := g1
    rw [g1', bI_s, if_pos (bz01 _)]
  rw [if_neg (show ¬ nI s = 6 from ne 6 (by omega) (by omega)), if_neg h6]
  by_cases h7 : s = 7
  · rw [e2 (by omega), if_pos (show nI s = 7 by rw [h7]; rfl), if_pos h7]
    obtain ⟨h1, g1, g2, g3, g4⟩ := k_prop X (d + 6) tx tu gu tl h HI (nI v) false
    refine ⟨h1, ?_, g2, g3, g4 hN⟩
    have g1' : cal X (d + 10) 240 [vP (some 72), vI (nI v), vI 0] (SK tx tu gu tl, h) = some (some (vI (bzB (prpR (gA h 73) n k (nI v) false).1)), (SK tx tu gu tl, h1)) := g1
    rw [g1', bI_s, if_pos (bz01 _)]
  rw [if_neg (show ¬ nI s = 7 from ne 7 (by omega) (by omega)), if_neg h7]
  by_cases h8 : s = 8
  · rw [e2 (by omega), if_pos (show nI s = 8 by rw [h8]; rfl), if_pos h8]
    have ks0 : KS h (sF h 72 24 0) := KS_F
    obtain ⟨h2, f', q0, q1, q2, q3, q4, q5⟩ := k_yrl X d tx tu gu tl (n := n) (t := t) (TT := TT) hv (min v (9999 - yOf (gA h 73))) 0 999999 k (sF h 72 24 0) HI (fun j hj => (HT j hj).cg (by omega) ks0.st) hN (by rw [ks0.2 23 (by omega)]; exact hw) (by omega) (show yOf (gA h 73) + min v (9999 - yOf (gA h 73)) ≤ 9999 by omega) (by omega)
    have q3' : gA h2 73 = (yrI (rulL (gA h 73 2) TT) n (min v (9999 - yOf (gA h 73))) (gA h 73) k).1 := q3
    have hI2 := yrI_I (o := rulL (gA h 73 2) TT) (min v (9999 - yOf (gA h 73))) k _ HI (by omega)
    have y2 := yrI_y (o := rulL (gA h 73 2) TT) (min v (9999 - yOf (gA h 73))) k _ HI (by omega)
    have e7 : gA h2 73 7 = nI (yOf (gA h 73) + min v (9999 - yOf (gA h 73))) := by rw [q3', hI2.rv.y.1, y2]
    obtain ⟨f', rfl⟩ : ∃ g, f' = g + 1 := ⟨f' - 1, by omega⟩
    refine ⟨h2, ?_, (ks0.tr q2).ms, q3', q5⟩
    have q1' : cal X (d + 10) 241 [vP (some 72), vI (nI v)] (SK tx tu gu tl, h) = m_X11_arePassed X (d + 9) (f' + 1) 7 [(0, vP (some 72)), (1, vI (nI v)), (2, vI (nI (0 + min v (9999 - yOf (gA h 73)))))] [] (SK tx tu gu tl, h2) := by
      rw [c_X11_arePassed, e_X11_arePassed_0]; exact q1
    rw [q1', e_X11_arePassed_7, e7]
    show _ = some (some (vI (bzB (decide (yOf (gA h 73) + v ≤ 9999)))), (SK tx tu gu tl, h2))
    by_cases g : yOf (gA h 73) + v ≤ 9999
    · rw [if_pos (nI_le (by omega) (by omega)), decide_eq_true g, bI_s, if_pos (Or.inr rfl)]; rfl
    · rw [if_neg (nI_ge (by omega) (by omega)), if_pos (show nI (yOf (gA h 73) + min v (9999 - yOf (gA h 73))) = 9999 by rw [litI 9999]; congr 1; omega), decide_eq_false g, bI_s, if_pos (Or.inl rfl)]; rfl
  · refine ⟨h, ?_, mSame.rf h, ?_, hN⟩
    · rw [if_neg (show ¬ nI s = 8 from ne 8 (by omega) (by omega)), if_neg h8]
      rfl
    · rw [if_neg h8]
end PM
