/-! HEARD, SAID, PERSON; queries over the row: both answer alike -/
theorem bt_get : ∀ q, q < 32 → ∀ j, j < 5 → (nI q >>> (nI j &&& 31)) &&& 1 = bzB (Nat.testBit q j) := by decide +kernel
def absI (x : Int32) : Int32 := if 0 ≤ x then x else -x
theorem abs0 (x : Int32) : (if 0 ≤ x then x else 0 - x) = absI x := by
  unfold absI
  rw [Int32.zero_sub]
theorem absI_z {z : Int} (h1 : -2147483647 ≤ z) (h2 : z < 2147483648) : absI (zI z) = nI z.natAbs := by
  unfold absI
  rw [zI_nI]
  by_cases h : 0 ≤ z
  · rw [if_pos (by rw [i32le, i0t, zI_toInt (by omega) (by omega)]; exact h)]
    congr 1
    omega
  · rw [if_neg (by rw [i32le, i0t, zI_toInt (by omega) (by omega)]; exact h), zI_neg]
    congr 1
    omega
theorem k_size' (X : XS) (d : Nat) (tx tu gu : Option Nat) (tl : List SC) (h : DT) (x : Int32) : cal X (d + 1) 164 [vI x] (SK tx tu gu tl, h) = some (some (vI (absI x)), (SK tx tu gu tl, h)) := k_size X d tx tu gu tl h x
section QU
variable (X : XS) (tx tu gu : Option Nat) (tl : List SC) (h : DT)
theorem op_heard {n t k : Nat} (H : RA h (gA h 73) n t k) (x1 x2 : Int32) : OpA X tx tu gu tl h n t k 128 [vP (some 0), vI x1, vI x2] 278 [vP (some 72), vI x1, vI x2] := by
  obtain ⟨hI, hX⟩ := id H
  obtain ⟨a0, hn, x0⟩ := H.p
  obtain ⟨w, ew, hw, hw2⟩ := hI.2.2.2.2.2.1
  have xw : gF h 9 4 = nI w := hX.2.2.2.2.2.2.1.trans ew
  by_cases h1 : x1 = -1
  · refine OpA_w (h1 := sF h 9 4 0) (v := vI 0) (B := upd (gA h 73) 5 0) (by rw [c_X10_heard, e_X10_heard_0, if_pos h1]) (smX_sF (by unfold isXa; omega)) ?_ ⟨hI.wr (fun i _ _ => pk_un (by omega)) (hI.2.2.2.2.1.imp fun q hq => hq.cg (pk_un (by omega)) (fun i _ _ => pk_un (by omega))) ⟨0, by rw [pk_us]; rfl, by omega, fun i hi => by omega⟩ (hI.2.2.2.2.2.2.imp fun q hq => hq.cg (Nat.le_refl _) (pk_un (by omega)) (fun i _ _ => pk_un (by omega))), XA.tf hX (by omega)⟩
    rw [c_X11_heard, e_X11_heard_0, if_pos h1, sA_w]
    rfl
  · rcases per_cs x1 (n := n) (by omega) with ⟨p, hp, rfl⟩ | hx
    · by_cases hv : -999 ≤ x2 ∧ x2 ≤ 999
      · have hd := in_dec hv
        by_cases h10 : w = 6
        · subst h10
          refine OpA_id (v := vI (-2)) H ?_ ?_
          · simp only [c_X10_heard, e_X10_heard_0, if_neg h1, x_has_t X _ tx tu gu tl h (Or.inl rfl) x0 hn hp, x_within, hd, bz_t, bI_s, e_X10_heard_36, if_neg one0]
            rw [xw, if_neg (by decide)]
          · simp only [c_X11_heard, e_X11_heard_0, if_neg h1, k_per_t X _ tx tu gu tl h a0 hn hp, k_isIn, hd, bz_t, bI_s, e_X11_heard_32, if_neg one0]
            rw [ew, if_pos (by decide)]
        · obtain ⟨z, hz1, hz2, ez⟩ := in_z (lo := -999) (hi := 999) hv.1 hv.2 (by omega) (by omega) (by omega) (by omega)
          have hB : ∀ i, i ≠ 48 + 2 * w → i ≠ 49 + 2 * w → i ≠ 5 → upd (upd (upd (gA h 73) (48 + 2 * w) (nI p)) (49 + 2 * w) x2) 5 (nI (w + 1)) i = gA h 73 i := fun i q1 q2 q3 => by rw [pk_un q3, pk_un q2, pk_un q1]
          refine OpA_w (h1 := sF (sA (sA h 12 w (nI p)) 13 w x2) 9 4 (nI (w + 1))) (v := vI (nI (w + 1))) (B := upd (upd (upd (gA h 73) (48 + 2 * w) (nI p)) (49 + 2 * w) x2) 5 (nI (w + 1))) ?_ (((smX_sA (by unfold isXa; omega)).tr (smX_sA (by unfold isXa; omega))).tr (smX_sF (by unfold isXa; omega))) ?_ ⟨hI.wr (fun i _ _ => hB i (by omega) (by omega) (by omega)) (hI.2.2.2.2.1.imp fun q hq => hq.cg (hB _ (by omega) (by omega) (by omega)) (fun i _ _ => hB _ (by omega) (by omega) (by omega))) ⟨w + 1, by rw [pk_us], by omega, fun i hi => ?_⟩ (hI.2.2.2.2.2.2.imp fun q hq => hq.cg (Nat.le_refl _) (hB _ (by omega) (by omega) (by omega)) (fun i _ _ => hB _ (by omega) (by omega) (by omega))), XA.tf (XA.ta (XA.ta hX (by omega)) (by omega)) (by omega)⟩
          · simp only [c_X10_heard, e_X10_heard_0, if_neg h1, x_has_t X _ tx tu gu tl h (Or.inl rfl) x0 hn hp, x_within, hd, bz_t, bI_s, e_X10_heard_36, if_neg one0]
            rw [xw, if_pos (by rw [litI 6, ltI (by omega) (by omega)]; omega), inbI (by omega) (by omega), inbI (by omega) (by omega), nI_1]
          · have kw : ∀ h' : DT, gA h' 73 = gA h 73 → cal X 100 278 [vP (some 72), vI (nI p), vI x2] (SK tx tu gu tl, h') = some (some (vI (nI (w + 1))), (SK tx tu gu tl, wA h' 73 (upd (upd (upd (gA h 73) (48 + 2 * w) (nI p)) (49 + 2 * w) x2) 5 (nI (w + 1))))) := fun h' e' => by
              have a0' : gA h' 73 0 = nI n := by rw [e', a0]
              simp only [c_X11_heard, e_X11_heard_0, if_neg h1, k_per_t X _ tx tu gu tl _ a0' hn hp, k_isIn, hd, bz_t, bI_s, e_X11_heard_32, if_neg one0]
              rw [e', ew, if_neg (by rw [litI 6, eqI (by omega) (by omega)]; omega), litI 2, mulI, litI 48, addI, inbI (by omega) (by omega)]
              simp only [sA_w, gA_wA', wA_wA]
              rw [e', pk_un (show (5 : Nat) ≠ 48 + 2 * w by omega), ew, mulI, addI, nI_1, show 48 + 2 * w + 1 = 49 + 2 * w by omega, inbI (by omega) (by omega), pk_un (show (5 : Nat) ≠ 49 + 2 * w by omega), pk_un (show (5 : Nat) ≠ 48 + 2 * w by omega), ew, nI_1]
            exact kw _ (by rw [show gA (sF (sA (sA h 12 w (nI p)) 13 w x2) 9 4 (nI (w + 1))) 73 = gA (sA (sA h 12 w (nI p)) 13 w x2) 73 from rfl, gA_sAn (by omega), gA_sAn (by omega)])
          · by_cases e : i = w
            · subst e
              exact ⟨⟨p, hp, by rw [pk_un (by omega), pk_un (by omega), pk_us]⟩, z, hz1, hz2, by rw [pk_un (by omega), pk_us, ez]⟩
            · rw [hB _ (by omega) (by omega) (by omega), hB _ (by omega) (by omega) (by omega)]
              exact hw2 i (by omega)
      · have hd := in_decf hv
        refine OpA_id (v := vI (-2)) H ?_ ?_
        · simp only [c_X10_heard, e_X10_heard_0, if_neg h1, x_has_t X _ tx tu gu tl h (Or.inl rfl) x0 hn hp, x_within, hd, bz_f, bI_s, e_X10_heard_36, if_neg one0, if_true]
        · simp only [c_X11_heard, e_X11_heard_0, if_neg h1, k_per_t X _ tx tu gu tl h a0 hn hp, k_isIn, hd, bz_f, bI_s, e_X11_heard_32, if_neg one0, if_true]
    · refine OpA_id (v := vI (-2)) H ?_ ?_
      · simp only [c_X10_heard, e_X10_heard_0, if_neg h1, x_has_f X _ tx tu gu tl h (Or.inl rfl) x0 hx, bI_s, if_true]
      · simp only [c_X11_heard, e_X11_heard_0, if_neg h1, k_per_f X _ tx tu gu tl h a0 hn hx, bI_s, if_true]
theorem op_said {n t k : Nat} (H : RA h (gA h 73) n t k) (x1 x2 : Int32) : OpA X tx tu gu tl h n t k 138 [vP (some 0), vI x1, vI x2] 295 [vP (some 72), vI x1, vI x2] := by
  obtain ⟨hI, hX⟩ := id H
  obtain ⟨a0, hn, x0⟩ := H.p
  obtain ⟨w, ew, hw, hw2⟩ := hI.2.2.2.2.2.2
  have xw : gF h 9 5 = nI w := hX.2.2.2.2.2.2.2.1.trans ew
  by_cases h1 : x1 = -1
  · refine OpA_w (h1 := sF h 9 5 0) (v := vI 0) (B := upd (gA h 73) 6 0) (by rw [c_X10_said, e_X10_said_0, if_pos h1]) (smX_sF (by unfold isXa; omega)) ?_ ⟨hI.wr (fun i _ _ => pk_un (by omega)) (hI.2.2.2.2.1.imp fun q hq => hq.cg (pk_un (by omega)) (fun i _ _ => pk_un (by omega))) (hI.2.2.2.2.2.1.imp fun q hq => hq.cg (Nat.le_refl _) (pk_un (by omega)) (fun i _ _ => pk_un (by omega))) ⟨0, by rw [pk_us]; rfl, by omega, fun i hi => by omega⟩, XA.tf hX (by omega)⟩
    rw [c_X11_said, e_X11_said_0, if_pos h1, sA_w]
    rfl
  · rcases per_cs x1 (n := n) (by omega) with ⟨p, hp, rfl⟩ | hx
    · by_cases hv : -9 ≤ x2 ∧ x2 ≤ 9
      · have hd := in_dec hv
        by_cases h10 : w = 8
        · subst h10
          refine OpA_id (v := vI (-2)) H ?_ ?_
          · simp only [c_X10_said, e_X10_said_0, if_neg h1, x_has_t X _ tx tu gu tl h (Or.inl rfl) x0 hn hp, x_isSlant, hd, bz_t, bI_s, e_X10_said_30, if_neg one0]
            rw [xw, if_neg (by decide)]
          · simp only [c_X11_said, e_X11_said_0, if_neg h1, k_per_t X _ tx tu gu tl h a0 hn hp, k_isSteep, hd, bz_t, bI_s, e_X11_said_27, if_neg one0]
            rw [ew, if_pos (by decide)]
        · have hB : ∀ i, i ≠ 60 + 2 * w → i ≠ 61 + 2 * w → i ≠ 6 → upd (upd (upd (gA h 73) (60 + 2 * w) (nI p)) (61 + 2 * w) x2) 6 (nI (w + 1)) i = gA h 73 i := fun i q1 q2 q3 => by rw [pk_un q3, pk_un q2, pk_un q1]
          refine OpA_w (h1 := sF (sA (sA h 14 w (nI p)) 15 w x2) 9 5 (nI (w + 1))) (v := vI (nI (w + 1))) (B := upd (upd (upd (gA h 73) (60 + 2 * w) (nI p)) (61 + 2 * w) x2) 6 (nI (w + 1))) ?_ (((smX_sA (by unfold isXa; omega)).tr (smX_sA (by unfold isXa; omega))).tr (smX_sF (by unfold isXa; omega))) ?_ ⟨hI.wr (fun i _ _ => hB i (by omega) (by omega) (by omega)) (hI.2.2.2.2.1.imp fun q hq => hq.cg (hB _ (by omega) (by omega) (by omega)) (fun i _ _ => hB _ (by omega) (by omega) (by omega))) (hI.2.2.2.2.2.1.imp fun q hq => hq.cg (Nat.le_refl _) (hB _ (by omega) (by omega) (by omega)) (fun i _ _ => hB _ (by omega) (by omega) (by omega))) ⟨w + 1, by rw [pk_us], by omega, fun i hi => ?_⟩, XA.tf (XA.ta (XA.ta hX (by omega)) (by omega)) (by omega)⟩
          · simp only [c_X10_said, e_X10_said_0, if_neg h1, x_has_t X _ tx tu gu tl h (Or.inl rfl) x0 hn hp, x_isSlant, hd, bz_t, bI_s, e_X10_said_30, if_neg one0]
            rw [xw, if_pos (by rw [litI 8, ltI (by omega) (by omega)]; omega), inbI (by omega) (by omega), inbI (by omega) (by omega), nI_1]
          · have kw : ∀ h' : DT, gA h' 73 = gA h 73 → cal X 100 295 [vP (some 72), vI (nI p), vI x2] (SK tx tu gu tl, h') = some (some (vI (nI (w + 1))), (SK tx tu gu tl, wA h' 73 (upd (upd (upd (gA h 73) (60 + 2 * w) (nI p)) (61 + 2 * w) x2) 6 (nI (w + 1))))) := fun h' e' => by
              have a0' : gA h' 73 0 = nI n := by rw [e', a0]
              simp only [c_X11_said, e_X11_said_0, if_neg h1, k_per_t X _ tx tu gu tl _ a0' hn hp, k_isSteep, hd, bz_t, bI_s, e_X11_said_27, if_neg one0]
              rw [e', ew, if_neg (by rw [litI 8, eqI (by omega) (by omega)]; omega), litI 2, mulI, litI 60, addI, inbI (by omega) (by omega)]
              simp only [sA_w, gA_wA', wA_wA]
              rw [e', pk_un (show (6 : Nat) ≠ 60 + 2 * w by omega), ew, mulI, addI, nI_1, show 60 + 2 * w + 1 = 61 + 2 * w by omega, inbI (by omega) (by omega), pk_un (show (6 : Nat) ≠ 61 + 2 * w by omega), pk_un (show (6 : Nat) ≠ 60 + 2 * w by omega), ew, nI_1]
            exact kw _ (by rw [show gA (sF (sA (sA h 14 w (nI p)) 15 w x2) 9 5 (nI (w + 1))) 73 = gA (sA (sA h 14 w (nI p)) 15 w x2) 73 from rfl, gA_sAn (by omega), gA_sAn (by omega)])
          · by_cases e : i = w
            · subst e
              refine ⟨⟨p, hp, by rw [pk_un (by omega), pk_un (by omega), pk_us]⟩, ?_⟩
              rw [pk_un (by omega), pk_us]
              exact hv
            · rw [hB _ (by omega) (by omega) (by omega), hB _ (by omega) (by omega) (by omega)]
              exact hw2 i (by omega)
      · have hd := in_decf hv
        refine OpA_id (v := vI (-2)) H ?_ ?_
        · simp only [c_X10_said, e_X10_said_0, if_neg h1, x_has_t X _ tx tu gu tl h (Or.inl rfl) x0 hn hp, x_isSlant, hd, bz_f, bI_s, e_X10_said_30, if_neg one0, if_true]
        · simp only [c_X11_said, e_X11_said_0, if_neg h1, k_per_t X _ tx tu gu tl h a0 hn hp, k_isSteep, hd, bz_f, bI_s, e_X11_said_27, if_neg one0, if_true]
    · refine OpA_id (v := vI (-2)) H ?_ ?_
      · simp only [c_X10_said, e_X10_said_0, if_neg h1, x_has_f X _ tx tu gu tl h (Or.inl rfl) x0 hx, bI_s, if_true]
      · simp only [c_X11_said, e_X11_said_0, if_neg h1, k_per_f X _ tx tu gu tl h a0 hn hx, bI_s, if_true]
/-- a person is added -/
def addF (A : Nat → Int32) (n : Nat) (x1 x2 : Int32) : Nat → Int32 := upd (upd (upd (upd (upd A (27 + n) x1) (22 + n) x2) (12 + n) x1) (17 + n) (nI n)) 0 (nI (n + 1))
theorem addF_o {A : Nat → Int32} {n : Nat} {x1 x2 : Int32} {i : Nat} (h1 : i ≠ 27 + n) (h2 : i ≠ 22 + n) (h3 : i ≠ 12 + n) (h4 : i ≠ 17 + n) (h5 : i ≠ 0) : addF A n x1 x2 i = A i := by
  unfold addF
  rw [pk_un h5, pk_un h4, pk_un h3, pk_un h2, pk_un h1]
theorem Inv.ad {A : Nat → Int32} {n t k : Nat} {x1 x2 : Int32} (H : Inv A n t k) (hn : n < 5) (h1 : stp9 x1) (h2 : 1 ≤ x2 ∧ x2 ≤ 9) : Inv (addF A n x1 x2) (n + 1) t k := by
  obtain ⟨⟨p0, p1, p2, p3, p4, p5⟩, ht, hs, ⟨r0, r1, r2, r3, r4, r5, r6, r7, r8, r9⟩, ⟨w, hw⟩, ⟨q, hq⟩, ⟨s, hsd⟩⟩ := H
  obtain ⟨z, hz1, hz2, rfl⟩ := in_nI1 (m := 9) h2.1 h2.2 (by omega)
  refine ⟨⟨pk_us, by omega, fun i hi => ?_, fun i hi => ?_, fun i hi => ?_, ?_⟩, ht.cg (addF_o (by omega) (by omega) (by omega) (by omega) (by omega)) (addF_o (by omega) (by omega) (by omega) (by omega) (by omega)), hs.cg (by omega) (addF_o (by omega) (by omega) (by omega) (by omega) (by omega)) (fun i _ _ => addF_o (by omega) (by omega) (by omega) (by omega) (by omega)), ⟨by omega, ?_, ?_, ?_, ?_, ?_, fun i hi => ?_, fun i hi1 hi => ?_, fun i hi => ?_, fun p hp => ?_⟩, ⟨w, hw.cg (addF_o (by omega) (by omega) (by omega) (by omega) (by omega)) (fun i _ _ => addF_o (by omega) (by omega) (by omega) (by omega) (by omega))⟩, ⟨q, hq.cg (by omega) (addF_o (by omega) (by omega) (by omega) (by omega) (by omega)) (fun i _ _ => addF_o (by omega) (by omega) (by omega) (by omega) (by omega))⟩, ⟨s, hsd.cg (by omega) (addF_o (by omega) (by omega) (by omega) (by omega) (by omega)) (fun i _ _ => addF_o (by omega) (by omega) (by omega) (by omega) (by omega))⟩⟩
  · by_cases e : i = n
    · subst e
      refine ⟨z, hz1, hz2, ?_⟩
      unfold addF
      rw [pk_un (by omega), pk_un (by omega), pk_un (by omega), pk_us]
    · rw [addF_o (by omega) (by omega) (by omega) (by omega) (by omega)]
      exact p2 i (by omega)
  · by_cases e : i = n
    · subst e
      unfold addF
      rw [pk_un (by omega), pk_un (by omega), pk_un (by omega), pk_un (by omega), pk_us]
      exact h1
    · rw [addF_o (by omega) (by omega) (by omega) (by omega) (by omega)]
      exact p3 i (by omega)
  · rw [addF_o (by omega) (by omega) (by omega) (by omega) (by omega)]
    exact p4 i hi
  · rw [addF_o (by omega) (by omega) (by omega) (by omega) (by omega)]
    exact p5
  · rw [addF_o (by omega) (by omega) (by omega) (by omega) (by omega)]
    exact r1
  · rw [addF_o (by omega) (by omega) (by omega) (by omega) (by omega)]
    exact r2
  · rw [addF_o (by omega) (by omega) (by omega) (by omega) (by omega)]
    exact r3
  · rw [addF_o (by omega) (by omega) (by omega) (by omega) (by omega)]
    exact r4
  · rw [addF_o (by omega) (by omega) (by omega) (by omega) (by omega)]
    exact r5
  · by_cases e : i = n
    · subst e
      unfold addF
      rw [pk_un (by omega), pk_un (by omega), show 7 + 5 + i = 12 + i by omega, pk_us]
      exact h1
    · rw [addF_o (by omega) (by omega) (by omega) (by omega) (by omega)]
      exact r6 i hi
  · rw [addF_o (by omega) (by omega) (by omega) (by omega) (by omega), addF_o (by omega) (by omega) (by omega) (by omega) (by omega)]
    exact r7 i (by omega) hi
  · by_cases e : i = n
    · subst e
      refine ⟨i, by omega, ?_⟩
      unfold addF
      rw [pk_un (by omega), show 7 + 10 + i = 17 + i by omega, pk_us]
    · rw [addF_o (by omega) (by omega) (by omega) (by omega) (by omega)]
      obtain ⟨p, hp, e2⟩ := r8 i (by omega)
      exact ⟨p, by omega, e2⟩
  · by_cases e : p = n
    · subst e
      refine ⟨p, by omega, ?_⟩
      unfold addF
      rw [pk_un (by omega), show 7 + 10 + p = 17 + p by omega, pk_us]
    · obtain ⟨s, hs, e2⟩ := r9 p (by omega)
      refine ⟨s, by omega, ?_⟩
      rw [addF_o (by omega) (by omega) (by omega) (by omega) (by omega)]
      exact e2
theorem op_person {n t k : Nat} (H : RA h (gA h 73) n t k) (x1 x2 : Int32) : OpA X tx tu gu tl h n t k 99 [vP (some 0), vI x1, vI x2] 172 [vP (some 72), vI x1, vI x2] := by
  obtain ⟨hI, hX⟩ := id H
  obtain ⟨a0, hn, x0⟩ := H.p
  by_cases hv : (-9 ≤ x1 ∧ x1 ≤ 9)
  · have hd1 := in_dec hv
    by_cases hw : (1 ≤ x2 ∧ x2 ≤ 9)
    · have hd2 := in_dec hw
      by_cases h5 : n = 5
      · subst h5
        refine OpA_id (v := vI (-1)) H ?_ ?_
        · simp only [c_X10_person, e_X10_person_0, x_isSlant, hd1, bz_t, bI_s, if_neg one0, x_within, hd2, e_X10_person_14]
          rw [x0, if_neg (by decide)]
        · simp only [c_X11_person, e_X11_person_0, k_isSteep, hd1, bz_t, bI_s, if_neg one0, k_isIn, hd2, e_X11_person_14]
          rw [a0, if_pos (by decide)]
      · refine OpA_w (v := vI (nI n)) (n' := n + 1) (k' := k) (h1 := sF (sA (sA (sA (sA h 2 n x1) 4 n x1) 3 n x2) 5 n (nI n)) 1 0 (nI (n + 1))) (B := addF (gA h 73) n x1 x2) ?_ (((((smX_sA (by unfold isXa; omega)).tr (smX_sA (by unfold isXa; omega))).tr (smX_sA (by unfold isXa; omega))).tr (smX_sA (by unfold isXa; omega))).tr (smX_sF (by unfold isXa; omega))) ?_ ⟨hI.ad (by omega) hv hw, ?_⟩
        · simp only [c_X10_person, e_X10_person_0, x_isSlant, hd1, bz_t, bI_s, if_neg one0, x_within, hd2, e_X10_person_14]
          rw [x0, if_pos (by rw [litI 5, ltI (by omega) (by omega)]; omega), c_X5_add, e_X5_add_0 (hp := Or.inl rfl), x0, if_pos (by rw [litI 5, ltI (by omega) (by omega)]; omega), inbI (by omega) (by omega), inbI (by omega) (by omega), inbI (by omega) (by omega), inbI (by omega) (by omega), bV_s, e_X10_person_39, gF_sF, if_pos ⟨rfl, rfl⟩, nI_1, nI_pred]
        · have kw : ∀ h' : DT, gA h' 73 = gA h 73 → cal X 100 172 [vP (some 72), vI x1, vI x2] (SK tx tu gu tl, h') = some (some (vI (nI n)), (SK tx tu gu tl, wA h' 73 (addF (gA h 73) n x1 x2))) := fun h' e' => by
            simp only [c_X11_person, e_X11_person_0, k_isSteep, hd1, bz_t, bI_s, if_neg one0, k_isIn, hd2, e_X11_person_14]
            rw [e', a0, if_neg (by rw [litI 5, eqI (by omega) (by omega)]; omega), litI 27, addI, inbI (by omega) (by omega), litI 22, addI, inbI (by omega) (by omega), k_begin X _ tx tu gu tl _ (by omega), bV_s, e_X11_person_61]
            simp only [sA_w, gA_wA', wA_wA]
            rw [e', pk_un (show 27 + n ≠ 22 + n by omega), pk_us, pk_un (show (0 : Nat) ≠ 17 + n by omega), pk_un (show (0 : Nat) ≠ 12 + n by omega), pk_un (show (0 : Nat) ≠ 22 + n by omega), pk_un (show (0 : Nat) ≠ 27 + n by omega), a0, nI_1]
            rfl
          exact kw _ (by rw [show gA (sF (sA (sA (sA (sA h 2 n x1) 4 n x1) 3 n x2) 5 n (nI n)) 1 0 (nI (n + 1))) 73 = gA (sA (sA (sA (sA h 2 n x1) 4 n x1) 3 n x2) 5 n (nI n)) 73 from rfl, gA_sAn (by omega), gA_sAn (by omega), gA_sAn (by omega), gA_sAn (by omega)])
        · have e1 := XA.rf (f := 0) (a := 0) (v := nI (n + 1)) (XA.ra (c := 5) (j := n) (a := 17 + n) (v := nI n) (XA.ra (c := 3) (j := n) (a := 22 + n) (v := x2) (XA.ra (c := 4) (j := n) (a := 27 + n) (v := x1) (XA.ra (c := 2) (j := n) (a := 12 + n) (v := x1) hX H.k30 (by omega)) H.k30 (by omega)) H.k30 (by omega)) H.k30 (by omega)) (by omega)
          have e2 : upd (upd (upd (upd (upd (gA h 73) (12 + n) x1) (27 + n) x1) (22 + n) x2) (17 + n) (nI n)) 0 (nI (n + 1)) = addF (gA h 73) n x1 x2 := by
            funext i
            simp only [addF, upd_at]
            by_cases q1 : i = 0
            · simp [q1]
            · by_cases q2 : i = 17 + n
              · simp [q2]
              · by_cases q3 : i = 12 + n
                · rw [if_neg q1, if_neg q2, if_neg (by omega), if_neg (by omega), if_pos q3, if_neg q1, if_neg q2, if_pos q3]
                · rw [if_neg q1, if_neg q2, if_neg q1, if_neg q2, if_neg q3, if_neg q3]
          rw [e2] at e1
          exact e1
    · have hd2 := in_decf hw
      refine OpA_id (v := vI (-1)) H ?_ ?_
      · simp only [c_X10_person, e_X10_person_0, x_isSlant, hd1, bz_t, bz_f, bI_s, if_neg one0, x_within, hd2, e_X10_person_14, if_true]
      · simp only [c_X11_person, e_X11_person_0, k_isSteep, hd1, bz_t, bz_f, bI_s, if_neg one0, k_isIn, hd2, e_X11_person_14, if_true]
  · have hd1 := in_decf hv
    refine OpA_id (v := vI (-1)) H ?_ ?_
    · simp only [c_X10_person, e_X10_person_0, x_isSlant, hd1, bz_f, bI_s, if_true]
    · simp only [c_X11_person, e_X11_person_0, k_isSteep, hd1, bz_f, bI_s, if_true]
theorem op_is {n t k : Nat} (H : RA h (gA h 73) n t k) (x : Int32) : OpA X tx tu gu tl h n t k 116 [vP (some 0), vI x] 250 [vP (some 72), vI x] := by
  obtain ⟨hI, ⟨r0, r1, r2, r3, r4, r5, -⟩, hS, hT⟩ := id H
  by_cases hv : 0 ≤ x ∧ x ≤ 3
  · have hd := in_dec hv
    obtain ⟨j, hj, rfl⟩ := in_nI (m := 3) hv.1 hv.2 (by omega)
    refine OpA_id (v := vI (gA h 73 (7 + j))) H ?_ ?_
    · rw [c_X10_is, e_X10_is_0]
      obtain rfl | rfl | rfl | rfl : j = 0 ∨ j = 1 ∨ j = 2 ∨ j = 3 := by omega
      · rw [if_pos (by decide), r3]
      · rw [if_neg (by decide), if_pos (by decide), r4]
      · rw [if_neg (by decide), if_neg (by decide), if_pos (by decide), r2]
      · rw [if_neg (by decide), if_neg (by decide), if_neg (by decide), if_pos (by decide), r1]
    · simp only [c_X11_is, e_X11_is_0, k_isIn, hd, bz_t, bI_s, e_X11_is_6, if_neg one0]
      rw [litI 7, addI, inbI (by omega) (by omega)]
  · have hd := in_decf hv
    refine OpA_id (v := vI (-100)) H ?_ ?_
    · rw [c_X10_is, e_X10_is_0, if_neg (fun e => hv (by rw [e]; decide)), if_neg (fun e => hv (by rw [e]; decide)), if_neg (fun e => hv (by rw [e]; decide)), if_neg (fun e => hv (by rw [e]; decide))]
    · simp only [c_X11_is, e_X11_is_0, k_isIn, hd, bz_f, bI_s, e_X11_is_6, if_true]
theorem op_about {n t k : Nat} (H : RA h (gA h 73) n t k) (hl : gF h 38 0 = gF h 72 4) (x : Int32) : OpA X tx tu gu tl h n t k 145 [vP (some 0), vI x] 299 [vP (some 72), vI x] := by
  obtain ⟨hI, ⟨r0, -⟩, ⟨s0, -⟩, ⟨t0, t1, t2, t3, t4, t5, -⟩⟩ := id H
  by_cases hv : 0 ≤ x ∧ x ≤ 6
  · have hd := in_dec hv
    obtain ⟨j, hj, rfl⟩ := in_nI (m := 6) hv.1 hv.2 (by omega)
    refine OpA_id (v := vI (gA h 73 j)) H ?_ ?_
    · rw [c_X10_about, e_X10_about_0]
      obtain rfl | rfl | rfl | rfl | rfl | rfl | rfl : j = 0 ∨ j = 1 ∨ j = 2 ∨ j = 3 ∨ j = 4 ∨ j = 5 ∨ j = 6 := by omega
      · rw [if_pos (by decide), r0]
      · rw [if_neg (by decide), if_pos (by decide), t0]
      · rw [if_neg (by decide), if_neg (by decide), if_pos (by decide), t1]
      · rw [if_neg (by decide), if_neg (by decide), if_neg (by decide), if_pos (by decide), s0]
      · rw [if_neg (by decide), if_neg (by decide), if_neg (by decide), if_neg (by decide), if_pos (by decide), t3]
      · rw [if_neg (by decide), if_neg (by decide), if_neg (by decide), if_neg (by decide), if_neg (by decide), if_pos (by decide), t4]
      · rw [if_neg (by decide), if_neg (by decide), if_neg (by decide), if_neg (by decide), if_neg (by decide), if_neg (by decide), if_pos (by decide), t5]
    · simp only [c_X11_about, e_X11_about_0, k_isIn, hd, bz_t, bI_s, e_X11_about_7, if_neg one0]
      rw [inbI (by omega) (by omega)]
  · have hd := in_decf hv
    have hx : ∀ y : Int32, (0 ≤ y ∧ y ≤ 6) → ¬ x = y := fun y hy e => hv (e ▸ hy)
    by_cases h7 : x = 7
    · refine OpA_id (v := vI (gF h 72 4)) H ?_ ?_
      · rw [c_X10_about, e_X10_about_0, if_neg (hx _ (by decide)), if_neg (hx _ (by decide)), if_neg (hx _ (by decide)), if_neg (hx _ (by decide)), if_neg (hx _ (by decide)), if_neg (hx _ (by decide)), if_neg (hx _ (by decide)), if_pos h7, hl]
      · simp only [c_X11_about, e_X11_about_0, k_isIn, hd, bz_f, bI_s, e_X11_about_7, if_true, if_pos h7]
    · refine OpA_id (v := vI (-2)) H ?_ ?_
      · rw [c_X10_about, e_X10_about_0, if_neg (hx _ (by decide)), if_neg (hx _ (by decide)), if_neg (hx _ (by decide)), if_neg (hx _ (by decide)), if_neg (hx _ (by decide)), if_neg (hx _ (by decide)), if_neg (hx _ (by decide)), if_neg h7]
      · simp only [c_X11_about, e_X11_about_0, k_isIn, hd, bz_f, bI_s, e_X11_about_7, if_true, if_neg h7]
theorem op_seat {n t k : Nat} (H : RA h (gA h 73) n t k) (x1 x2 : Int32) : OpA X tx tu gu tl h n t k 114 [vP (some 0), vI x1, vI x2] 248 [vP (some 72), vI x1, vI x2] := by
  obtain ⟨a0, hn, x0⟩ := H.p
  rcases per_cs x1 (n := n) (by omega) with ⟨j, hj, rfl⟩ | hx
  · have z9 : True := trivial
    by_cases h0 : x2 = 0
    · refine OpA_id (v := vI (gA h 73 (17 + j))) H ?_ ?_
      · rw [c_X10_seat, e_X10_seat_0, x_has_t X _ tx tu gu tl h (Or.inl rfl) x0 hn hj, bI_s, e_X10_seat_8, if_neg one0, if_pos h0, inbI (by omega) (by omega), H.si (by omega)]
      · rw [c_X11_seat, e_X11_seat_0, k_per_t X _ tx tu gu tl h a0 hn hj, bI_s, e_X11_seat_5, if_neg one0, if_pos h0, litI 17, addI, inbI (by omega) (by omega)]
    by_cases h1 : x2 = 1
    · refine OpA_id (v := vI (gA h 73 (32 + j))) H ?_ ?_
      · rw [c_X10_seat, e_X10_seat_0, x_has_t X _ tx tu gu tl h (Or.inl rfl) x0 hn hj, bI_s, e_X10_seat_8, if_neg one0, if_neg h0, if_pos h1, inbI (by omega) (by omega), H.2.2.2.2.2.2.2.2.2.1 j (by omega)]
      · rw [c_X11_seat, e_X11_seat_0, k_per_t X _ tx tu gu tl h a0 hn hj, bI_s, e_X11_seat_5, if_neg one0, if_neg h0, if_pos h1, litI 32, addI, inbI (by omega) (by omega)]
    by_cases h2 : x2 = 2
    · obtain ⟨q, hq, eq⟩ := H.1.2.2.2.1.2.2.2.2.1
      have eq' : gA h 73 10 = nI q := eq
      have xq : gF h 1 1 = nI q := H.2.1.2.1.trans eq'
      have eb := bt_get q hq j (by omega)
      refine OpA_id (v := vI (bzB (Nat.testBit q j))) H ?_ ?_
      · rw [c_X10_seat, e_X10_seat_0, x_has_t X _ tx tu gu tl h (Or.inl rfl) x0 hn hj, bI_s, e_X10_seat_8, if_neg one0, if_neg h0, if_neg h1, if_pos h2, c_X5_isPropped, e_X5_isPropped_0 (hp := Or.inl rfl), xq, eb]
        cases Nat.testBit q j <;> rfl
      · rw [c_X11_seat, e_X11_seat_0, k_per_t X _ tx tu gu tl h a0 hn hj, bI_s, e_X11_seat_5, if_neg one0, if_neg h0, if_neg h1, if_pos h2, eq', eb]
    · refine OpA_id (v := vI (-100)) H ?_ ?_
      · rw [c_X10_seat, e_X10_seat_0, x_has_t X _ tx tu gu tl h (Or.inl rfl) x0 hn hj, bI_s, e_X10_seat_8, if_neg one0, if_neg h0, if_neg h1, if_neg h2]
      · rw [c_X11_seat, e_X11_seat_0, k_per_t X _ tx tu gu tl h a0 hn hj, bI_s, e_X11_seat_5, if_neg one0, if_neg h0, if_neg h1, if_neg h2]
  · refine OpA_id (v := vI (-100)) H ?_ ?_
    · simp only [c_X10_seat, e_X10_seat_0, x_has_f X _ tx tu gu tl h (Or.inl rfl) x0 hx, bI_s, e_X10_seat_8, if_true]
    · simp only [c_X11_seat, e_X11_seat_0, k_per_f X _ tx tu gu tl h a0 hn hx, bI_s, e_X11_seat_5, if_true]
end QU
