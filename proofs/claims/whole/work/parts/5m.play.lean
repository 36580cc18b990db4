/-! PLAYED -/
def plI (TT : Nat → TXT) (cl : List (Nat × Nat × Nat)) : Nat → Nat → (Nat → Int32) → Nat → Nat → Int32 × (Nat → Int32) × Nat × Nat
  | 0, _, A, n, k => (-1, A, n, k)
  | c + 1, i, A, n, k => bif (plS TT (cl.getD i (9, 0, 0)) A n k).1 then plI TT cl c (i + 1) (plS TT (cl.getD i (9, 0, 0)) A n k).2.1 (plS TT (cl.getD i (9, 0, 0)) A n k).2.2.1 (plS TT (cl.getD i (9, 0, 0)) A n k).2.2.2 else (nI i, (plS TT (cl.getD i (9, 0, 0)) A n k).2.1, (plS TT (cl.getD i (9, 0, 0)) A n k).2.2.1, (plS TT (cl.getD i (9, 0, 0)) A n k).2.2.2)
theorem plI_I {TT : Nat → TXT} {cl : List (Nat × Nat × Nat)} {t : Nat} : ∀ (c i : Nat) (A : Nat → Int32) (n k : Nat), Inv A n t k → Inv (plI TT cl c i A n k).2.1 (plI TT cl c i A n k).2.2.1 t (plI TT cl c i A n k).2.2.2
  | 0, i, A, n, k, H => H
  | c + 1, i, A, n, k, H => by
    have h1 := plS_I (TT := TT) (q := cl.getD i (9, 0, 0)) H
    unfold plI
    cases (plS TT (cl.getD i (9, 0, 0)) A n k).1 with
    | true => exact plI_I c (i + 1) _ _ _ h1
    | false => exact h1
section PY
variable (X : XS) (d : Nat) (tx tu gu : Option Nat) (tl : List SC)
theorem x_pll {t j : Nat} {TT : Nat → TXT} (hj : j < t) : ∀ (c i f n k : Nat) (h : DT) (A : Nat → Int32), Inv A n t k → XA h A k → (∀ j, j < t → TxR h j (TT j)) → NmA h 41 → i + c = (TT j).1.length → c + 1 ≤ f → ∃ h1, m_X10_played X (d + 7) f 20 [(0, vP (some 0)), (2, vP (some (txc j))), (3, vI (nI i))] [] (SK tx tu gu tl, h) = some (some (vI ((plI TT (TT j).1 c i A n k).1)), (SK tx tu gu tl, h1)) ∧ smX isXl h h1 ∧ XA h1 (plI TT (TT j).1 c i A n k).2.1 (plI TT (TT j).1 c i A n k).2.2.2 ∧ NmA h1 41
  | 0, i, f, n, k, h, A, HI, HX, HT, hN, hi, hf => by
    obtain ⟨f, rfl⟩ : ∃ f', f = f' + 1 := ⟨f - 1, by omega⟩
    have ht4 := HI.t.2.1
    have T := HT j hj
    have hl := T.1
    refine ⟨h, ?_, smX.rf _ h, HX, hN⟩
    rw [e_X10_played_20_2 (ht := txc_tx (by omega)), T.2.2.1, if_pos (nI_le (by omega) (by omega))]
    rfl
  | c + 1, i, f, n, k, h, A, HI, HX, HT, hN, hi, hf => by
    obtain ⟨f, rfl⟩ : ∃ f', f = f' + 1 := ⟨f - 1, by omega⟩
    have ht4 := HI.t.2.1
    have T := HT j hj
    have hl := T.1
    have C := T.2.2.2.1 i (by omega)
    have hI1 := plS_I (TT := TT) (q := (TT j).1.getD i (9, 0, 0)) HI
    rcases hq : (TT j).1.getD i (9, 0, 0) with ⟨s, v, w⟩
    rw [hq] at C hI1
    obtain ⟨c1, c2, c3, c4, c5⟩ := C
    have hv : v ≤ 60 ∨ s < 2 := by
      rcases Nat.lt_or_ge s 2 with g | g
      · exact Or.inr g
      · exact Or.inl (c4 g).2.2
    have pf : ∃ h1, cal X (d + 7) 153 [vP (some 0), vI (nI (s + 1)), vI (gA h (txc j + 2) i), vI (gA h (txc j + 3) i)] (SK tx tu gu tl, h) = some (some (vI (bzB (plS TT (s, v, w) A n k).1)), (SK tx tu gu tl, h1)) ∧ smX isXl h h1 ∧ XA h1 (plS TT (s, v, w) A n k).2.1 (plS TT (s, v, w) A n k).2.2.2 ∧ NmA h1 41 := by
      rcases hv with hv | hv
      · exact x_perform X d tx tu gu tl h HI HX HT hN c1 hv (gA h (txc j + 2) i) (fun g => (c4 g).2.1) (fun g g' => (c5 g g').2.1)
      · have e0 : plS TT (s, v, w) A n k = plS TT (s, 0, w) A n k := by
          unfold plS
          rw [if_neg (show ¬ s = 2 by omega), if_neg (show ¬ s = 3 by omega), if_neg (show ¬ s = 4 by omega), if_neg (show ¬ s = 5 by omega), if_neg (show ¬ s = 6 by omega), if_neg (show ¬ s = 7 by omega), if_neg (show ¬ s = 8 by omega), if_neg (show ¬ s = 2 by omega), if_neg (show ¬ s = 3 by omega), if_neg (show ¬ s = 4 by omega), if_neg (show ¬ s = 5 by omega), if_neg (show ¬ s = 6 by omega), if_neg (show ¬ s = 7 by omega), if_neg (show ¬ s = 8 by omega)]
        rw [e0]
        exact x_perform X d tx tu gu tl h HI HX HT hN c1 (v := 0) (w := w) (by omega) (gA h (txc j + 2) i) (fun g => by omega) (fun g g' => by omega)
    obtain ⟨h1, g1, g2, g3, g4⟩ := pf
    have eP : plI TT (TT j).1 (c + 1) i A n k = bif (plS TT (s, v, w) A n k).1 then plI TT (TT j).1 c (i + 1) (plS TT (s, v, w) A n k).2.1 (plS TT (s, v, w) A n k).2.2.1 (plS TT (s, v, w) A n k).2.2.2 else (nI i, (plS TT (s, v, w) A n k).2.1, (plS TT (s, v, w) A n k).2.2.1, (plS TT (s, v, w) A n k).2.2.2) := by
      rw [← hq]; rfl
    rw [eP, e_X10_played_20_2 (ht := txc_tx (by omega)), T.2.2.1, if_neg (nI_ge (by omega) (by omega)), inbI (by omega) (by omega), inbI (by omega) (by omega), inbI (by omega) (by omega), show gA h (txc j + 1) i = nI (s + 1) from c3, g1, bI_s]
    cases hb : (plS TT (s, v, w) A n k).1 with
    | false =>
      refine ⟨h1, ?_, g2, g3, g4⟩
      rw [bz_f, if_pos rfl]
      rfl
    | true =>
      obtain ⟨h2, k1, k2, k3, k4⟩ := x_pll hj c (i + 1) f _ _ h1 _ hI1 g3 (fun j hj => (HT j hj).cg (by omega) (xl_T g2)) g4 (by omega) (by omega)
      refine ⟨h2, ?_, g2.tr k2, k3, k4⟩
      rw [bz_t, if_neg one0, nI_1, k1]
      rfl
theorem k_pll {t j : Nat} {TT : Nat → TXT} (hj : j < t) : ∀ (c i f n k : Nat) (h : DT), Inv (gA h 73) n t k → (∀ j, j < t → TxR h j (TT j)) → NmA h 78 → gF h 72 23 = 1 → i + c = (TT j).1.length → c + 1 ≤ f → ∃ h', m_X11_played X (d + 11) f 21 [(0, vP (some 72)), (1, vI (nI j)), (2, vI (nI i))] [] (SK tx tu gu tl, h) = some (some (vI ((plI TT (TT j).1 c i (gA h 73) n k).1)), (SK tx tu gu tl, h')) ∧ mSame h h' ∧ gA h' 73 = (plI TT (TT j).1 c i (gA h 73) n k).2.1 ∧ NmA h' 78
  | 0, i, f, n, k, h, HI, HT, hN, hw, hi, hf => by
    obtain ⟨f, rfl⟩ : ∃ f', f = f' + 1 := ⟨f - 1, by omega⟩
    have ht4 := HI.t.2.1
    have T := HT j hj
    have hl := T.1
    refine ⟨h, ?_, mSame.rf h, rfl, hN⟩
    rw [e_X11_played_21, litI 681, mulI, inbI (by omega) (by omega), T.2.1, if_pos (nI_le (by omega) (by omega))]
    rfl
  | c + 1, i, f, n, k, h, HI, HT, hN, hw, hi, hf => by
    obtain ⟨f, rfl⟩ : ∃ f', f = f' + 1 := ⟨f - 1, by omega⟩
    have ht4 := HI.t.2.1
    have T := HT j hj
    have hl := T.1
    have C := T.2.2.2.1 i (by omega)
    have hI1 := plS_I (TT := TT) (q := (TT j).1.getD i (9, 0, 0)) HI
    rcases hq : (TT j).1.getD i (9, 0, 0) with ⟨s, v, w⟩
    rw [hq] at C hI1
    obtain ⟨c1, c2, c3, c4, c5⟩ := C
    have hv : v ≤ 60 ∨ s < 2 := by
      rcases Nat.lt_or_ge s 2 with g | g
      · exact Or.inr g
      · exact Or.inl (c4 g).2.2
    have pf : ∃ h', cal X (d + 11) 243 [vP (some 72), vI (nI (681 * j + 1 + 3 * i))] (SK tx tu gu tl, h) = some (some (vI (bzB (plS TT (s, v, w) (gA h 73) n k).1)), (SK tx tu gu tl, h')) ∧ mSame h h' ∧ gA h' 73 = (plS TT (s, v, w) (gA h 73) n k).2.1 ∧ NmA h' 78 := by
      rcases hv with hv | hv
      · exact k_played1 X d tx tu gu tl h HI HT hN hw c1 hv (x := 681 * j + 1 + 3 * i) (by omega) c2 (fun g => (c4 g).1) (fun g g' => (c5 g g').1)
      · have e0 : plS TT (s, v, w) (gA h 73) n k = plS TT (s, 0, w) (gA h 73) n k := by
          unfold plS
          rw [if_neg (show ¬ s = 2 by omega), if_neg (show ¬ s = 3 by omega), if_neg (show ¬ s = 4 by omega), if_neg (show ¬ s = 5 by omega), if_neg (show ¬ s = 6 by omega), if_neg (show ¬ s = 7 by omega), if_neg (show ¬ s = 8 by omega), if_neg (show ¬ s = 2 by omega), if_neg (show ¬ s = 3 by omega), if_neg (show ¬ s = 4 by omega), if_neg (show ¬ s = 5 by omega), if_neg (show ¬ s = 6 by omega), if_neg (show ¬ s = 7 by omega), if_neg (show ¬ s = 8 by omega)]
        rw [e0]
        exact k_played1 X d tx tu gu tl h HI HT hN hw c1 (v := 0) (w := w) (by omega) (x := 681 * j + 1 + 3 * i) (by omega) c2 (fun g => by omega) (fun g g' => by omega)
    obtain ⟨h1, g1, g2, g3, g4⟩ := pf
    have eP : plI TT (TT j).1 (c + 1) i (gA h 73) n k = bif (plS TT (s, v, w) (gA h 73) n k).1 then plI TT (TT j).1 c (i + 1) (plS TT (s, v, w) (gA h 73) n k).2.1 (plS TT (s, v, w) (gA h 73) n k).2.2.1 (plS TT (s, v, w) (gA h 73) n k).2.2.2 else (nI i, (plS TT (s, v, w) (gA h 73) n k).2.1, (plS TT (s, v, w) (gA h 73) n k).2.2.1, (plS TT (s, v, w) (gA h 73) n k).2.2.2) := by
      rw [← hq]; rfl
    rw [eP, e_X11_played_21, litI 681, mulI, inbI (by omega) (by omega), T.2.1, if_neg (nI_ge (by omega) (by omega)), nI_1, litI 3, mulI, addI, g1, bI_s]
    cases hb : (plS TT (s, v, w) (gA h 73) n k).1 with
    | false =>
      refine ⟨h1, ?_, g2, g3, g4⟩
      rw [bz_f, if_pos rfl]
      rfl
    | true =>
      obtain ⟨h2, k1, k2, k3, k4⟩ := k_pll hj c (i + 1) f (plS TT (s, v, w) (gA h 73) n k).2.2.1 (plS TT (s, v, w) (gA h 73) n k).2.2.2 h1 (by rw [g3]; exact hI1) (fun j hj => (HT j hj).cg (by omega) g2.st) g4 (by rw [g2.2.2.2.2.2.2.2]; exact hw) (by omega) (by omega)
      rw [g3] at k1 k3
      refine ⟨h2, ?_, g2.tr k2, k3, k4⟩
      rw [bz_t, if_neg one0, nI_1, k1]
      rfl
theorem op_played {n t k : Nat} {TT : Nat → TXT} (h : DT) (H : RA h (gA h 73) n t k) (HL : LR h t TT) (x : Int32) : OpA X tx tu gu tl h n t k 110 [vP (some 0), vI x] 244 [vP (some 72), vI x] := by
  obtain ⟨hI, hX⟩ := id H
  obtain ⟨hT, hN1, hN2, hw⟩ := HL
  have ht4 := hI.t.2.1
  have xt : gF h 9 0 = nI t := hX.2.2.1.trans hI.t.1
  rcases per_cs x (n := t) (by omega) with ⟨j, hj, rfl⟩ | hx
  · have hd := per_t (n := t) (j := j) (by omega) hj
    have hl := (hT j hj).1
    have eT : [some 52, some 57, some 62, some 67].getD j none = some (txc j) := by
      obtain rfl | rfl | rfl | rfl : j = 0 ∨ j = 1 ∨ j = 2 ∨ j = 3 := by omega
      all_goals rfl
    obtain ⟨h1, a1, a2, a3, a4⟩ := x_pll X 92 tx tu gu tl hj (TT j).1.length 0 999998 n k h (gA h 73) hI hX hT hN1 (by omega) (by omega)
    obtain ⟨h2, b1, b2, b3, b4⟩ := k_pll X 88 tx tu gu tl (t := t) (TT := TT) hj (TT j).1.length 0 999999 n k h1 (by rw [sl73 a2]; exact hI) (fun j hj => (hT j hj).cg (by omega) (xl_T a2)) (sl78 a2 hN2) (by rw [sl72 a2]; exact hw) (by omega) (by omega)
    rw [sl73 a2] at b1 b3
    refine ⟨vI (plI TT (TT j).1 (TT j).1.length 0 (gA h 73) n k).1, h1, h2, (plI TT (TT j).1 (TT j).1.length 0 (gA h 73) n k).2.2.1, (plI TT (TT j).1 (TT j).1.length 0 (gA h 73) n k).2.2.2, ?_, ?_, a2, b2, ?_, fun _ => a4, fun _ => b4⟩
    · rw [c_X10_played, e_X10_played_0, x_isText, xt, hd, bz_t, bI_s, e_X10_played_5, if_neg one0, inbI (by omega) (by omega), eT]
      exact a1
    · rw [c_X11_played, e_X11_played_0, sl73 a2, hI.t.1, k_isIn, hd, bz_t, bI_s, if_neg one0]
      exact b1
    · rw [b3]
      exact ⟨plI_I _ _ _ _ _ hI, a3⟩
  · have hd := per_f (n := t) (by omega) hx
    refine OpA_id (v := vI (-2)) H ?_ ?_
    · rw [c_X10_played, e_X10_played_0, x_isText, xt, hd, bz_f, bI_s, e_X10_played_5, if_pos rfl]
    · rw [c_X11_played, e_X11_played_0, hI.t.1, k_isIn, hd, bz_f, bI_s, if_pos rfl]
end PY
