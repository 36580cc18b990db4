/-! SEATS -/
theorem RA.xz {h h1 : DT} {n t k : Nat} (H : RA h (gA h 73) n t k) (s : XZ h h1) : RA h1 (gA h1 73) n t k := by
  rw [smA s (by omega)]
  exact ⟨H.1, XA.cg H.2 fun c _ _ => ⟨smF s (by omega), smA s (by omega)⟩⟩
section SO
variable (X : XS) (d : Nat) (tx tu gu : Option Nat) (tl : List SC)
theorem x_sl {n t k i : Nat} {A : Nat → Int32} {x1 x2 : Int32} (hx : x1 = 0 → x2 = nI i ∧ i < n) : ∀ (c r b f : Nat) (l : Int32) (h : DT), r + c = fc n → b < fc n → gA h 73 = A → RA h (gA h 73) n t k → 3 * c + 5 ≤ f → ∃ h', m_X10_seats X (d + 1) f 36 [(0, vP (some 0)), (1, vI x1), (2, vI x2), (3, vI (nI b)), (4, vI l), (5, vI (nI r))] [] (SK tx tu gu tl, h) = some (some (vI (if x1 = 0 then nI (rw5 n (bsI A n c r b l).1 i) else (bsI A n c r b l).2)), (SK tx tu gu tl, h')) ∧ XZ h h'
  | 0, r, b, f, l, h, hr, hb, hA, H, hf => by
    obtain ⟨f, rfl⟩ : ∃ g, f = g + 2 := ⟨f - 2, by omega⟩
    obtain ⟨a0, hn, x0⟩ := H.p
    obtain ⟨f1, f2, f3⟩ := fc_ok n (by omega)
    rw [e_X10_seats_36, x0, inbI (by omega) (by omega), f1, if_pos (nI_le (by omega) (by omega))]
    by_cases z : x1 = 0
    · obtain ⟨e2, hi⟩ := hx z
      obtain ⟨h1, k1, k2, k3⟩ := x_unrank X d tx tu gu tl hn hb h
      refine ⟨h1, ?_, k2.mo (fun c hc => by omega)⟩
      rw [if_pos z, if_pos z, k1, bV_s, e_X10_seats_121, e2, inbI (by omega) (by omega), k3 i hi]
      rfl
    · refine ⟨h, ?_, smX.rf _ h⟩
      rw [if_neg z, if_neg z]
      rfl
  | c + 1, r, b, f, l, h, hr, hb, hA, H, hf => by
    obtain ⟨f, rfl⟩ : ∃ g, f = g + 2 := ⟨f - 2, by omega⟩
    obtain ⟨a0, hn, x0⟩ := H.p
    obtain ⟨f1, f2, f3⟩ := fc_ok n (by omega)
    obtain ⟨h1, k1, k2, k3⟩ := x_unrank X d tx tu gu tl (n := n) (r := r) hn (by omega) h
    have s1 : XZ h h1 := k2.mo (fun c hc => by omega)
    have H1 := H.xz s1
    have hA1 : gA h1 73 = A := by rw [smA s1 (by omega)]; exact hA
    have kc := x_cost X d tx tu gu tl (L := rw5 n r) h1 H1 (uo_all n (by omega) r (by omega)).2 k3
    rw [hA1] at kc
    rw [e_X10_seats_36, x0, inbI (by omega) (by omega), f1, if_neg (nI_ge (by omega) (by omega)), k1, bV_s, e_X10_seats_68, kc, bI_s, nI_1]
    unfold bsI
    by_cases z : r = 0
    · obtain ⟨h2, j1, j2⟩ := x_sl hx c (r + 1) r f (cst A n r) h1 (by omega) (by omega) hA1 H1 (by omega)
      rw [if_pos (show nI r = 0 by rw [z]; rfl), if_pos z]
      exact ⟨h2, j1, s1.tr j2⟩
    · rw [if_neg (nI_ne0 (by omega) (by omega)), if_neg z]
      by_cases y : l ≤ cst A n r
      · obtain ⟨h2, j1, j2⟩ := x_sl hx c (r + 1) b f l h1 (by omega) hb hA1 H1 (by omega)
        rw [if_pos (show l ≤ cosI A (rw5 n r) n 0 0 from y), if_pos y]
        exact ⟨h2, j1, s1.tr j2⟩
      · obtain ⟨h2, j1, j2⟩ := x_sl hx c (r + 1) r f (cst A n r) h1 (by omega) (by omega) hA1 H1 (by omega)
        rw [if_neg (show ¬ l ≤ cosI A (rw5 n r) n 0 0 from y), if_neg y]
        exact ⟨h2, j1, s1.tr j2⟩
def S87 (h h' : DT) : Prop := smX (fun c => c = 86 ∨ c = 87) h h'
theorem k_cp {n : Nat} {R : Nat → Nat} (hn : n ≤ 5) (x1 x2 x4 : Int32) : ∀ (c j : Nat) (h : DT), j + c = n → RW h R n → (∀ i, i < j → gA h 87 i = nI (R i)) → ∃ h', (∀ f, m_X11_seats X d (f + c + 1) 86 [(0, vP (some 72)), (1, vI x1), (2, vI x2), (3, vI (nI n)), (4, vI x4), (7, vI (nI j))] [] (SK tx tu gu tl, h) = bI (cal X d 267 [vP (some 72), vI (nI n)] (SK tx tu gu tl, h')) fun r1 H1 => m_X11_seats X d f 61 [(0, vP (some 72)), (1, vI x1), (2, vI x2), (3, vI (nI n)), (4, vI x4), (5, vI r1)] [] H1) ∧ S87 h h' ∧ RW h' R n ∧ ∀ i, i < n → gA h' 87 i = nI (R i)
  | 0, j, h, hj, H, hd => by
    refine ⟨h, fun f => ?_, smX.rf _ h, H, fun i hi => hd i (by omega)⟩
    rw [e_X11_seats_86, if_pos (nI_le (by omega) (by omega))]
  | c + 1, j, h, hj, H, hd => by
    obtain ⟨h', k1, k2, k3, k4⟩ := k_cp hn x1 x2 x4 c (j + 1) (sA h 87 j (gA h 86 j)) (by omega) (fun i hi => by rw [gA_sA, if_neg (by omega)]; exact H i hi) (fun i hi => by
      rw [gA_sA]
      by_cases z : i = j
      · subst z
        rw [if_pos ⟨rfl, rfl⟩]
        exact (H i (by omega)).1
      · rw [if_neg (fun q => z q.2)]
        exact hd i (by omega))
    refine ⟨h', fun f => ?_, smX.tr (smX_sA (by omega)) k2, k3, k4⟩
    rw [show f + (c + 1) + 1 = f + c + 1 + 1 by omega, e_X11_seats_86, if_neg (nI_ge (by omega) (by omega)), inbI (by omega) (by omega), inbI (by omega) (by omega), nI_1]
    exact k1 f
def seV (A : Nat → Int32) (n i : Nat) (x1 : Int32) (q : Nat × Int32) : Int32 := if x1 = 0 then nI (rw5 n q.1 i) else q.2
theorem k_step {n i c r : Nat} {A : Nat → Int32} {x1 x2 : Int32} (hn : n ≤ 5) (hn1 : 1 ≤ n) (a0 : A 0 = nI n) (hC : ∃ C, C ≤ 1000 ∧ cst A n r = nI C) (hr : r < fc n) (NX : ∀ (F b : Nat) (l : Int32) (h : DT), 12 * c + 8 ≤ F → gA h 73 = A → RW h (rw5 n r) n → (∀ j, j < n → gA h 87 j = nI (rw5 n b j)) → ∃ h', (bI (cal X (d + 2) 267 [vP (some 72), vI (nI n)] (SK tx tu gu tl, h)) fun r1 H1 => m_X11_seats X (d + 2) F 61 [(0, vP (some 72)), (1, vI x1), (2, vI x2), (3, vI (nI n)), (4, vI l), (5, vI r1)] [] H1) = some (some (vI (seV A n i x1 (bsI A n c (r + 1) b l))), (SK tx tu gu tl, h')) ∧ S87 h h') (b f : Nat) (l : Int32) (h : DT) (hA : gA h 73 = A) (H : RW h (rw5 n r) n) (hb : r ≠ 0 → ∀ j, j < n → gA h 87 j = nI (rw5 n b j)) (hl : r = 0 → l = 1000000) (hf : 12 * c + 20 ≤ f) : ∃ h', m_X11_seats X (d + 2) f 61 [(0, vP (some 72)), (1, vI x1), (2, vI x2), (3, vI (nI n)), (4, vI l), (5, vI 1)] [] (SK tx tu gu tl, h) = some (some (vI (seV A n i x1 (bsI A n (c + 1) r b l))), (SK tx tu gu tl, h')) ∧ S87 h h' := by
  obtain ⟨f, rfl⟩ : ∃ g, f = g + n + 1 + 2 := ⟨f - n - 3, by omega⟩
  obtain ⟨C, c1, c2⟩ := hC
  have SET : ∃ h', m_X11_seats X (d + 2) (f + n + 1) 86 [(0, vP (some 72)), (1, vI x1), (2, vI x2), (3, vI (nI n)), (4, vI (cst A n r)), (7, vI 0)] [] (SK tx tu gu tl, h) = some (some (vI (seV A n i x1 (bsI A n c (r + 1) r (cst A n r)))), (SK tx tu gu tl, h')) ∧ S87 h h' := by
    obtain ⟨h1, k1, k2, k3, k4⟩ := k_cp X (d + 2) tx tu gu tl (R := rw5 n r) hn x1 x2 (cst A n r) n 0 h (by omega) H (fun i hi => by omega)
    obtain ⟨h2, j1, j2⟩ := NX f r (cst A n r) h1 (by omega) (by rw [smA k2 (by omega)]; exact hA) k3 k4
    exact ⟨h2, (k1 f).trans j1, k2.tr j2⟩
  rw [e_X11_seats_61, if_neg one0, k_rsum X d tx tu gu tl (L := rw5 n r) hn h hA a0 (uo_all n (by omega) r hr).2 H, bI_s, e_X11_seats_70, show cosI A (rw5 n r) n 0 0 = cst A n r from rfl]
  unfold bsI
  by_cases z : r = 0
  · rw [if_pos z, hl z, if_neg (show ¬ (1000000 : Int32) ≤ cst A n r by rw [c2]; exact fun q => absurd ((nI_leI (a := 1000000) (b := C) (by omega) (by omega)).mp q) (by omega))]
    exact SET
  · rw [if_neg z]
    by_cases y : l ≤ cst A n r
    · rw [if_pos y, if_pos y]
      exact NX (f + n + 1) b l h (by omega) hA H (hb z)
    · rw [if_neg y, if_neg y]
      exact SET
theorem k_sl {n i : Nat} {A : Nat → Int32} {x1 x2 : Int32} (hn : n ≤ 5) (hn1 : 1 ≤ n) (a0 : A 0 = nI n) (hC : ∀ r, r < fc n → ∃ C, C ≤ 1000 ∧ cst A n r = nI C) (hx : x1 = 0 → x2 = nI i ∧ i < n) : ∀ (c r b f : Nat) (l : Int32) (h : DT), r + c + 1 = fc n → gA h 73 = A → RW h (rw5 n r) n → (r ≠ 0 → ∀ j, j < n → gA h 87 j = nI (rw5 n b j)) → (r = 0 → l = 1000000) → 12 * c + 20 ≤ f → ∃ h', m_X11_seats X (d + 2) f 61 [(0, vP (some 72)), (1, vI x1), (2, vI x2), (3, vI (nI n)), (4, vI l), (5, vI 1)] [] (SK tx tu gu tl, h) = some (some (vI (seV A n i x1 (bsI A n (c + 1) r b l))), (SK tx tu gu tl, h')) ∧ S87 h h' := by
  intro c
  induction c with
  | zero =>
    intro r b f l h hr hA H hb hl hf
    have hnx := nx_ok n (by omega) r (by omega)
    refine k_step X d tx tu gu tl hn hn1 a0 (hC r (by omega)) (by omega) ?_ b f l h hA H hb hl hf
    intro F b l h hF hA H hb
    obtain ⟨F, rfl⟩ : ∃ g, F = g + 1 := ⟨F - 1, by omega⟩
    obtain ⟨h1, k1, k2, k3⟩ := k_next X d tx tu gu tl hn hn1 h H
    unfold nxB at hnx
    cases hq : nxR n (rw5 n r) with
    | none =>
      rw [hq] at k1
      refine ⟨h1, ?_, k2.mo (fun c hc => Or.inl hc)⟩
      rw [k1, show (none : Option (Nat → Nat)).isSome = false from rfl, bz_f, bI_s, e_X11_seats_61, if_pos rfl]
      show _ = some (some (vI (if x1 = 0 then nI (rw5 n b i) else l)), (SK tx tu gu tl, h1))
      by_cases z : x1 = 0
      · obtain ⟨e2, hi⟩ := hx z
        rw [if_pos z, if_pos z, e2, inbI (by omega) (by omega), smA k2 (by omega), hb i hi]
      · rw [if_neg z, if_neg z]
    | some R =>
      rw [hq] at hnx
      simp only [Bool.and_eq_true, decide_eq_true_eq] at hnx
      omega
  | succ c ih =>
    intro r b f l h hr hA H hb hl hf
    have hnx := nx_ok n (by omega) r (by omega)
    refine k_step X d tx tu gu tl hn hn1 a0 (hC r (by omega)) (by omega) ?_ b f l h hA H hb hl hf
    intro F b l h hF hA H hb
    obtain ⟨h1, k1, k2, k3⟩ := k_next X d tx tu gu tl hn hn1 h H
    unfold nxB at hnx
    cases hq : nxR n (rw5 n r) with
    | none =>
      rw [hq] at hnx
      simp only [decide_eq_true_eq] at hnx
      omega
    | some R =>
      rw [hq] at hnx k1
      simp only [Bool.and_eq_true, decide_eq_true_eq] at hnx
      have hR := k3 R hq
      obtain ⟨h2, j1, j2⟩ := ih (r + 1) b F l h1 (by omega) (by rw [smA k2 (by omega)]; exact hA) (fun j hj => by rw [← hnx.2 j hj]; exact hR j hj) (fun _ j hj => by rw [smA k2 (by omega)]; exact hb j hj) (fun z => by omega) (by omega)
      refine ⟨h2, ?_, (k2.mo (fun c hc => Or.inl hc)).tr j2⟩
      rw [k1, show (some R).isSome = true from rfl, bz_t, bI_s]
      exact j1
theorem k_s32 {n : Nat} (hn : n ≤ 5) (x1 x2 : Int32) : ∀ (c j : Nat) (h : DT), j + c = n → (∀ i, i < j → gA h 86 i = nI i) → ∃ h', (∀ f, m_X11_seats X d (f + c + 1) 32 [(0, vP (some 72)), (1, vI x1), (2, vI x2), (3, vI (nI n)), (4, vI (nI j))] [] (SK tx tu gu tl, h) = m_X11_seats X d f 61 [(0, vP (some 72)), (1, vI x1), (2, vI x2), (3, vI (nI n)), (4, vI 1000000), (5, vI 1)] [] (SK tx tu gu tl, h')) ∧ S87 h h' ∧ ∀ i, i < n → gA h' 86 i = nI i
  | 0, j, h, hj, hd => by
    refine ⟨h, fun f => ?_, smX.rf _ h, fun i hi => hd i (by omega)⟩
    rw [e_X11_seats_32, if_pos (nI_le (by omega) (by omega))]
  | c + 1, j, h, hj, hd => by
    obtain ⟨h', k1, k2, k3⟩ := k_s32 hn x1 x2 c (j + 1) (sA h 86 j (nI j)) (by omega) (fun i hi => by
      rw [gA_sA]
      by_cases z : i = j
      · subst z
        rw [if_pos ⟨rfl, rfl⟩]
      · rw [if_neg (fun q => z q.2)]
        exact hd i (by omega))
    refine ⟨h', fun f => ?_, smX.tr (smX_sA (by omega)) k2, k3⟩
    rw [show f + (c + 1) + 1 = f + c + 1 + 1 by omega, e_X11_seats_32, if_neg (nI_ge (by omega) (by omega)), inbI (by omega) (by omega), nI_1]
    exact k1 f
theorem op_seats {n t k : Nat} (h : DT) (H : RA h (gA h 73) n t k) (x1 x2 : Int32) : OpA X tx tu gu tl h n t k 122 [vP (some 0), vI x1, vI x2] 269 [vP (some 72), vI x1, vI x2] := by
  obtain ⟨a0, hn, x0⟩ := H.p
  by_cases hn0 : n = 0
  · subst hn0
    refine OpA_id (v := vI (-2)) H ?_ ?_
    · rw [c_X10_seats, e_X10_seats_0, x0, if_pos (show nI 0 = 0 from rfl)]
    · rw [c_X11_seats, e_X11_seats_0, a0, if_pos (show nI 0 = 0 from rfl)]
  have core : ∀ i, (x1 = 0 → x2 = nI i ∧ i < n) → (x1 = 0 → (decide (0 ≤ x2) && decide (x2 ≤ nI n - 1)) = true) → OpA X tx tu gu tl h n t k 122 [vP (some 0), vI x1, vI x2] 269 [vP (some 72), vI x1, vI x2] := by
    intro i hx hd
    have f2 := (fc_ok n (by omega)).2.1
    have f3 := (fc_ok n (by omega)).2.2
    have hC : ∀ r, r < fc n → ∃ C, C ≤ 1000 ∧ cst (gA h 73) n r = nI C := fun r hr => by
      obtain ⟨C, q1, q2⟩ := cos_b (L := rw5 n r) H.1.1 (fun i hi => H.s9 hi) (uo_all n (by omega) r hr).2 n 0 0 (by omega) (by omega)
      exact ⟨C, by omega, q2⟩
    obtain ⟨h1, a1, a2⟩ := x_sl X 98 tx tu gu tl (t := t) (k := k) (A := gA h 73) hx (fc n) 0 0 999999 0 h (by omega) f2 rfl H (by omega)
    have e73 : gA h1 73 = gA h 73 := smA a2 (by omega)
    obtain ⟨h2, b1, b2, b3⟩ := k_s32 X 99 tx tu gu tl hn x1 x2 n 0 h1 (by omega) (fun i hi => by omega)
    obtain ⟨h3, c1, c2⟩ := k_sl X 97 tx tu gu tl (A := gA h 73) hn (by omega) a0 hC hx (fc n - 1) 0 0 (999999 - n - 1) 1000000 h2 (by omega) (by rw [smA b2 (by omega)]; exact e73) (fun j hj => by rw [rw_0 n (by omega) j hj]; exact ⟨b3 j hj, by omega⟩) (fun z => absurd rfl z) (fun _ => rfl) (by omega)
    rw [show fc n - 1 + 1 = fc n by omega] at c1
    have hbs : bsI (gA h 73) n (fc n) 0 0 1000000 = bsI (gA h 73) n (fc n) 0 0 0 := by
      obtain ⟨u, hu⟩ : ∃ u, fc n = u + 1 := ⟨fc n - 1, by omega⟩
      rw [hu]
      unfold bsI
      rw [if_pos rfl, if_pos rfl]
    rw [hbs] at c1
    refine OpA_z (v := vI (seV (gA h 73) n i x1 (bsI (gA h 73) n (fc n) 0 0 0))) H ?_ a2 ?_ ((b2.tr c2).mo (fun c hc => by omega))
    · rw [c_X10_seats, e_X10_seats_0, x0, if_neg (nI_ne0 (by omega) (by omega))]
      by_cases z : x1 = 0
      · obtain ⟨e2, hi⟩ := hx z
        rw [if_pos z, e2, x_has_t (hp := Or.inl rfl) (ha := x0) (hn := hn) (hj := hi), bI_s, if_neg one0, ← e2]
        exact a1
      · rw [if_neg z]
        exact a1
    · have g := (b1 (999999 - n - 1)).trans c1
      rw [show 999999 - n - 1 + n + 1 = 999999 by omega] at g
      rw [c_X11_seats, e_X11_seats_0, e73, a0, if_neg (nI_ne0 (by omega) (by omega))]
      by_cases z : x1 = 0
      · rw [if_pos z, k_isIn, hd z, bz_t, bI_s, if_neg one0]
        exact g
      · rw [if_neg z]
        exact g
  by_cases z : x1 = 0
  · rcases per_cs x2 (n := n) (by omega) with ⟨i, hi, rfl⟩ | hx
    · exact core i (fun _ => ⟨rfl, hi⟩) (fun _ => per_t hn hi)
    · refine OpA_id (v := vI (-2)) H ?_ ?_
      · rw [c_X10_seats, e_X10_seats_0, x0, if_neg (nI_ne0 (by omega) (by omega)), if_pos z, x_has_f (hp := Or.inl rfl) (ha := x0) (hx := hx), bI_s, if_pos rfl]
      · rw [c_X11_seats, e_X11_seats_0, a0, if_neg (nI_ne0 (by omega) (by omega)), if_pos z, k_isIn, per_f hn hx, bz_f, bI_s, if_pos rfl]
  · exact core 0 (fun q => absurd q z) (fun q => absurd q z)
end SO
