/-! TURNS of the reference: all distances; asked -/
section LF
variable (X : XS) (d : Nat) (tx tu gu : Option Nat) (tl : List SC)
theorem k_lf47 {n : Nat} (hn : n ≤ 5) : ∀ (c p : Nat) (h : DT) (q : Nat) (Q : Nat → Nat), p + c = 32 * fc n → p ≤ q → gA h 73 0 = nI n → BfQ h n q Q → BfP n q p 0 Q → ∃ h', smX is85 h h' ∧ FkOk h' n ∧ ∀ f, 12 * c + 1 ≤ f → m_X11_layFars X (d + 1) f 47 [(0, vP (some 72)), (1, vI (nI q)), (2, vI (nI p))] [] (SK tx tu gu tl, h) = some (none, (SK tx tu gu tl, h'))
  | c, p, h, q, Q, hc, hpq, h0, H, HP => by
    have hfc := (fc_ok n (by omega)).2.2
    have hq := H.le
    by_cases z : p = q
    · subst z
      refine ⟨h, smX.rf _ h, Bf_end hn H HP, fun f hf => ?_⟩
      obtain ⟨f, rfl⟩ : ∃ g, f = g + 1 := ⟨f - 1, by omega⟩
      rw [e_X11_layFars_47, if_pos (nI_le (by omega) (by omega))]
    · cases c with
      | zero => omega
      | succ c =>
        obtain ⟨h1, q1, Q1, a1, a2, a3, a4, a5⟩ := k_lf54 X d tx tu gu tl (p := p) hn n 0 h q Q (by omega) (by omega) h0 H HP
        obtain ⟨h', b1, b2, b3⟩ := k_lf47 hn c (p + 1) h1 q1 Q1 (by omega) (by omega) (by rw [a4.A (by unfold is85; omega), h0]) a2 ⟨fun i u hi hu hc => a3.1 i u hi hu (by omega), fun g k hk => by
          have := a3.2 a1 k hk
          have := a2.2.2.1 p (p + 1) (by omega) g
          omega⟩
        refine ⟨h', a4.tr b1, b2, fun f hf => ?_⟩
        obtain ⟨f, rfl⟩ : ∃ g, f = g + 2 * n + 1 + 1 := ⟨f - 2 * n - 2, by omega⟩
        rw [e_X11_layFars_47, if_neg (nI_ge (by omega) (by omega))]
        refine Eq.trans (a5 f) ?_
        rw [nI_1]
        exact b3 f (by omega)
theorem k_lf2 : ∀ (c i : Nat) (h : DT), i + c = 100000 → (∀ k, k < i → gA h 83 k = -1) → ∃ h', smX is85 h h' ∧ (∀ k, k < 100000 → gA h' 83 k = -1) ∧ ∀ f, m_X11_layFars X d (f + c + 1) 2 [(0, vP (some 72)), (1, vI (nI i))] [] (SK tx tu gu tl, h) = bI (cal X d 263 [vP (some 72), vI 1] (SK tx tu gu tl, h')) fun r1 H1 => m_X11_layFars X d f 30 [(0, vP (some 72))] [vI r1, vP (some 83)] H1
  | 0, i, h, hi, H => by
    refine ⟨h, smX.rf _ h, fun k hk => H k (by omega), fun f => ?_⟩
    rw [Nat.add_zero, e_X11_layFars_2, if_pos (show (100000 : Int32) ≤ nI i from nI_le (a := 100000) (by omega) (by omega))]
  | c + 1, i, h, hi, H => by
    obtain ⟨h', a1, a2, a3⟩ := k_lf2 c (i + 1) (sA h 83 i (-1)) (by omega) (fun k hk => by
      rw [gA_sA]
      by_cases z : k = i
      · rw [if_pos ⟨rfl, z⟩]
      · rw [if_neg (fun y => z y.2), H k (by omega)])
    refine ⟨h', smX.tr (smX_sA (Or.inl rfl)) a1, a2, fun f => ?_⟩
    rw [show f + (c + 1) + 1 = f + c + 1 + 1 by omega, e_X11_layFars_2, if_neg (show ¬ (100000 : Int32) ≤ nI i from nI_ge (b := 100000) (by omega) (by omega)), inbI (by omega) (by omega), nI_1]
    exact a3 f
theorem k_layFars {n : Nat} (hn : n ≤ 5) (h : DT) (h0 : gA h 73 0 = nI n) : ∃ h', cal X (d + 2) 264 [vP (some 72)] (SK tx tu gu tl, h) = some (none, (SK tx tu gu tl, h')) ∧ smX is85 h h' ∧ FkOk h' n := by
  have hfc := (fc_ok n (by omega)).2.2
  have hf0 := (fc_ok n (by omega)).2.1
  have l0 := ph_lt (n := n) (a := 0) hn (by omega)
  obtain ⟨h1, a1, a2, a3⟩ := k_lf2 X (d + 1) tx tu gu tl 100000 0 h (by omega) (fun k hk => by omega)
  have g1 : gA h1 73 0 = nI n := by rw [a1.A (by unfold is85; omega), h0]
  have g2 : gA (sA h1 83 (phT n 0) 0) 73 0 = nI n := by rw [gA_sA, if_neg (by omega), g1]
  generalize hh : sA (sA h1 83 (phT n 0) 0) 84 0 (nI (phT n 0)) = h2
  have g3 : gA h2 73 0 = nI n := by rw [← hh, gA_sA, if_neg (by omega), g2]
  have e84 : gA h2 84 0 = nI (phT n 0) := by rw [← hh, gA_sA, if_pos ⟨rfl, rfl⟩]
  have e83 : ∀ k, gA h2 83 k = if k = phT n 0 then 0 else gA h1 83 k := fun k => by
    rw [← hh, gA_sA, if_neg (by omega), gA_sA]
    by_cases z : k = phT n 0
    · rw [if_pos ⟨rfl, z⟩, if_pos z]
    · rw [if_neg (fun y => z y.2), if_neg z]
  have d0 := ds_0 n (by omega)
  have HB : BfQ h2 n 1 (fun _ => 0) := by
    refine ⟨fun i hi => ⟨show 0 < 32 * fc n by omega, by rw [show i = 0 by omega]; exact e84, show dsT n 0 ≠ 15 by rw [d0]; omega⟩, fun i j hi hj _ => by omega, fun i j _ _ => Nat.le_refl _, fun a ha => ?_, by omega, rfl⟩
    rw [e83]
    by_cases z : a = 0
    · rw [z, if_pos rfl, d0]
      exact Or.inl ⟨rfl, 0, by omega, rfl⟩
    · rw [if_neg (fun y => z (ph_in hn ha (by omega) y)), a2 _ (ph_lt hn ha)]
      exact Or.inr ⟨rfl, fun i _ y => z y.symm⟩
  obtain ⟨h3, b1, b2, b3⟩ := k_lf47 X d tx tu gu tl hn (32 * fc n) 0 h2 1 (fun _ => 0) (by omega) (by omega) g3 HB ⟨fun i u hi hu hc => by omega, fun _ k _ => Nat.le_succ _⟩
  have s2 : smX is85 h1 h2 := by rw [← hh]; exact smX.tr (smX_sA (Or.inl rfl)) (smX_sA (Or.inr (Or.inl rfl)))
  refine ⟨h3, ?_, (a1.tr s2).tr b1, b2⟩
  rw [c_X11_layFars, e_X11_layFars_0]
  refine Eq.trans (a3 899998) ?_
  rw [k_of1 X d tx tu gu tl hn h1 g1, bI_s, e_X11_layFars_30, inbI l0 (by omega), k_of1 X d tx tu gu tl hn _ g2, bI_s, e_X11_layFars_42, show (0 : Int32) = nI 0 from rfl, inbI (by omega) (by omega)]
  rw [show nI 0 = (0 : Int32) from rfl, hh]
  exact b3 899996 (by omega)
theorem fk_at {h : DT} {n a : Nat} (H : FkOk h n) (ha : a < 32 * fc n) (h15 : dsT n a ≠ 15) : gA h 83 (phT n a) = nI (dsT n a) := by rw [H a ha, if_neg h15]
theorem FkOk.sm {h h' : DT} {n : Nat} (H : FkOk h n) (s : smX (fun c => c = 85) h h') : FkOk h' n := fun a ha => by
  rw [s.A (by omega)]
  exact H a ha
theorem k_by54 {n a : Nat} (x1 x4 : Int32) (hn : n ≤ 5) (ha : a < 32 * fc n) (h0 : dsT n a ≠ 0) (h15 : dsT n a ≠ 15) : ∀ (c j : Nat) (h : DT), j + c + 1 = n → gA h 73 0 = nI n → FkOk h n → (∃ i, j ≤ i ∧ i < n ∧ dsT n (spT n a i) + 1 = dsT n a) → ∃ h' q, q < n ∧ lnT n a c j = q + 1 ∧ smX (fun c => c = 85) h h' ∧ ∀ F f, F + 2 * c + 2 ≤ f → ∃ f', F ≤ f' ∧ m_X11_byTurns X (d + 1) f 54 [(0, vP (some 72)), (1, vI x1), (2, vI (nI (phT n a))), (3, vI (nI (j + 1))), (4, vI x4)] [] (SK tx tu gu tl, h) = m_X11_byTurns X (d + 1) f' 46 [(0, vP (some 72)), (1, vI x1), (2, vI (nI (phT n (spT n a q)))), (3, vI (nI (q + 1))), (4, vI (x4 + 1))] [] (SK tx tu gu tl, h')
  | c, j, h, hj, g0, HF, hx => by
    have hjn : j < n := by omega
    have w1 := (tk_d (n := n) (by omega) ha).1
    have w4 := (tk_d (n := n) (by omega) ha).2.2.2
    obtain ⟨v1, v2, _, v4⟩ := w1 j hjn
    have v5 := v4 h15
    obtain ⟨h1, a1, a2⟩ := k_turned X d tx tu gu tl hn ha hjn h g0
    have g1 : gA h1 73 0 = nI n := by rw [a2.A (by omega), g0]
    obtain ⟨h2, b1, b2⟩ := k_turned X d tx tu gu tl hn ha hjn h1 g1
    have HF1 := HF.sm a2
    have l1 := ph_lt hn v2
    have l2 := ph_lt hn ha
    by_cases z : dsT n (spT n a j) + 1 = dsT n a
    · refine ⟨h2, j, hjn, ?_, a2.tr b2, fun F f hf => ?_⟩
      · cases c with
        | zero => rfl
        | succ c =>
          show (if dsT n (spT n a j) + 1 = dsT n a then j + 1 else lnT n a c (j + 1)) = _
          rw [if_pos z]
      · obtain ⟨f, rfl⟩ : ∃ g, f = g + 1 + 1 := ⟨f - 2, by omega⟩
        refine ⟨f, by omega, ?_⟩
        rw [e_X11_byTurns_54, a1, bI_s, e_X11_byTurns_64, inbI l1 (by omega), inbI l2 (by omega), fk_at HF1 v2 (by omega), fk_at HF1 ha h15, if_pos (by rw [nr_c (by omega) (by omega) (by omega)]; exact z), b1, bI_s]
    · cases c with
      | zero =>
        obtain ⟨i, i1, i2, i3⟩ := hx
        rw [show i = j by omega] at i3
        exact absurd i3 z
      | succ c =>
        obtain ⟨h', q, c1, c2, c3, c4⟩ := k_by54 x1 x4 hn ha h0 h15 c (j + 1) h1 (by omega) g1 HF1 (by
          obtain ⟨i, i1, i2, i3⟩ := hx
          by_cases y : i = j
          · rw [y] at i3
            exact absurd i3 z
          · exact ⟨i, by omega, i2, i3⟩)
        refine ⟨h', q, c1, ?_, a2.tr c3, fun F f hf => ?_⟩
        · show (if dsT n (spT n a j) + 1 = dsT n a then j + 1 else lnT n a c (j + 1)) = _
          rw [if_neg z, c2]
        · obtain ⟨f, rfl⟩ : ∃ g, f = g + 1 + 1 := ⟨f - 2, by omega⟩
          obtain ⟨f', f1, f2⟩ := c4 F f (by omega)
          refine ⟨f', f1, ?_⟩
          rw [e_X11_byTurns_54, a1, bI_s, e_X11_byTurns_64, inbI l1 (by omega), inbI l2 (by omega), fk_at HF1 v2 (by omega), fk_at HF1 ha h15, if_neg (by rw [nr_c (by omega) (by omega) (by omega)]; exact z), nI_1]
          exact f2
theorem k_by46 {n i : Nat} (h1n : 1 ≤ n) (hn : n ≤ 5) (hi : i < 100) : ∀ (c a k : Nat) (x3 : Int32) (h : DT), k + c = i → a < 32 * fc n → c < dsT n a → dsT n a ≠ 15 → gA h 73 0 = nI n → FkOk h n → ∃ h', smX (fun c => c = 85) h h' ∧ ∀ f, 20 * c + 20 ≤ f → m_X11_byTurns X (d + 1) f 46 [(0, vP (some 72)), (1, vI (nI i)), (2, vI (nI (phT n a))), (3, vI x3), (4, vI (nI k))] [] (SK tx tu gu tl, h) = some (some (vI (nI (wkT n c a))), (SK tx tu gu tl, h'))
  | c, a, k, x3, h, hk, ha, h0, h15, g0, HF => by
    have w1 := (tk_d (n := n) (by omega) ha).1
    have w4 := (tk_d (n := n) (by omega) ha).2.2.2
    obtain ⟨j, j1, j2⟩ := (tk_d (n := n) (by omega) ha).2.2.1 (by omega) h15
    obtain ⟨q0, p1, p2, p3, p4⟩ := wk_s hn ha (by omega) h15
    obtain ⟨h1, q, a1, a2, a3, a4⟩ := k_by54 X d tx tu gu tl (nI i) (nI k) hn ha (by omega) h15 (n - 1) 0 h (by omega) g0 HF ⟨j, by omega, j1, j2⟩
    have eq : q0 = q := by omega
    subst eq
    cases c with
    | zero =>
      refine ⟨h1, a3, fun f hf => ?_⟩
      obtain ⟨f, rfl⟩ : ∃ g, f = g + 1 := ⟨f - 1, by omega⟩
      obtain ⟨f', f1, f2⟩ := a4 1 f (by omega)
      obtain ⟨f', rfl⟩ : ∃ g, f' = g + 1 := ⟨f' - 1, by omega⟩
      rw [e_X11_byTurns_46, if_neg (by rw [ltI (by omega) (by omega)]; omega)]
      refine Eq.trans f2 ?_
      rw [nI_1, e_X11_byTurns_46, if_pos (by rw [ltI (by omega) (by omega)]; omega)]
      exact rI (by rw [← a2]; rfl)
    | succ c =>
      obtain ⟨h', b1, b2⟩ := k_by46 h1n hn hi c (spT n a q0) (k + 1) (nI (q0 + 1)) h1 (by omega) p4 (by omega) (by omega) (by rw [a3.A (by omega), g0]) (HF.sm a3)
      refine ⟨h', a3.tr b1, fun f hf => ?_⟩
      obtain ⟨f, rfl⟩ : ∃ g, f = g + 1 := ⟨f - 1, by omega⟩
      obtain ⟨f', f1, f2⟩ := a4 (20 * c + 20) f (by omega)
      rw [e_X11_byTurns_46, if_neg (by rw [ltI (by omega) (by omega)]; omega)]
      refine Eq.trans f2 ?_
      rw [nI_1]
      refine Eq.trans (b2 f' (by omega)) (rI ?_)
      show _ = nI (wkT n c (spT n a (lnT n a (n - 1) 0 - 1)))
      rw [p2, Nat.add_sub_cancel]
end LF
