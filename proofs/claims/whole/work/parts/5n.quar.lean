/-! QUARREL -/
def KZ (h h' : DT) : Prop := smX (fun c => 86 ≤ c ∧ c ≤ 94) h h'
theorem KZ.m {h h' : DT} (H : KZ h h') : mSame h h' := ⟨H.mo (fun c hc => by omega), smA H (by omega), smA H (by omega), smA H (by omega), congrFun (smF H (by omega)) 4, congrFun (smF H (by omega)) 5, congrFun (smF H (by omega)) 6, congrFun (smF H (by omega)) 23⟩
theorem KZ.r {h h' : DT} (H : KZ h h') : gA h' 73 = gA h 73 := smA H (by omega)
def XZ (h h' : DT) : Prop := smX (fun c => 43 ≤ c ∧ c ≤ 51) h h'
theorem XZ.a {h h' : DT} (H : XZ h h') : smX isXl h h' := H.mo (fun c hc => by unfold isXl isXa; omega)
theorem OpA_z {X : XS} {tx tu gu : Option Nat} {tl : List SC} {h h1 h2 : DT} {n t k yx : Nat} {ax : List AV} {ym : Nat} {am : List AV} {v : AV} (H : RA h (gA h 73) n t k) (e1 : cal X 100 yx ax (SK tx tu gu tl, h) = some (some v, (SK tx tu gu tl, h1))) (s1 : XZ h h1) (e2 : cal X 100 ym am (SK tx tu gu tl, h1) = some (some v, (SK tx tu gu tl, h2))) (s2 : KZ h1 h2) : OpA X tx tu gu tl h n t k yx ax ym am :=
  ⟨v, h1, h2, n, k, e1, e2, s1.a, s2.m, by
    rw [s2.r, smA s1 (by omega)]
    exact ⟨H.1, XA.cg H.2 fun c _ _ => ⟨smF s1 (by omega), smA s1 (by omega)⟩⟩, fun q k hk => by rw [smA s1 (by omega)]; exact q k hk, fun q k hk => by rw [smA s2 (by omega)]; exact q k hk⟩
def wl (a b : Nat) : Nat → Nat → Bool
  | 0, _ => false
  | c + 1, x => (decide (x ≤ a) && decide ((a - x) % 4 = b % 4)) || ((decide (x ≤ b) && decide (a % 4 = (b - x) % 4)) || wl a b c (x + 1))
theorem wl_ok : ∀ a, a < 10 → ∀ b, b < 10 → wl a b 3 1 = !decide (a % 4 = b % 4) := by decide +kernel
def WT (h : DT) (p : Nat) : Prop := ∀ a b, a < 10 → b < 10 → 10 * a + b < p → gA h 94 (10 * a + b) = bzB (!decide (a % 4 = b % 4))
section QR
variable (X : XS) (d : Nat) (tx tu gu : Option Nat) (tl : List SC)
theorem k_isWon (h : DT) {a b : Nat} (ha : a < 10) (hb : b < 10) (H : WT h (10 * a + b)) : cal X (d + 1) 293 [vP (some 72), vI (nI a), vI (nI b)] (SK tx tu gu tl, h) = some (some (vI (bzB (!decide (a % 4 = b % 4)))), (SK tx tu gu tl, h)) := by
  have lp : ∀ c x f, x + c = 4 → 1 ≤ x → 2 * c + 1 ≤ f → m_X11_isWon X d f 2 [(0, vP (some 72)), (1, vI (nI a)), (2, vI (nI b)), (3, vI (nI x))] [] (SK tx tu gu tl, h) = some (some (vI (bzB (wl a b c x))), (SK tx tu gu tl, h)) := by
    intro c
    induction c with
    | zero =>
      intro x f h1 h2 h3
      obtain ⟨f, rfl⟩ : ∃ g, f = g + 1 := ⟨f - 1, by omega⟩
      obtain rfl : x = 4 := by omega
      rw [e_X11_isWon_2, litI 4, if_pos (nI_le (by omega) (by omega))]
      rfl
    | succ c ih =>
      intro x f h1 h2 h3
      obtain ⟨f, rfl⟩ : ∃ g, f = g + 2 := ⟨f - 2, by omega⟩
      have s2 : m_X11_isWon X d (f + 1) 28 [(0, vP (some 72)), (1, vI (nI a)), (2, vI (nI b)), (3, vI (nI x))] [] (SK tx tu gu tl, h) = some (some (vI (bzB ((decide (x ≤ b) && decide (a % 4 = (b - x) % 4)) || wl a b c (x + 1)))), (SK tx tu gu tl, h)) := by
        rw [e_X11_isWon_28]
        rcases Nat.lt_or_ge b x with g | g
        · rw [if_pos ((nI_ltI (by omega) (by omega)).mpr g), nI_1, ih (x + 1) f (by omega) (by omega) (by omega), decide_eq_false (show ¬ x ≤ b by omega)]
          rfl
        · rw [if_neg (fun q => absurd ((nI_ltI (by omega) (by omega)).mp q) (by omega)), litI 10, mulI, addI, subI (by omega), inbI (by omega) (by omega), show 10 * a + b - x = 10 * a + (b - x) by omega, H a (b - x) ha (by omega) (by omega), decide_eq_true (show x ≤ b from g)]
          cases hq : decide (a % 4 = (b - x) % 4) with
          | true =>
            rw [show (!true) = false from rfl, bz_f, if_pos rfl]
            rfl
          | false =>
            rw [show (!false) = true from rfl, bz_t, if_neg one0, nI_1, ih (x + 1) f (by omega) (by omega) (by omega)]
            rfl
      rw [e_X11_isWon_2, litI 4, if_neg (nI_ge (by omega) (by omega))]
      unfold wl
      rcases Nat.lt_or_ge a x with g | g
      · rw [if_pos ((nI_ltI (by omega) (by omega)).mpr g), s2, decide_eq_false (show ¬ x ≤ a by omega)]
        rfl
      · rw [if_neg (fun q => absurd ((nI_ltI (by omega) (by omega)).mp q) (by omega)), litI 10, subI (by omega), mulI, addI, inbI (by omega) (by omega), H (a - x) b (by omega) hb (by omega), decide_eq_true (show x ≤ a from g)]
        cases hq : decide ((a - x) % 4 = b % 4) with
        | true =>
          rw [show (!true) = false from rfl, bz_f, if_pos rfl]
          rfl
        | false =>
          rw [show (!false) = true from rfl, bz_t, if_neg one0, s2]
          rfl
  rw [c_X11_isWon, e_X11_isWon_0, ← wl_ok a ha b hb]
  exact lp 3 1 999999 (by omega) (by omega) (by omega)
theorem k_qcol {a : Nat} (ha : a < 10) (x1 x2 : Int32) : ∀ (c b : Nat) (h : DT), b + c = 10 → WT h (10 * a + b) → ∃ h', (∀ f, m_X11_quarrel X (d + 1) (f + 2 * c + 1) 34 [(0, vP (some 72)), (1, vI x1), (2, vI x2), (3, vI (nI a)), (4, vI (nI b))] [] (SK tx tu gu tl, h) = m_X11_quarrel X (d + 1) f 25 [(0, vP (some 72)), (1, vI x1), (2, vI x2), (3, vI (nI (a + 1)))] [] (SK tx tu gu tl, h')) ∧ WT h' (10 * (a + 1)) ∧ KZ h h'
  | 0, b, h, hb, H => by
    refine ⟨h, fun f => ?_, fun p q hp hq g => H p q hp hq (by omega), smX.rf _ h⟩
    rw [e_X11_quarrel_34, litI 10, if_pos (nI_le (by omega) (by omega)), nI_1]
  | c + 1, b, h, hb, H => by
    obtain ⟨h', e1, e2, e3⟩ := k_qcol ha x1 x2 c (b + 1) (sA h 94 (10 * a + b) (bzB (!decide (a % 4 = b % 4)))) (by omega) (fun p q hp hq g => by
      rw [gA_sA]
      by_cases he : 10 * p + q = 10 * a + b
      · obtain ⟨rfl, rfl⟩ : p = a ∧ q = b := by omega
        rw [if_pos ⟨rfl, rfl⟩]
      · rw [if_neg (fun z => he z.2)]
        exact H p q hp hq (by omega))
    refine ⟨h', fun f => ?_, e2, smX.tr (smX_sA (by omega)) e3⟩
    rw [show f + 2 * (c + 1) + 1 = f + 2 * c + 1 + 1 + 1 by omega, e_X11_quarrel_34, litI 10, if_neg (nI_ge (by omega) (by omega)), k_isWon X d tx tu gu tl h ha (by omega) H, bI_s, mulI, addI, e_X11_quarrel_59, inbI (by omega) (by omega), nI_1, ← e1 f]
    cases decide (a % 4 = b % 4) <;> rfl
theorem k_qrow (x1 x2 : Int32) : ∀ (c a : Nat) (h : DT), a + c = 10 → WT h (10 * a) → ∃ h', (∀ f, m_X11_quarrel X (d + 1) (f + 22 * c + 1) 25 [(0, vP (some 72)), (1, vI x1), (2, vI x2), (3, vI (nI a))] [] (SK tx tu gu tl, h) = m_X11_quarrel X (d + 1) (f + 1) 25 [(0, vP (some 72)), (1, vI x1), (2, vI x2), (3, vI (nI 10))] [] (SK tx tu gu tl, h')) ∧ WT h' 100 ∧ KZ h h'
  | 0, a, h, hb, H => by
    obtain rfl : a = 10 := by omega
    exact ⟨h, fun f => rfl, H, smX.rf _ h⟩
  | c + 1, a, h, hb, H => by
    obtain ⟨h1, e1, e2, e3⟩ := k_qcol X d tx tu gu tl (a := a) (by omega) x1 x2 10 0 h (by omega) (fun p q hp hq g => H p q hp hq (by omega))
    obtain ⟨h2, g1, g2, g3⟩ := k_qrow x1 x2 c (a + 1) h1 (by omega) e2
    refine ⟨h2, fun f => ?_, g2, e3.tr g3⟩
    rw [show f + 22 * (c + 1) + 1 = (f + 22 * c + 1) + 2 * 10 + 1 + 1 by omega, e_X11_quarrel_25, litI 10, if_neg (nI_ge (by omega) (by omega))]
    exact (e1 _).trans (g1 f)
theorem md4 {z : Int} (h1 : -9 ≤ z) (h2 : z ≤ 9) : absI (zI z) = nI z.natAbs ∧ nI z.natAbs - nI z.natAbs / 4 * 4 = nI (z.natAbs % 4) := by
  refine ⟨absI_z (by omega) (by omega), ?_⟩
  have : ∀ m, m < 10 → nI m - nI m / 4 * 4 = nI (m % 4) := by decide +kernel
  exact this _ (by omega)
theorem op_quarrel {n t k : Nat} (h : DT) (H : RA h (gA h 73) n t k) (x1 x2 : Int32) : OpA X tx tu gu tl h n t k 137 [vP (some 0), vI x1, vI x2] 294 [vP (some 72), vI x1, vI x2] := by
  obtain ⟨a0, hn, x0⟩ := H.p
  rcases per_cs x1 (n := n) (by omega) with ⟨i, hi, rfl⟩ | hx
  · have di := per_t hn hi
    rcases per_cs x2 (n := n) (by omega) with ⟨j, hj, rfl⟩ | hx
    · have dj := per_t hn hj
      by_cases hij : nI i = nI j
      · refine OpA_id (v := vI (-1)) H ?_ ?_
        · rw [c_X10_quarrel, e_X10_quarrel_0, x_has_t (hp := Or.inl rfl) (ha := x0) (hn := hn) (hj := hi), bI_s, e_X10_quarrel_8, if_neg one0, x_has_t (hp := Or.inl rfl) (ha := x0) (hn := hn) (hj := hj), bI_s, e_X10_quarrel_19, if_neg one0, if_pos hij]
        · rw [c_X11_quarrel, e_X11_quarrel_0, k_isPerson, a0, di, bz_t, bI_s, e_X11_quarrel_5, if_neg one0, k_isPerson, a0, dj, bz_t, bI_s, if_neg one0, if_pos hij]
      · obtain ⟨z, hz1, hz2, ez⟩ := in_z (lo := -9) (hi := 9) (H.s9 (i := i) (by omega)).1 (H.s9 (i := i) (by omega)).2 (by omega) (by omega) (by omega) (by omega)
        obtain ⟨w, hw1, hw2, ew⟩ := in_z (lo := -9) (hi := 9) (H.s9 (i := j) (by omega)).1 (H.s9 (i := j) (by omega)).2 (by omega) (by omega) (by omega) (by omega)
        obtain ⟨mz1, mz2⟩ := md4 hz1 hz2
        obtain ⟨mw1, mw2⟩ := md4 hw1 hw2
        obtain ⟨h2, g1, g2, g3⟩ := k_qrow X 98 tx tu gu tl (nI i) (nI j) 10 0 h (by omega) (fun p q hp hq g => by omega)
        have e73 := g3.r
        refine OpA_z (v := vI (bzB (!decide (z.natAbs % 4 = w.natAbs % 4)))) (h1 := h) (h2 := h2) H ?_ (smX.rf _ h) ?_ g3
        · rw [c_X10_quarrel, e_X10_quarrel_0, x_has_t (hp := Or.inl rfl) (ha := x0) (hn := hn) (hj := hi), bI_s, e_X10_quarrel_8, if_neg one0, x_has_t (hp := Or.inl rfl) (ha := x0) (hn := hn) (hj := hj), bI_s, e_X10_quarrel_19, if_neg one0, if_neg hij, inbI (by omega) (by omega), inbI (by omega) (by omega), abs0, abs0, H.sl (by omega), H.sl (by omega), ez, ew, mz1, mw1, mz2, mw2]
          by_cases q : z.natAbs % 4 = w.natAbs % 4
          · rw [if_pos (congrArg nI q), decide_eq_true q]
            rfl
          · rw [if_neg (fun e => q ((nI_eq (by omega) (by omega)).mp e)), decide_eq_false q]
            rfl
        · rw [c_X11_quarrel, e_X11_quarrel_0, k_isPerson, a0, di, bz_t, bI_s, e_X11_quarrel_5, if_neg one0, k_isPerson, a0, dj, bz_t, bI_s, if_neg one0, if_neg hij]
          refine (g1 999777).trans ?_
          rw [e_X11_quarrel_25, litI 10, if_pos (nI_le (by omega) (by omega)), litI 12, addI, inbI (by omega) (by omega), e73, ez, k_size', mz1, bI_s, e_X11_quarrel_90, litI 12, addI, inbI (by omega) (by omega), e73, ew, k_size', mw1, bI_s, mulI, e_X11_quarrel_103, addI, inbI (by omega) (by omega), g2 z.natAbs w.natAbs (by omega) (by omega) (by omega)]
          cases decide (z.natAbs % 4 = w.natAbs % 4) with
          | true => rw [show (!true) = false from rfl, bz_f, if_pos rfl]
          | false => rw [show (!false) = true from rfl, bz_t, if_neg one0]
    · have dj := per_f hn hx
      refine OpA_id (v := vI (-1)) H ?_ ?_
      · rw [c_X10_quarrel, e_X10_quarrel_0, x_has_t (hp := Or.inl rfl) (ha := x0) (hn := hn) (hj := hi), bI_s, e_X10_quarrel_8, if_neg one0, x_has_f (hp := Or.inl rfl) (ha := x0) (hx := hx), bI_s, e_X10_quarrel_19, if_pos rfl]
      · rw [c_X11_quarrel, e_X11_quarrel_0, k_isPerson, a0, di, bz_t, bI_s, e_X11_quarrel_5, if_neg one0, k_isPerson, a0, dj, bz_f, bI_s, if_pos rfl]
  · have di := per_f hn hx
    refine OpA_id (v := vI (-1)) H ?_ ?_
    · rw [c_X10_quarrel, e_X10_quarrel_0, x_has_f (hp := Or.inl rfl) (ha := x0) (hx := hx), bI_s, e_X10_quarrel_8, if_pos rfl]
    · rw [c_X11_quarrel, e_X11_quarrel_0, k_isPerson, a0, di, bz_f, bI_s, e_X11_quarrel_5, if_pos rfl]
end QR
