/-! TURNS of the class: prepared, and asked -/
def TuOk (h : DT) (b : Nat) : Prop := gF h b 0 = -1 ∨ ∃ m, m ≤ 5 ∧ gF h b 0 = nI m ∧ TbOk h b m ∧ FaOk h b m
set_option maxRecDepth 100000 in
theorem ds_e : ∀ n, n < 6 → ∀ r, r < fc n → dsT n (32 * r) ≤ 10 := by decide +kernel
/-- the lowest turn that goes nearer -/
def lnT (n a : Nat) : Nat → Nat → Nat
  | 0, j => j + 1
  | c + 1, j => if dsT n (spT n a j) + 1 = dsT n a then j + 1 else lnT n a c (j + 1)
theorem lnT_ok {n a : Nat} : ∀ (c j : Nat), j + c + 1 = n → (∃ i, j ≤ i ∧ i < n ∧ dsT n (spT n a i) + 1 = dsT n a) → ∃ q, j ≤ q ∧ q < n ∧ lnT n a c j = q + 1 ∧ dsT n (spT n a q) + 1 = dsT n a
  | 0, j, hj, ⟨i, i1, i2, i3⟩ => ⟨j, by omega, by omega, rfl, by rwa [show i = j by omega] at i3⟩
  | c + 1, j, hj, ⟨i, i1, i2, i3⟩ => by
    unfold lnT
    by_cases z : dsT n (spT n a j) + 1 = dsT n a
    · rw [if_pos z]
      exact ⟨j, by omega, by omega, rfl, z⟩
    · rw [if_neg z]
      by_cases y : i = j
      · exact absurd (y ▸ i3) z
      · obtain ⟨q, q1, q2, q3⟩ := lnT_ok c (j + 1) (by omega) ⟨i, by omega, i2, i3⟩
        exact ⟨q, by omega, q2, q3⟩
/-- the turn asked for, so many turns on -/
def wkT (n : Nat) : Nat → Nat → Nat
  | 0, a => lnT n a (n - 1) 0
  | i + 1, a => wkT n i (spT n a (lnT n a (n - 1) 0 - 1))
theorem wk_s {n a : Nat} (hn : n ≤ 5) (ha : a < 32 * fc n) (h0 : dsT n a ≠ 0) (h15 : dsT n a ≠ 15) : ∃ q, q < n ∧ lnT n a (n - 1) 0 = q + 1 ∧ dsT n (spT n a q) + 1 = dsT n a ∧ spT n a q < 32 * fc n := by
  obtain ⟨w1, w2, w3, w4⟩ := tk_d (n := n) (by omega) ha
  obtain ⟨j, j1, j2⟩ := w3 h0 h15
  obtain ⟨q, q1, q2, q3, q4⟩ := lnT_ok (n := n) (a := a) (n - 1) 0 (by omega) ⟨j, by omega, j1, j2⟩
  exact ⟨q, q2, q3, q4, (w1 q q2).2.1⟩
/-- what is answered, of the arrangement a -/
def btV (n a : Nat) (x : Int32) : Int32 := if x = -1 then nI (dsT n a) else if x < 0 then -2 else if x < nI (dsT n a) then nI (wkT n x.toNatClampNeg a) else -2
section TA
variable (X : XS) (d : Nat) (tx tu gu : Option Nat) (tl : List SC)
theorem x_prep {b n : Nat} (hb : TuA b tl) (hn : n ≤ 5) (h : DT) (H : TuOk h b) : ∃ h', cal X (d + 3) 92 [vP (some b), vI (nI n)] (SK tx tu gu tl, h) = some (none, (SK tx tu gu tl, h')) ∧ smX (fun c => b ≤ c ∧ c ≤ b + 4) h h' ∧ gF h' b 0 = nI n ∧ TbOk h' b n ∧ FaOk h' b n := by
  by_cases z : gF h b 0 = nI n
  · have : TbOk h b n ∧ FaOk h b n := by
      rcases H with u | ⟨m, m1, m2, m3⟩
      · rw [u] at z
        exact absurd z.symm (nI_n1 (by omega))
      · rw [m2, eqI (by omega) (by omega)] at z
        rw [← z]
        exact m3
    refine ⟨h, ?_, smX.rf _ h, z, this.1, this.2⟩
    rw [c_X9_prepare, e_X9_prepare_0 (hb := hb), if_pos z]
  · obtain ⟨h1, a1, a2, a3⟩ := x_pr25 X d tx tu gu tl hb hn (fc n) 0 (sF h b 0 (nI n)) (by omega) (by rw [gF_sF, if_pos ⟨rfl, rfl⟩]) (fun q hq => by omega)
    have g1 : gF h1 b 0 = nI n := by rw [a1.F (by omega), gF_sF, if_pos ⟨rfl, rfl⟩]
    obtain ⟨h2, b1, b2, b3⟩ := x_pr50 X (d + 2) tx tu gu tl hb 3840 0 h1 (by omega) (fun k hk => by omega)
    have g2 : gF h2 b 0 = nI n := by rw [b1.F (by omega), g1]
    have t2 : TbOk h2 b n := a2.sm b1
    obtain ⟨h3, c1, c2, c3⟩ := x_pr81 X d tx tu gu tl hb hn 10 0 h2 (by omega) g2 t2 (fun a ha => by
      rw [b2 a (a38 hn ha)]
      by_cases y : a = 0
      · rw [if_pos y, y, ds_0 n (by omega), if_pos (by omega)]
        rfl
      · rw [if_neg y, if_neg (fun u => y ((tk_d (n := n) (by omega) ha).2.1 (by omega)))])
    have hfc := (fc_ok n (by omega)).2.2
    refine ⟨h3, ?_, ((smX.tr (smX_sF (by omega)) (a1.mo fun c hc => by omega)).tr (b1.mo fun c hc => by omega)).tr (c1.mo fun c hc => by omega), by rw [c1.F (by omega), g2], t2.sm c1, c2⟩
    rw [c_X9_prepare, e_X9_prepare_0 (hb := hb), if_neg z, x_within, bI_s, e_X9_prepare_14 (hb := hb), if_neg]
    · refine Eq.trans (show m_X9_prepare X (d + 2) 999998 25 [(0, vP (some b)), (2, vI 0)] [] (SK tx tu gu tl, sF h b 0 (nI n)) = m_X9_prepare X (d + 2) (999997 - fc n) 50 [(0, vP (some b)), (2, vI 0)] [] (SK tx tu gu tl, h1) from ?_) ?_
      · have := a3 (999997 - fc n)
        rwa [show 999997 - fc n + fc n + 1 = 999998 by omega] at this
      · have := b3 (996156 - fc n)
        rw [show 996156 - fc n + 3840 + 1 = 999997 - fc n by omega] at this
        refine Eq.trans this ?_
        exact c3 _ (by omega)
    · rw [decide_eq_true (nI_nn (by omega)), decide_eq_true (show nI n ≤ 5 from nI_le (b := 5) (by omega) (by omega))]
      exact one0
theorem fa_at {h : DT} {b n a : Nat} (H : FaOk h b n) (ha : a < 32 * fc n) (h15 : dsT n a ≠ 15) : gA h (b + 4) a = nI (dsT n a) := by rw [H a ha, if_neg h15]
theorem nr_c {p q : Nat} (hp : p < 100) (hq : q < 100) (h0 : 0 < q) : (nI p = nI q - 1) = (p + 1 = q) := by
  rw [show nI q - 1 = nI (q - 1) from subI (a := q) (b := 1) (by omega), eqI (by omega) (by omega)]
  exact propext ⟨fun z => by omega, fun z => by omega⟩
theorem x_low2 {b n a : Nat} (hb : TuA b tl) (hn : n ≤ 5) (ha : a < 32 * fc n) (h0 : dsT n a ≠ 0) (h15 : dsT n a ≠ 15) (h : DT) (e : gF h b 0 = nI n) (HT : TbOk h b n) (HF : FaOk h b n) : ∀ (c j f : Nat), j + c + 1 = n → 2 * c + 1 ≤ f → m_X9_lowestNearer X (d + 1) f 2 [(0, vP (some b)), (1, vI (nI a)), (2, vI (nI (j + 1)))] [] (SK tx tu gu tl, h) = some (some (vI (nI (lnT n a c j))), (SK tx tu gu tl, h))
  | 0, j, f, hj, hf => by
    obtain ⟨f, rfl⟩ : ∃ g, f = g + 1 := ⟨f - 1, by omega⟩
    rw [e_X9_lowestNearer_2 (hb := hb), e, if_pos (nI_le (by omega) (by omega))]
    exact rI (by rw [← hj]; rfl)
  | c + 1, j, f, hj, hf => by
    obtain ⟨f, rfl⟩ : ∃ g, f = g + 1 + 1 := ⟨f - 2, by omega⟩
    have w1 := (tk_d (n := n) (by omega) ha).1
    have w4 := (tk_d (n := n) (by omega) ha).2.2.2
    obtain ⟨v1, v2, v3, v4⟩ := w1 j (by omega)
    have v5 := v4 h15
    rw [e_X9_lowestNearer_2 (hb := hb), e, if_neg (nI_ge (by omega) (by omega)), x_behind X d tx tu gu tl hb hn ha (show j < n by omega) h HT, bI_s, e_X9_lowestNearer_20 (hb := hb), inbI (a38 hn v2) (by omega), inbI (a38 hn ha) (by omega), fa_at HF v2 (by omega), fa_at HF ha h15]
    unfold lnT
    by_cases z : dsT n (spT n a j) + 1 = dsT n a
    · rw [if_pos (by rw [nr_c (by omega) (by omega) (by omega)]; exact z), if_pos z]
    · rw [if_neg (by rw [nr_c (by omega) (by omega) (by omega)]; exact z), if_neg z, nI_1]
      exact x_low2 hb hn ha h0 h15 h e HT HF c (j + 1) f (by omega) (by omega)
theorem x_low {b n a : Nat} (hb : TuA b tl) (h1n : 1 ≤ n) (hn : n ≤ 5) (ha : a < 32 * fc n) (h0 : dsT n a ≠ 0) (h15 : dsT n a ≠ 15) (h : DT) (e : gF h b 0 = nI n) (HT : TbOk h b n) (HF : FaOk h b n) : cal X (d + 2) 97 [vP (some b), vI (nI a)] (SK tx tu gu tl, h) = some (some (vI (nI (lnT n a (n - 1) 0))), (SK tx tu gu tl, h)) := by
  rw [c_X9_lowestNearer, e_X9_lowestNearer_0 (hb := hb)]
  exact x_low2 X d tx tu gu tl hb hn ha h0 h15 h e HT HF (n - 1) 0 999999 (by omega) (by omega)
theorem x_an50 {b n : Nat} (hb : TuA b tl) (h1n : 1 ≤ n) (hn : n ≤ 5) (h : DT) (e : gF h b 0 = nI n) (HT : TbOk h b n) (HF : FaOk h b n) {i : Nat} (hi : i < 100) : ∀ (c a k f : Nat) (x5 : Int32), k + c = i → a < 32 * fc n → c < dsT n a → dsT n a ≠ 15 → 2 * c + 3 ≤ f → m_X9_answer X (d + 2) f 50 [(0, vP (some b)), (2, vI (nI i)), (3, vI (nI a)), (5, vI x5), (6, vI (nI k))] [] (SK tx tu gu tl, h) = some (some (vI (nI (wkT n c a))), (SK tx tu gu tl, h))
  | 0, a, k, f, x5, hk, ha, h0, h15, hf => by
    obtain ⟨f, rfl⟩ : ∃ g, f = g + 1 + 1 + 1 := ⟨f - 3, by omega⟩
    obtain ⟨q, q1, q2, q3, q4⟩ := wk_s hn ha (by omega) h15
    rw [e_X9_answer_50 (hb := hb), if_neg (by rw [ltI (by omega) (by omega)]; omega), x_low X d tx tu gu tl hb h1n hn ha (by omega) h15 h e HT HF, bI_s, e_X9_answer_61 (hb := hb), q2, x_behind X (d + 1) tx tu gu tl hb hn ha q1 h HT, bI_s, nI_1, e_X9_answer_50 (hb := hb), if_pos (by rw [ltI (by omega) (by omega)]; omega)]
    exact rI (by rw [← q2]; rfl)
  | c + 1, a, k, f, x5, hk, ha, h0, h15, hf => by
    obtain ⟨f, rfl⟩ : ∃ g, f = g + 1 + 1 := ⟨f - 2, by omega⟩
    obtain ⟨q, q1, q2, q3, q4⟩ := wk_s hn ha (by omega) h15
    have hd := (tk_d (n := n) (by omega) ha).2.2.2
    rw [e_X9_answer_50 (hb := hb), if_neg (by rw [ltI (by omega) (by omega)]; omega), x_low X d tx tu gu tl hb h1n hn ha (by omega) h15 h e HT HF, bI_s, e_X9_answer_61 (hb := hb), q2, x_behind X (d + 1) tx tu gu tl hb hn ha q1 h HT, bI_s, nI_1, x_an50 hb h1n hn h e HT HF hi c (spT n a q) (k + 1) f _ (by omega) q4 (by omega) (by omega) (by omega)]
    refine rI ?_
    show _ = nI (wkT n c (spT n a (lnT n a (n - 1) 0 - 1)))
    rw [q2, Nat.add_sub_cancel]
theorem x_ans {b n : Nat} {L : Nat → Nat} (hb : TuA b tl) (hn : n ≤ 5) (h : DT) (e1 : gF h 1 0 = nI n) (hL : ∀ j, j < n → gA h 5 j = nI (L j) ∧ L j < 5) (hr : rkL (lsF L n 0) < fc n) (e : gF h b 0 = nI n) (HT : TbOk h b n) (HF : FaOk h b n) (x : Int32) : cal X (d + 3) 96 [vP (some b), vP (some 1), vI x] (SK tx tu gu tl, h) = some (some (vI (btV n (32 * rkL (lsF L n 0)) x)), (SK tx tu gu tl, h)) := by
  have hfc := (fc_ok n (by omega)).2.2
  have hd := ds_e n (by omega) _ hr
  have ha : 32 * rkL (lsF L n 0) < 32 * fc n := by omega
  have hk := x_rankr X (d + 1) tx tu gu tl (L := L) hn h hL
  generalize rkL (lsF L n 0) = r at *
  rw [c_X9_answer, e_X9_answer_0 (hb := hb), e1, hk, bI_s, e_X9_answer_11 (hb := hb), show nI r * 32 = nI (32 * r) from (mulI r 32).trans (by rw [Nat.mul_comm]), inbI (a38 hn ha) (by omega), fa_at HF ha (by omega)]
  unfold btV
  by_cases z1 : x = -1
  · rw [if_pos z1, if_pos z1]
  · rw [if_neg z1, if_neg z1]
    by_cases z2 : x < 0
    · rw [if_pos z2, if_pos z2]
    · rw [if_neg z2, if_neg z2]
      by_cases z3 : x < nI (dsT n (32 * r))
      · rw [if_pos z3, if_pos z3]
        have h1n : 1 ≤ n := by
          by_cases y : n = 0
          · have : ∀ r, r < fc 0 → dsT 0 (32 * r) = 0 := by decide +kernel
            rw [y] at z3 hr
            rw [this r hr] at z3
            exact absurd z3 z2
          · omega
        obtain ⟨i, rfl, hi⟩ : ∃ i, x = nI i ∧ i < 100 := by
          have p1 : 0 ≤ x.toInt := by
            rw [Int32.lt_iff_toInt_lt] at z2
            have : (0 : Int32).toInt = 0 := rfl
            omega
          have p2 : x.toInt < 11 := by
            rw [zI_nI, Int32.lt_iff_toInt_lt, zI_toInt (by omega) (by omega)] at z3
            omega
          refine ⟨x.toInt.toNat, ?_, by omega⟩
          rw [zI_nI, Int.toNat_of_nonneg p1, zI_to]
        rw [clI (by omega)]
        rw [ltI (by omega) (by omega)] at z3
        exact x_an50 X d tx tu gu tl hb h1n hn h e HT HF hi i (32 * r) 0 999998 0 (by omega) ha z3 (by omega) (by omega)
      · rw [if_neg z3, if_neg z3]
end TA
