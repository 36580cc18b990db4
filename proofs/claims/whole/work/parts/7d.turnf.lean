/-! TURNS of the class: how far an order is -/
def GfI (h : DT) (b n k : Nat) (x : Int32) : Prop := (∀ a, a < 32 * fc n → (dsT n a ≤ k → gA h (b + 4) a = nI (dsT n a)) ∧ (k + 1 < dsT n a → gA h (b + 4) a = -1) ∧ (dsT n a = k + 1 → gA h (b + 4) a = -1 ∨ gA h (b + 4) a = nI (k + 1))) ∧ ((x = 0 ∧ ∀ a, a < 32 * fc n → dsT n a = k + 1 → gA h (b + 4) a = -1) ∨ (x = 1 ∧ ∃ a, a < 32 * fc n ∧ dsT n a = k + 1))
theorem ds_lt (n a : Nat) : dsT n a < 16 := Nat.mod_lt _ (by omega)
theorem a38 {n a : Nat} (hn : n ≤ 5) (ha : a < 32 * fc n) : a < 3840 := by
  have := (fc_ok n (by omega)).2.2
  omega
theorem GfI.st {h : DT} {b n k q : Nat} {x : Int32} (H : GfI h b n k x) (hq : q < 32 * fc n) (e : dsT n q = k + 1) : GfI (sA h (b + 4) q (nI (k + 1))) b n k 1 := by
  refine ⟨fun a ha => ?_, Or.inr ⟨rfl, q, hq, e⟩⟩
  rw [gA_sA]
  by_cases z : a = q
  · rw [if_pos ⟨rfl, z⟩, z]
    exact ⟨fun y => by omega, fun y => by omega, fun _ => Or.inr rfl⟩
  · rw [if_neg (fun y => z y.2)]
    exact H.1 a ha
section GF
variable (X : XS) (d : Nat) (tx tu gu : Option Nat) (tl : List SC)
theorem x_gf40 {b n k a : Nat} (hb : TuA b tl) (hn : n ≤ 5) (hk : k ≤ 10) (ha : a < 32 * fc n) (hd : dsT n a = k) (x3 : Int32) : ∀ (c j : Nat) (h : DT) (x2 : Int32), j + c = n → gF h b 0 = nI n → TbOk h b n → GfI h b n k x2 → ∃ h' x2', GfI h' b n k x2' ∧ smX (fun c => c = b + 4) h h' ∧ (∀ q, gA h (b + 4) q = nI (k + 1) → gA h' (b + 4) q = nI (k + 1)) ∧ (∀ i, j ≤ i → i < n → dsT n (spT n a i) = k + 1 → gA h' (b + 4) (spT n a i) = nI (k + 1)) ∧ ∀ f, m_X9_goFarther X (d + 1) (f + 2 * c + 1) 40 [(0, vP (some b)), (1, vI (nI k)), (2, vI x2), (3, vI x3), (4, vI (nI a)), (5, vI (nI (j + 1)))] [] (SK tx tu gu tl, h) = m_X9_goFarther X (d + 1) f 17 [(0, vP (some b)), (1, vI (nI k)), (2, vI x2'), (3, vI x3), (4, vI (nI a + 1))] [] (SK tx tu gu tl, h')
  | 0, j, h, x2, hj, h0, HT, HG => by
    refine ⟨h, x2, HG, smX.rf _ h, fun q hq => hq, fun i i1 i2 => by omega, fun f => ?_⟩
    rw [Nat.mul_zero, Nat.add_zero, e_X9_goFarther_40 (hb := hb), h0, if_pos (by rw [ltI (by omega) (by omega)]; omega)]
  | c + 1, j, h, x2, hj, h0, HT, HG => by
    have hjn : j < n := by omega
    obtain ⟨w1, w2, w3, w4⟩ := tk_d (n := n) (by omega) ha
    obtain ⟨v1, v2, v3, v4⟩ := w1 j hjn
    have v5 := v4 (by omega)
    have h38 := a38 hn v2
    have hbh := x_behind X d tx tu gu tl hb hn ha hjn h HT
    obtain ⟨g1, g2, g3⟩ := HG.1 _ v2
    by_cases z : gA h (b + 4) (spT n a j) = -1
    · have ez : dsT n (spT n a j) = k + 1 := by
        by_cases y : dsT n (spT n a j) ≤ k
        · rw [g1 y] at z
          exact absurd z (nI_n1 (by omega))
        · omega
      obtain ⟨h', x2', b1, b2, b3, b4, b5⟩ := x_gf40 hb hn hk ha hd x3 c (j + 1) (sA h (b + 4) (spT n a j) (nI (k + 1))) 1 (by omega) h0 (fun r hr i hi => by
        rw [gA_sA, if_neg (by omega), gA_sA, if_neg (by omega)]
        exact HT r hr i hi) (HG.st v2 ez)
      refine ⟨h', x2', b1, smX.tr (smX_sA rfl) b2, fun q hq => b3 q ?_, fun i i1 i2 i3 => ?_, fun f => ?_⟩
      · rw [gA_sA]
        by_cases y : q = spT n a j
        · rw [if_pos ⟨rfl, y⟩]
        · rw [if_neg (fun u => y u.2)]; exact hq
      · by_cases y : i = j
        · rw [y]
          exact b3 _ (by rw [gA_sA, if_pos ⟨rfl, rfl⟩])
        · exact b4 i (by omega) i2 i3
      · rw [show f + 2 * (c + 1) + 1 = f + 2 * c + 1 + 1 + 1 by omega, e_X9_goFarther_40 (hb := hb), h0, if_neg (by rw [ltI (by omega) (by omega)]; omega), hbh, bI_s, e_X9_goFarther_57 (hb := hb), inbI h38 (by omega), if_pos z, inbI h38 (by omega), nI_1, nI_1]
        exact b5 f
    · obtain ⟨h', x2', b1, b2, b3, b4, b5⟩ := x_gf40 hb hn hk ha hd x3 c (j + 1) h x2 (by omega) h0 HT HG
      refine ⟨h', x2', b1, b2, b3, fun i i1 i2 i3 => ?_, fun f => ?_⟩
      · by_cases y : i = j
        · rw [y] at i3 ⊢
          rcases g3 i3 with u | u
          · exact absurd u z
          · exact b3 _ u
        · exact b4 i (by omega) i2 i3
      · rw [show f + 2 * (c + 1) + 1 = f + 2 * c + 1 + 1 + 1 by omega, e_X9_goFarther_40 (hb := hb), h0, if_neg (by rw [ltI (by omega) (by omega)]; omega), hbh, bI_s, e_X9_goFarther_57 (hb := hb), inbI h38 (by omega), if_neg z, nI_1]
        exact b5 f
theorem TbOk.sm {h h' : DT} {b n : Nat} (H : TbOk h b n) (s : smX (fun c => c = b + 4) h h') : TbOk h' b n := fun r hr i hi => by
  rw [s.A (by omega), s.A (by omega)]
  exact H r hr i hi
theorem x_gf17 {b n k : Nat} (hb : TuA b tl) (hn : n ≤ 5) (hk : k ≤ 10) : ∀ (c a : Nat) (h : DT) (x2 : Int32), a + c = 32 * fc n → gF h b 0 = nI n → TbOk h b n → GfI h b n k x2 → (∀ q, q < a → dsT n q = k → ∀ i, i < n → dsT n (spT n q i) = k + 1 → gA h (b + 4) (spT n q i) = nI (k + 1)) → ∃ h' x2', GfI h' b n k x2' ∧ smX (fun c => c = b + 4) h h' ∧ (∀ q, q < 32 * fc n → dsT n q = k → ∀ i, i < n → dsT n (spT n q i) = k + 1 → gA h' (b + 4) (spT n q i) = nI (k + 1)) ∧ ∀ f, 12 * c + 1 ≤ f → m_X9_goFarther X (d + 1) f 17 [(0, vP (some b)), (1, vI (nI k)), (2, vI x2), (3, vI (nI (32 * fc n))), (4, vI (nI a))] [] (SK tx tu gu tl, h) = some (some (vI (x2')), (SK tx tu gu tl, h'))
  | 0, a, h, x2, hc, h0, HT, HG, HS => by
    have hf := (fc_ok n (by omega)).2.2
    refine ⟨h, x2, HG, smX.rf _ h, fun q hq => HS q (by omega), fun f hf => ?_⟩
    obtain ⟨f, rfl⟩ : ∃ g, f = g + 1 := ⟨f - 1, by omega⟩
    rw [e_X9_goFarther_17 (hb := hb), if_pos (nI_le (by omega) (by omega)), if_pos]
    rcases HG.2 with ⟨u, _⟩ | ⟨u, _⟩
    · exact Or.inl u
    · exact Or.inr u
  | c + 1, a, h, x2, hc, h0, HT, HG, HS => by
    have hf := (fc_ok n (by omega)).2.2
    have ha : a < 32 * fc n := by omega
    have h38 := a38 hn ha
    have hds := ds_lt n a
    obtain ⟨g1, g2, g3⟩ := HG.1 a ha
    by_cases z : dsT n a = k
    · obtain ⟨h1, y2, b1, b2, b3, b4, b5⟩ := x_gf40 X d tx tu gu tl hb hn hk ha z (nI (32 * fc n)) n 0 h x2 (by omega) h0 HT HG
      obtain ⟨h', x2', c1, c2, c3, c4⟩ := x_gf17 hb hn hk c (a + 1) h1 y2 (by omega) (by rw [b2.F (by omega), h0]) (HT.sm b2) b1 (fun q hq e i hi e2 => by
        by_cases y : q = a
        · rw [y] at e2 ⊢
          exact b4 i (by omega) hi e2
        · exact b3 _ (HS q (by omega) e i hi e2))
      refine ⟨h', x2', c1, b2.tr c2, c3, fun f hf => ?_⟩
      obtain ⟨f, rfl⟩ : ∃ g, f = g + 2 * n + 1 + 1 := ⟨f - 2 * n - 2, by omega⟩
      rw [e_X9_goFarther_17 (hb := hb), if_neg (nI_ge (by omega) (by omega)), inbI h38 (by omega), if_pos (by rw [g1 (by omega), z])]
      refine Eq.trans (b5 f) ?_
      rw [nI_1]
      exact c4 f (by omega)
    · obtain ⟨h', x2', c1, c2, c3, c4⟩ := x_gf17 hb hn hk c (a + 1) h x2 (by omega) h0 HT HG (fun q hq e i hi e2 => by
        by_cases y : q = a
        · exact absurd (y ▸ e) z
        · exact HS q (by omega) e i hi e2)
      refine ⟨h', x2', c1, c2, c3, fun f hf => ?_⟩
      obtain ⟨f, rfl⟩ : ∃ g, f = g + 1 := ⟨f - 1, by omega⟩
      have ne : ¬ gA h (b + 4) a = nI k := by
        intro u
        have e1 : ¬ (-1 : Int32) = nI k := fun t => nI_n1 (by omega) t.symm
        by_cases y : dsT n a ≤ k
        · rw [g1 y, eqI (by omega) (by omega)] at u
          exact z u
        · by_cases y2 : dsT n a = k + 1
          · rcases g3 y2 with t | t
            · exact e1 (t ▸ u)
            · rw [t, eqI (by omega) (by omega)] at u
              omega
          · exact e1 ((g2 (by omega)) ▸ u)
      rw [e_X9_goFarther_17 (hb := hb), if_neg (nI_ge (by omega) (by omega)), inbI h38 (by omega), if_neg ne, nI_1]
      exact c4 f (by omega)
/-- all up to k far are known -/
def FrK (h : DT) (b n k : Nat) : Prop := ∀ a, a < 32 * fc n → gA h (b + 4) a = if dsT n a ≤ k then nI (dsT n a) else -1
theorem x_gf {b n k : Nat} (hb : TuA b tl) (hn : n ≤ 5) (hk : k ≤ 10) (h : DT) (h0 : gF h b 0 = nI n) (HT : TbOk h b n) (HF : FrK h b n k) : ∃ h' x, smX (fun c => c = b + 4) h h' ∧ FrK h' b n (k + 1) ∧ ((x = 0 ∧ ∀ a, a < 32 * fc n → dsT n a ≠ k + 1) ∨ (x = 1 ∧ k + 1 ≤ 10)) ∧ cal X (d + 2) 94 [vP (some b), vI (nI k)] (SK tx tu gu tl, h) = some (some (vI (x)), (SK tx tu gu tl, h')) := by
  obtain ⟨e1, e2, e3⟩ := fc_ok n (by omega)
  obtain ⟨h', x, a1, a2, a3, a4⟩ := x_gf17 X d tx tu gu tl hb hn hk (32 * fc n) 0 h 0 (by omega) h0 HT ⟨fun a ha => by
    rw [HF a ha]
    exact ⟨fun y => if_pos y, fun y => if_neg (by omega), fun y => Or.inl (if_neg (by omega))⟩, Or.inl ⟨rfl, fun a ha y => by rw [HF a ha, if_neg (by omega)]⟩⟩ (fun q hq => by omega)
  have al : ∀ a, a < 32 * fc n → dsT n a = k + 1 → gA h' (b + 4) a = nI (k + 1) := fun a ha e => by
    obtain ⟨w1, w2, w3, w4⟩ := tk_d (n := n) (by omega) ha
    obtain ⟨j, j1, j2⟩ := w3 (by omega) (by omega)
    obtain ⟨v1, v2, v3, v4⟩ := w1 j j1
    have := a3 _ v2 (by omega) j j1 (by rw [v1, e])
    rwa [v1] at this
  refine ⟨h', x, a2, fun a ha => ?_, ?_, ?_⟩
  · obtain ⟨g1, g2, g3⟩ := a1.1 a ha
    by_cases y : dsT n a ≤ k
    · rw [g1 y, if_pos (by omega)]
    · by_cases y2 : dsT n a = k + 1
      · rw [al a ha y2, if_pos (by omega), y2]
      · rw [g2 (by omega), if_neg (by omega)]
  · rcases a1.2 with ⟨u, v⟩ | ⟨u, a, ha, v⟩
    · refine Or.inl ⟨u, fun a ha e => ?_⟩
      have := v a ha e
      rw [al a ha e] at this
      exact nI_n1 (by omega) this
    · refine Or.inr ⟨u, ?_⟩
      have := (tk_d (n := n) (by omega) ha).2.2.2
      omega
  · rw [c_X9_goFarther, e_X9_goFarther_0 (hb := hb), h0, inbI (by omega) (by omega), e1, show nI (fc n) * 32 = nI (32 * fc n) from (mulI (fc n) 32).trans (by rw [Nat.mul_comm])]
    exact a4 999999 (by omega)
/-- all distances are known -/
def FaOk (h : DT) (b n : Nat) : Prop := ∀ a, a < 32 * fc n → gA h (b + 4) a = if dsT n a = 15 then -1 else nI (dsT n a)
theorem no_far {n k : Nat} (hn : n ≤ 5) (hk : k ≤ 10) (H : ∀ a, a < 32 * fc n → dsT n a ≠ k + 1) : ∀ (c a : Nat), a < 32 * fc n → dsT n a ≠ 15 → dsT n a ≠ k + 1 + c
  | 0, a, ha, _, e => H a ha e
  | c + 1, a, ha, h15, e => by
    obtain ⟨w1, w2, w3, w4⟩ := tk_d (n := n) (by omega) ha
    obtain ⟨j, j1, j2⟩ := w3 (by omega) h15
    obtain ⟨v1, v2, v3, v4⟩ := w1 j j1
    exact no_far hn hk H c _ v2 (by omega) (by omega)
theorem x_pr81 {b n : Nat} (hb : TuA b tl) (hn : n ≤ 5) : ∀ (c k : Nat) (h : DT), k + c = 10 → gF h b 0 = nI n → TbOk h b n → FrK h b n k → ∃ h', smX (fun c => c = b + 4) h h' ∧ FaOk h' b n ∧ ∀ f, c + 2 ≤ f → m_X9_prepare X (d + 2) f 81 [(0, vP (some b)), (2, vI 1), (3, vI (nI k))] [] (SK tx tu gu tl, h) = some (none, (SK tx tu gu tl, h'))
  | c, k, h, hc, h0, HT, HF => by
    obtain ⟨h1, x, a1, a2, a3, a4⟩ := x_gf X d tx tu gu tl hb hn (k := k) (by omega) h h0 HT HF
    rcases a3 with ⟨u, v⟩ | ⟨u, v⟩
    · refine ⟨h1, a1, fun a ha => ?_, fun f hf => ?_⟩
      · rw [a2 a ha]
        by_cases y : dsT n a = 15
        · rw [if_pos y, if_neg (by omega)]
        · rw [if_neg y, if_pos]
          by_cases y2 : dsT n a ≤ k + 1
          · exact y2
          · exact absurd (show dsT n a = k + 1 + (dsT n a - k - 1) by omega) (no_far hn (by omega) v _ a ha y)
      · obtain ⟨f, rfl⟩ : ∃ g, f = g + 1 + 1 := ⟨f - 2, by omega⟩
        rw [e_X9_prepare_81 (hb := hb), if_neg one0, if_neg (show ¬ (3840 : Int32) ≤ nI k from nI_ge (b := 3840) (by omega) (by omega)), a4, bI_s, e_X9_prepare_81 (hb := hb), if_pos u]
    · cases c with
      | zero => omega
      | succ c =>
        obtain ⟨h', b1, b2, b3⟩ := x_pr81 hb hn c (k + 1) h1 (by omega) (by rw [a1.F (by omega), h0]) (HT.sm a1) a2
        refine ⟨h', a1.tr b1, b2, fun f hf => ?_⟩
        obtain ⟨f, rfl⟩ : ∃ g, f = g + 1 := ⟨f - 1, by omega⟩
        rw [e_X9_prepare_81 (hb := hb), if_neg one0, if_neg (show ¬ (3840 : Int32) ≤ nI k from nI_ge (b := 3840) (by omega) (by omega)), a4, bI_s, u, nI_1]
        exact b3 f (by omega)
theorem x_pr50 {b : Nat} (hb : TuA b tl) : ∀ (c i : Nat) (h : DT), i + c = 3840 → (∀ k, k < i → gA h (b + 4) k = -1) → ∃ h', smX (fun c => c = b + 4) h h' ∧ (∀ k, k < 3840 → gA h' (b + 4) k = if k = 0 then 0 else -1) ∧ ∀ f, m_X9_prepare X d (f + c + 1) 50 [(0, vP (some b)), (2, vI (nI i))] [] (SK tx tu gu tl, h) = m_X9_prepare X d f 81 [(0, vP (some b)), (2, vI 1), (3, vI 0)] [] (SK tx tu gu tl, h')
  | 0, i, h, hi, H => by
    refine ⟨sA h (b + 4) 0 0, smX_sA rfl, fun k hk => ?_, fun f => ?_⟩
    · rw [gA_sA]
      by_cases z : k = 0
      · rw [if_pos ⟨rfl, z⟩, if_pos z]
      · rw [if_neg (fun y => z y.2), if_neg z, H k (by omega)]
    · rw [Nat.add_zero, e_X9_prepare_50 (hb := hb), if_pos (show (3840 : Int32) ≤ nI i from nI_le (a := 3840) (by omega) (by omega))]
  | c + 1, i, h, hi, H => by
    obtain ⟨h', a1, a2, a3⟩ := x_pr50 hb c (i + 1) (sA h (b + 4) i (-1)) (by omega) (fun k hk => by
      rw [gA_sA]
      by_cases z : k = i
      · rw [if_pos ⟨rfl, z⟩]
      · rw [if_neg (fun y => z y.2), H k (by omega)])
    refine ⟨h', smX.tr (smX_sA rfl) a1, a2, fun f => ?_⟩
    rw [show f + (c + 1) + 1 = f + c + 1 + 1 by omega, e_X9_prepare_50 (hb := hb), if_neg (show ¬ (3840 : Int32) ≤ nI i from nI_ge (b := 3840) (by omega) (by omega)), inbI (by omega) (by omega), nI_1]
    exact a3 f
end GF
