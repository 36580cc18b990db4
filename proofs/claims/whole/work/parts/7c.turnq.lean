/-! TURNS of the class: all turns of one order, and of all orders; the order behind a turn -/
theorem rw5_lt {n r : Nat} (hn : n ≤ 5) (hr : r < fc n) {j : Nat} (hj : j < n) : rw5 n r j < 5 := Nat.lt_of_lt_of_le ((uo_all n (by omega) r hr).2 j hj) hn
theorem rvF_lt {L : Nat → Nat} {n m : Nat} (hm : m ≤ n) (hL : ∀ j, j < n → L j < 5) {j : Nat} (hj : j < n) : rvF L m j < 5 := by
  unfold rvF
  by_cases g : j < m
  · rw [if_pos g]; exact hL _ (by omega)
  · rw [if_neg g]; exact hL _ hj
theorem tix {n r j : Nat} (hn : n ≤ 5) (hr : r < fc n) (hj : j < n) : r * 5 + j < 600 := by
  have := (fc_ok n (by omega)).2.2
  omega
section PO
variable (X : XS) (d : Nat) (tx tu gu : Option Nat) (tl : List SC)
theorem x_po2 {b n r : Nat} (hb : TuA b tl) (hn : n ≤ 5) (hr : r < fc n) : ∀ (c j : Nat) (h : DT), j + c = n → gF h b 0 = nI n → ∃ h', smX (fun c => c = b + 1 ∨ c = b + 2 ∨ c = b + 3) h h' ∧ (∀ i, j ≤ i → i < n → gA h' (b + 2) (r * 5 + i) = nI (obT n (r * 5 + i)) ∧ gA h' (b + 3) (r * 5 + i) = nI (tbT n (r * 5 + i))) ∧ (∀ k, k < r * 5 + j → gA h' (b + 2) k = gA h (b + 2) k ∧ gA h' (b + 3) k = gA h (b + 3) k) ∧ ∀ f, 100 * c + 1 ≤ f → m_X9_prepareOrder X (d + 1) f 2 [(0, vP (some b)), (1, vI (nI r)), (2, vI (nI (j + 1)))] [] (SK tx tu gu tl, h) = some (none, (SK tx tu gu tl, h'))
  | 0, j, h, hj, h0 => by
    refine ⟨h, smX.rf _ h, fun i h1 h2 => by omega, fun k hk => ⟨rfl, rfl⟩, fun f hf => ?_⟩
    obtain ⟨f, rfl⟩ : ∃ g, f = g + 1 := ⟨f - 1, by omega⟩
    rw [e_X9_prepareOrder_2 (hb := hb), h0, if_pos (by rw [ltI (by omega) (by omega)]; omega)]
  | c + 1, j, h, hj, h0 => by
    have hjn : j < n := by omega
    have hf := (fc_ok n (by omega)).2.2
    obtain ⟨_, _, _, _, tk⟩ := tk_o (n := n) (r := r) (by omega) hr
    obtain ⟨t1, t2, t3, t4, t5, t6⟩ := tk j hjn
    have hL5 : ∀ i, i < n → rw5 n r i < 5 := fun i hi => rw5_lt hn hr hi
    obtain ⟨h1, a1, a2, a3⟩ := x_unrankb X d tx tu gu tl hb hn hr h
    have hL : ∀ i, i < n → gA h1 (b + 1) i = nI (rw5 n r i) ∧ rw5 n r i < 5 := fun i hi => ⟨a3 i hi, hL5 i hi⟩
    obtain ⟨h2, b1, b2, b3⟩ := x_po59 X (d + 1) tx tu gu tl (r := r) (a := tbT n (r * 5 + j)) (L := rw5 n r) hb hn (m := j + 1) (by omega) (by omega) (j + 1) 0 h1 (by omega) (by omega) (fun i hi => by rw [rvP_0]; exact a3 i hi)
    have hL2 : ∀ i, i < n → gA h2 (b + 1) i = nI (rvF (rw5 n r) (j + 1) i) ∧ rvF (rw5 n r) (j + 1) i < 5 := fun i hi => ⟨b1 i hi, rvF_lt (n := n) (by omega) hL5 hi⟩
    have g2 : gF h2 b 0 = nI n := by rw [b2.F (by omega), a2.F (by omega), h0]
    have hrk := x_rankb X d tx tu gu tl (L := rvF (rw5 n r) (j + 1)) hb hn h2 hL2
    generalize hh : sA (sA h2 (b + 2) (r * 5 + j) (nI (obT n (r * 5 + j)))) (b + 3) (r * 5 + j) (nI (tbT n (r * 5 + j))) = h3
    have s12 : smX (fun c => c = b + 1 ∨ c = b + 2 ∨ c = b + 3) h h2 := (a2.tr b2).mo fun c hc => Or.inl hc
    have s3 : smX (fun c => c = b + 1 ∨ c = b + 2 ∨ c = b + 3) h2 h3 := by rw [← hh]; exact smX.tr (smX_sA (by omega)) (smX_sA (by omega))
    have e2 : ∀ k, gA h2 (b + 2) k = gA h (b + 2) k ∧ gA h2 (b + 3) k = gA h (b + 3) k := fun k => ⟨by rw [b2.A (by omega), a2.A (by omega)], by rw [b2.A (by omega), a2.A (by omega)]⟩
    have e3 : ∀ k, gA h3 (b + 2) k = (if k = r * 5 + j then nI (obT n (r * 5 + j)) else gA h (b + 2) k) ∧ gA h3 (b + 3) k = (if k = r * 5 + j then nI (tbT n (r * 5 + j)) else gA h (b + 3) k) := fun k => by
      rw [← hh]
      refine ⟨?_, ?_⟩
      · rw [gA_sA, if_neg (by omega), gA_sA, (e2 k).1]
        by_cases z : k = r * 5 + j
        · rw [if_pos ⟨rfl, z⟩, if_pos z]
        · rw [if_neg (fun q => z q.2), if_neg z]
      · rw [gA_sA, gA_sA, (e2 k).2]
        by_cases z : k = r * 5 + j
        · rw [if_pos ⟨rfl, z⟩, if_pos z]
        · rw [if_neg (fun q => z q.2), if_neg z, if_neg (by omega)]
    obtain ⟨h', c1, c2, c3, c4⟩ := x_po2 hb hn hr c (j + 1) h3 (by omega) (by rw [s3.F (by omega), g2])
    refine ⟨h', (s12.tr s3).tr c1, fun i i1 i2 => ?_, fun k hk => ?_, fun f hf => ?_⟩
    · by_cases z : i = j
      · rw [(c3 _ (by omega)).1, (c3 _ (by omega)).2, (e3 _).1, (e3 _).2, z, if_pos rfl, if_pos rfl]
        exact ⟨rfl, rfl⟩
      · exact c2 i (by omega) i2
    · rw [(c3 k (by omega)).1, (c3 k (by omega)).2, (e3 k).1, (e3 k).2, if_neg (by omega), if_neg (by omega)]
      exact ⟨rfl, rfl⟩
    · obtain ⟨f, rfl⟩ : ∃ g, f = g + (j + 1) + 1 + 1 := ⟨f - j - 3, by omega⟩
      obtain ⟨f', f1, f2⟩ := b3 (100 * c + 2) f (by omega)
      obtain ⟨f', rfl⟩ : ∃ g, f' = g + 1 := ⟨f' - 1, by omega⟩
      have q1 : nI (j + 1) - 1 = zI (((j + 1 : Nat) : Int) - 1 - ((0 : Nat) : Int)) := by
        rw [show nI (j + 1) - 1 = nI j from subI (a := j + 1) (b := 1) (by omega), zI_nI]
        congr 1
        omega
      have q2 : nI r * 5 + nI (j + 1) - 1 = nI (r * 5 + j) := by
        rw [show nI r * 5 = nI (r * 5) from mulI r 5, addI]
        exact subI (a := r * 5 + (j + 1)) (b := 1) (by omega)
      have ti := tix hn hr hjn
      rw [e_X9_prepareOrder_2 (hb := hb), h0, if_neg (by rw [ltI (by omega) (by omega)]; omega), a1, bV_s]
      have p1 := x_po27 X (d + 1) tx tu gu tl (r := r) (m := j + 1) (L := rw5 n r) hb hn (by omega) h1 hL (j + 1) 0 0 f (by omega) (by omega)
      refine Eq.trans p1 ?_
      rw [← t3, q1]
      refine Eq.trans f2 ?_
      rw [g2, hrk, bI_s, ← t1, e_X9_prepareOrder_129 (hb := hb), q2, inbI ti (by omega), inbI ti (by omega), hh, nI_1]
      exact c4 f' (by omega)
theorem x_po {b n r : Nat} (hb : TuA b tl) (hn : n ≤ 5) (hr : r < fc n) (h : DT) (h0 : gF h b 0 = nI n) : ∃ h', smX (fun c => c = b + 1 ∨ c = b + 2 ∨ c = b + 3) h h' ∧ (∀ i, i < n → gA h' (b + 2) (r * 5 + i) = nI (obT n (r * 5 + i)) ∧ gA h' (b + 3) (r * 5 + i) = nI (tbT n (r * 5 + i))) ∧ (∀ k, k < r * 5 → gA h' (b + 2) k = gA h (b + 2) k ∧ gA h' (b + 3) k = gA h (b + 3) k) ∧ cal X (d + 2) 93 [vP (some b), vI (nI r)] (SK tx tu gu tl, h) = some (none, (SK tx tu gu tl, h')) := by
  obtain ⟨h', a1, a2, a3, a4⟩ := x_po2 X d tx tu gu tl hb hn hr n 0 h (by omega) h0
  refine ⟨h', a1, fun i hi => a2 i (by omega) hi, a3, ?_⟩
  rw [c_X9_prepareOrder, e_X9_prepareOrder_0 (hb := hb)]
  exact a4 999999 (by omega)
/-- the class's tables are filled -/
def TbOk (h : DT) (b n : Nat) : Prop := ∀ r, r < fc n → ∀ i, i < n → gA h (b + 2) (r * 5 + i) = nI (obT n (r * 5 + i)) ∧ gA h (b + 3) (r * 5 + i) = nI (tbT n (r * 5 + i))
theorem x_pr25 {b n : Nat} (hb : TuA b tl) (hn : n ≤ 5) : ∀ (c r : Nat) (h : DT), r + c = fc n → gF h b 0 = nI n → (∀ q, q < r → ∀ i, i < n → gA h (b + 2) (q * 5 + i) = nI (obT n (q * 5 + i)) ∧ gA h (b + 3) (q * 5 + i) = nI (tbT n (q * 5 + i))) → ∃ h', smX (fun c => c = b + 1 ∨ c = b + 2 ∨ c = b + 3) h h' ∧ TbOk h' b n ∧ ∀ f, m_X9_prepare X (d + 2) (f + c + 1) 25 [(0, vP (some b)), (2, vI (nI r))] [] (SK tx tu gu tl, h) = m_X9_prepare X (d + 2) f 50 [(0, vP (some b)), (2, vI 0)] [] (SK tx tu gu tl, h')
  | 0, r, h, hr, h0, H => by
    obtain ⟨e1, e2, e3⟩ := fc_ok n (by omega)
    refine ⟨h, smX.rf _ h, fun q hq => H q (by omega), fun f => ?_⟩
    rw [Nat.add_zero, e_X9_prepare_25 (hb := hb), h0, inbI (by omega) (by omega), e1, if_pos (nI_le (by omega) (by omega))]
  | c + 1, r, h, hr, h0, H => by
    obtain ⟨e1, e2, e3⟩ := fc_ok n (by omega)
    obtain ⟨h1, a1, a2, a3, a4⟩ := x_po X d tx tu gu tl (r := r) hb hn (by omega) h h0
    obtain ⟨h', b1, b2, b3⟩ := x_pr25 hb hn c (r + 1) h1 (by omega) (by rw [a1.F (by omega), h0]) (fun q hq i hi => by
      by_cases z : q = r
      · rw [z]; exact a2 i hi
      · rw [(a3 _ (by omega)).1, (a3 _ (by omega)).2]
        exact H q (by omega) i hi)
    refine ⟨h', a1.tr b1, b2, fun f => ?_⟩
    rw [show f + (c + 1) + 1 = f + c + 1 + 1 by omega, e_X9_prepare_25 (hb := hb), h0, inbI (by omega) (by omega), e1, if_neg (nI_ge (by omega) (by omega)), a4, bV_s, nI_1]
    exact b3 f
theorem nxI : ∀ a, a < 32 → ∀ c, c < 32 → nI a ^^^ nI c = nI (a ^^^ c) ∧ a ^^^ c < 32 := by decide +kernel
theorem x_behind {b n a j : Nat} (hb : TuA b tl) (hn : n ≤ 5) (ha : a < 32 * fc n) (hj : j < n) (h : DT) (H : TbOk h b n) : cal X (d + 1) 95 [vP (some b), vI (nI a), vI (nI (j + 1))] (SK tx tu gu tl, h) = some (some (vI (nI (spT n a j))), (SK tx tu gu tl, h)) := by
  have hf := (fc_ok n (by omega)).2.2
  have hr : a / 32 < fc n := by omega
  obtain ⟨t1, t2⟩ := H (a / 32) hr j hj
  have ti := tix hn hr hj
  obtain ⟨_, _, _, _, tk⟩ := tk_o (n := n) (r := a / 32) (by omega) hr
  obtain ⟨_, _, _, _, t5, _⟩ := tk j hj
  have q0 : nI a / 32 = nI (a / 32) := divI (d := 32) (by omega) (by omega) (by omega)
  have q1 : nI a - nI a / 32 * 32 = nI (a % 32) := remI (d := 32) (by omega) (by omega) (by omega)
  have q2 : nI (a / 32) * 5 + nI (j + 1) - 1 = nI (a / 32 * 5 + j) := by
    rw [show nI (a / 32) * 5 = nI (a / 32 * 5) from mulI _ 5, addI]
    exact subI (a := a / 32 * 5 + (j + 1)) (b := 1) (by omega)
  rw [c_X9_behind, e_X9_behind_0 (hb := hb), q1, q0, q2, inbI ti (by omega), inbI ti (by omega), t1, t2, (nxI _ (by omega) _ t5).1]
  refine rI ?_
  rw [show nI (obT n (a / 32 * 5 + j)) * 32 = nI (obT n (a / 32 * 5 + j) * 32) from mulI _ 32, addI]
  rfl
end PO
