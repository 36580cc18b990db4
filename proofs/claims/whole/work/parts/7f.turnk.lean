/-! TURNS of the reference: one turn, an order's number -/
def xoR (R : Nat → Nat) (m : Nat) : Nat → Nat → Nat
  | 0, t => t
  | k + 1, t => xoR R m k (if k < m then t ^^^ 2 ^ R k else t)
theorem xoR_x (R : Nat → Nat) (m : Nat) : ∀ k t, xoR R m k t = t ^^^ xoR R m k 0
  | 0, t => by
    show t = t ^^^ 0
    rw [Nat.xor_zero]
  | k + 1, t => by
    show xoR R m k (if k < m then t ^^^ 2 ^ R k else t) = t ^^^ xoR R m k (if k < m then 0 ^^^ 2 ^ R k else 0)
    by_cases z : k < m
    · rw [if_pos z, if_pos z, xoR_x R m k (t ^^^ 2 ^ R k), xoR_x R m k (0 ^^^ 2 ^ R k), Nat.xor_assoc, Nat.zero_xor]
    · rw [if_neg z, if_neg z, xoR_x R m k t]
set_option maxRecDepth 100000 in
theorem ck5_t : allB (fun n => allB (fun r => allB (fun j => xoR (rvF (rw5 n r) (j + 1)) (j + 1) n 0 == tbT n (r * 5 + j)) n) (fc n)) 6 = true := by decide +kernel
theorem tk_x {n r j : Nat} (hn : n < 6) (hr : r < fc n) (hj : j < n) : xoR (rvF (rw5 n r) (j + 1)) (j + 1) n 0 = tbT n (r * 5 + j) := beq_iff_eq.mp (allB_h (allB_h (allB_h ck5_t n hn) r hr) j hj)
theorem bt_x2 : ∀ t, t < 32 → ∀ q, q < 5 → nI t ^^^ ((1 : Int32) <<< (nI q &&& 31)) = nI (t ^^^ 2 ^ q) ∧ t ^^^ 2 ^ q < 32 := by decide +kernel
theorem ph_lt {n a : Nat} (hn : n ≤ 5) (ha : a < 32 * fc n) : phT n a < 100000 := by
  have := (tk_o (n := n) (r := a / 32) (by omega) (by omega)).1
  unfold phT
  omega
theorem ph_in {n a b : Nat} (hn : n ≤ 5) (ha : a < 32 * fc n) (hb : b < 32 * fc n) (h : phT n a = phT n b) : a = b := by
  unfold phT at h
  have := tk_i (n := n) (r := a / 32) (q := b / 32) (by omega) (by omega) (by omega) (by omega)
  omega
section TK
variable (X : XS) (d : Nat) (tx tu gu : Option Nat) (tl : List SC)
theorem k_tu8 {n : Nat} {L : Nat → Nat} (x1 x2 : Int32) (hn : n ≤ 5) (hL : ∀ i, i < n → L i < 5) : ∀ (c i : Nat) (h : DT), i + c = n → c5 (lsF L c i) < 3125 → gA h 73 0 = nI n → (∀ k, k < i → gA h 85 k = nI (L k)) → ∃ h', smX (fun c => c = 85) h h' ∧ (∀ k, k < n → gA h' 85 k = nI (L k)) ∧ ∀ f, m_X11_turned X d (f + c + 1) 8 [(0, vP (some 72)), (1, vI x1), (2, vI x2), (3, vI (nI (c5 (lsF L c i)))), (4, vI (nI i))] [] (SK tx tu gu tl, h) = m_X11_turned X d f 58 [(0, vP (some 72)), (2, vI x2), (4, vI (x1 - x1 / 32 * 32)), (5, vI 0), (6, vI (nI n - 1))] [] (SK tx tu gu tl, h')
  | 0, i, h, hi, hc, h0, H => by
    refine ⟨h, smX.rf _ h, fun k hk => H k (by omega), fun f => ?_⟩
    rw [Nat.add_zero, e_X11_turned_8, h0, if_pos (nI_le (by omega) (by omega))]
  | c + 1, i, h, hi, hc, h0, H => by
    have hl := hL i (by omega)
    have ec : c5 (lsF L (c + 1) i) = L i + 5 * c5 (lsF L c (i + 1)) := rfl
    rw [ec] at hc ⊢
    have q1 : nI (L i + 5 * c5 (lsF L c (i + 1))) / 5 = nI (c5 (lsF L c (i + 1))) := by
      rw [show nI (L i + 5 * c5 (lsF L c (i + 1))) / 5 = nI ((L i + 5 * c5 (lsF L c (i + 1))) / 5) from divI (d := 5) (by omega) (by omega) (by omega)]
      congr 1
      omega
    have q2 : nI (L i + 5 * c5 (lsF L c (i + 1))) - nI (L i + 5 * c5 (lsF L c (i + 1))) / 5 * 5 = nI (L i) := by
      rw [show nI (L i + 5 * c5 (lsF L c (i + 1))) - nI (L i + 5 * c5 (lsF L c (i + 1))) / 5 * 5 = nI ((L i + 5 * c5 (lsF L c (i + 1))) % 5) from remI (d := 5) (by omega) (by omega) (by omega)]
      congr 1
      omega
    obtain ⟨h', a1, a2, a3⟩ := k_tu8 x1 x2 hn hL c (i + 1) (sA h 85 i (nI (L i))) (by omega) (by omega) (by rw [gA_sA, if_neg (by omega), h0]) (fun k hk => by
      rw [gA_sA]
      by_cases z : k = i
      · rw [if_pos ⟨rfl, z⟩, z]
      · rw [if_neg (fun y => z y.2), H k (by omega)])
    refine ⟨h', smX.tr (smX_sA rfl) a1, a2, fun f => ?_⟩
    rw [show f + (c + 1) + 1 = f + c + 1 + 1 by omega, e_X11_turned_8, h0, if_neg (nI_ge (by omega) (by omega)), inbI (by omega) (by omega), q2, q1, nI_1]
    exact a3 f
theorem k_tu58 {n m : Nat} {L : Nat → Nat} (hn : n ≤ 5) (hm : m ≤ n) (hL : ∀ i, i < n → L i < 5) (h : DT) (H : ∀ k, k < n → gA h 85 k = nI (L k)) : ∀ (k c t f : Nat), k + c = n → t < 32 → 2 * k + 1 ≤ f → xoR (rvF L m) m k t < 32 ∧ m_X11_turned X d f 58 [(0, vP (some 72)), (2, vI (nI m)), (4, vI (nI t)), (5, vI (nI (c5 (lsF (rvF L m) c k)))), (6, vI (zI ((k : Int) - 1)))] [] (SK tx tu gu tl, h) = some (some (vI (nI (32 * c5 (lsF (rvF L m) n 0) + xoR (rvF L m) m k t))), (SK tx tu gu tl, h))
  | 0, c, t, f, hk, ht, hf => by
    obtain ⟨f, rfl⟩ : ∃ g, f = g + 1 := ⟨f - 1, by omega⟩
    refine ⟨ht, ?_⟩
    rw [e_X11_turned_58, if_pos (show zI (((0 : Nat) : Int) - 1) < 0 by decide +kernel), show (32 : Int32) = nI 32 from rfl, mulI, addI, show c = n by omega]
    rfl
  | k + 1, c, t, f, hk, ht, hf => by
    obtain ⟨f, rfl⟩ : ∃ g, f = g + 1 + 1 := ⟨f - 2, by omega⟩
    have e6 : zI (((k + 1 : Nat) : Int) - 1) = nI k := by
      rw [zI_nI]
      congr 1
      omega
    have e7 : nI k + (-1) = zI ((k : Int) - 1) := by
      rw [zI_nI, show (-1 : Int32) = zI (-1) from rfl, zI_add]
      rfl
    have n0 : ¬ nI k < 0 := by
      rw [show (0 : Int32) = nI 0 from rfl, ltI (by omega) (by omega)]
      omega
    have hR : rvF L m k < 5 := rvF_lt hm hL (by omega)
    have e5 : (5 : Int32) * nI (c5 (lsF (rvF L m) c (k + 1))) + nI (rvF L m k) = nI (c5 (lsF (rvF L m) (c + 1) k)) := by
      rw [show (5 : Int32) = nI 5 from rfl, mulI, addI, Nat.add_comm]
      rfl
    by_cases z : k < m
    · have hv : rvF L m k = L (m - 1 - k) := by unfold rvF; rw [if_pos z]
      obtain ⟨p1, p2⟩ := bt_x2 t ht _ hR
      obtain ⟨r1, r2⟩ := k_tu58 hn hm hL h H k (c + 1) (t ^^^ 2 ^ rvF L m k) f (by omega) p2 (by omega)
      have ex : xoR (rvF L m) m (k + 1) t = xoR (rvF L m) m k (t ^^^ 2 ^ rvF L m k) := by
        show xoR (rvF L m) m k (if k < m then t ^^^ 2 ^ rvF L m k else t) = _
        rw [if_pos z]
      rw [ex]
      refine ⟨r1, ?_⟩
      have ei : nI m - 1 - nI k = nI (m - 1 - k) := by rw [show nI m - 1 = nI (m - 1) from subI (a := m) (b := 1) (by omega), subI (by omega)]
      rw [e6, e_X11_turned_58, if_neg n0, if_neg (nI_ge (by omega) (by omega)), ei, inbI (by omega) (by omega), H (m - 1 - k) (by omega), ← hv, e_X11_turned_90, if_neg (nI_ge (by omega) (by omega)), p1, e5, e7]
      exact r2
    · have hv : rvF L m k = L k := by unfold rvF; rw [if_neg z]
      obtain ⟨r1, r2⟩ := k_tu58 hn hm hL h H k (c + 1) t f (by omega) ht (by omega)
      have ex : xoR (rvF L m) m (k + 1) t = xoR (rvF L m) m k t := by
        show xoR (rvF L m) m k (if k < m then t ^^^ 2 ^ rvF L m k else t) = _
        rw [if_neg z]
      rw [ex]
      refine ⟨r1, ?_⟩
      rw [e6, e_X11_turned_58, if_neg n0, if_pos (nI_le (by omega) (by omega)), inbI (by omega) (by omega), H k (by omega), ← hv, e_X11_turned_90, if_pos (nI_le (by omega) (by omega)), e5, e7]
      exact r2
theorem k_turned {n a j : Nat} (hn : n ≤ 5) (ha : a < 32 * fc n) (hj : j < n) (h : DT) (h0 : gA h 73 0 = nI n) : ∃ h', cal X (d + 1) 262 [vP (some 72), vI (nI (phT n a)), vI (nI (j + 1))] (SK tx tu gu tl, h) = some (some (vI (nI (phT n (spT n a j)))), (SK tx tu gu tl, h')) ∧ smX (fun c => c = 85) h h' := by
  have hr : a / 32 < fc n := by omega
  have hp := ph_lt hn ha
  obtain ⟨t1, t2, t3, t4, tk⟩ := tk_o (n := n) (r := a / 32) (by omega) hr
  obtain ⟨u1, u2, u3, u4, u5, u6⟩ := tk j hj
  have hL5 : ∀ i, i < n → rw5 n (a / 32) i < 5 := fun i hi => rw5_lt hn hr hi
  have q1 : nI (phT n a) / 32 = nI (c5 (lsF (rw5 n (a / 32)) n 0)) := by
    rw [show nI (phT n a) / 32 = nI (phT n a / 32) from divI (d := 32) (by omega) (by omega) (by omega), t4, ← t2]
    congr 1
    unfold phT
    omega
  have q2 : nI (phT n a) - nI (phT n a) / 32 * 32 = nI (a % 32) := by
    rw [show nI (phT n a) - nI (phT n a) / 32 * 32 = nI (phT n a % 32) from remI (d := 32) (by omega) (by omega) (by omega)]
    congr 1
    unfold phT
    omega
  obtain ⟨h', a1, a2, a3⟩ := k_tu8 X d tx tu gu tl (n := n) (L := rw5 n (a / 32)) (nI (phT n a)) (nI (j + 1)) hn hL5 n 0 h (by omega) (by rw [t4, ← t2]; exact t1) h0 (fun k hk => by omega)
  refine ⟨h', ?_, a1⟩
  obtain ⟨b1, b2⟩ := k_tu58 X d tx tu gu tl (m := j + 1) hn (by omega) hL5 h' a2 n 0 (a % 32) (999998 - n) (by omega) (by omega) (by omega)
  have a4 := a3 (999998 - n)
  rw [show 999998 - n + n + 1 = 999999 by omega] at a4
  rw [c_X11_turned, e_X11_turned_0, q1]
  refine Eq.trans a4 ?_
  rw [q2, show nI n - 1 = zI ((n : Int) - 1) by rw [zI_nI, show (1 : Int32) = zI 1 from rfl, zI_sub]]
  refine Eq.trans b2 (rI (congrArg nI ?_))
  have hx := (nxI (a % 32) (by omega) _ u5).2
  rw [xoR_x, tk_x (by omega) hr hj, u6, ← u2, ← (tk_o (n := n) (by omega) u4).2.1]
  unfold phT spT
  generalize obT n (a / 32 * 5 + j) = o at *
  generalize a % 32 ^^^ tbT n (a / 32 * 5 + j) = x at *
  rw [show (o * 32 + x) / 32 = o by omega, show (o * 32 + x) % 32 = x by omega]
end TK
