/-! TURNS of the class: ranks, one order -/
theorem fac_i {n : Nat} (hn : n ≤ 5) {i : Nat} (hi : i < n) : nI n - 1 - nI i = nI (n - 1 - i) := by
  rw [show nI n - 1 = nI (n - 1) from subI (a := n) (b := 1) (by omega), subI (by omega)]
section RK
variable (X : XS) (d : Nat) (tx tu gu : Option Nat) (tl : List SC)
theorem x_rk17b {b n i : Nat} {L : Nat → Nat} (hb : TuA b tl) (hn : n ≤ 5) (hi : i < n) (h : DT) (hL : ∀ j, j < n → gA h (b + 1) j = nI (L j) ∧ L j < 5) (rank : Nat) : ∀ (c k lo f : Nat), k + c = n → m_X10_rankOf X d (f + c + 1) 17 [(0, vP (some (b + 1))), (1, vI (nI n)), (2, vI (nI rank)), (3, vI (nI i)), (4, vI (nI lo)), (5, vI (nI k))] [] (SK tx tu gu tl, h) = m_X10_rankOf X d f 4 [(0, vP (some (b + 1))), (1, vI (nI n)), (2, vI (nI (rank + (lo + ltC (L i) (lsF L c k)) * fc (n - 1 - i)))), (3, vI (nI (i + 1)))] [] (SK tx tu gu tl, h)
  | 0, k, lo, f, hk => by
    rw [e_X10_rankOfb_17 (hb := hb), if_pos (nI_le (by omega) (by omega)), fac_i hn hi, inbI (by omega) (by omega), (fc_ok (n - 1 - i) (by omega)).1, mulI, addI, nI_1]
    rfl
  | c + 1, k, lo, f, hk => by
    obtain ⟨a1, a2⟩ := hL k (by omega)
    obtain ⟨b1, b2⟩ := hL i hi
    have ec : lo + ltC (L i) (lsF L (c + 1) k) = lo + ((if L k < L i then 1 else 0) + ltC (L i) (lsF L c (k + 1))) := rfl
    rw [show f + (c + 1) + 1 = f + c + 1 + 1 by omega, e_X10_rankOfb_17 (hb := hb), if_neg (nI_ge (by omega) (by omega)), inbI (by omega) (by omega), inbI (by omega) (by omega), a1, b1, ec, nI_1, nI_1]
    by_cases y : L k < L i
    · rw [if_neg (nI_ge y (by omega)), if_pos y, x_rk17b hb hn hi h hL rank c (k + 1) (lo + 1) f (by omega), show lo + 1 + ltC (L i) (lsF L c (k + 1)) = lo + (1 + ltC (L i) (lsF L c (k + 1))) by omega]
    · rw [if_pos (nI_le (by omega) (by omega)), if_neg y, x_rk17b hb hn hi h hL rank c (k + 1) lo f (by omega), Nat.zero_add]
theorem x_rk4b {b n : Nat} {L : Nat → Nat} (hb : TuA b tl) (hn : n ≤ 5) (h : DT) (hL : ∀ j, j < n → gA h (b + 1) j = nI (L j) ∧ L j < 5) : ∀ (c i rank f : Nat), i + c = n → 10 * c + 1 ≤ f → m_X10_rankOf X d f 4 [(0, vP (some (b + 1))), (1, vI (nI n)), (2, vI (nI rank)), (3, vI (nI i))] [] (SK tx tu gu tl, h) = some (some (vI (nI (rank + rkL (lsF L c i)))), (SK tx tu gu tl, h))
  | 0, i, rank, f, hi, hf => by
    obtain ⟨f, rfl⟩ : ∃ g, f = g + 1 := ⟨f - 1, by omega⟩
    rw [e_X10_rankOfb_4 (hb := hb), if_pos (nI_le (by omega) (by omega))]
    rfl
  | c + 1, i, rank, f, hi, hf => by
    obtain ⟨f, rfl⟩ : ∃ g, f = g + c + 1 + 1 := ⟨f - c - 2, by omega⟩
    rw [e_X10_rankOfb_4 (hb := hb), if_neg (nI_ge (by omega) (by omega)), nI_1, show (0 : Int32) = nI 0 from rfl, x_rk17b X d tx tu gu tl hb hn (by omega) h hL rank c (i + 1) 0 f (by omega), x_rk4b hb hn h hL c (i + 1) _ f (by omega) (by omega)]
    refine rI (congrArg nI ?_)
    show _ = rank + (ltC (L i) (lsF L c (i + 1)) * fc (lsF L c (i + 1)).length + rkL (lsF L c (i + 1)))
    rw [lsF_len, show n - 1 - i = c by omega, Nat.zero_add, Nat.add_assoc]
theorem x_rankb {b n : Nat} {L : Nat → Nat} (hb : TuA b tl) (hn : n ≤ 5) (h : DT) (hL : ∀ j, j < n → gA h (b + 1) j = nI (L j) ∧ L j < 5) : cal X (d + 1) 158 [vP (some (b + 1)), vI (nI n)] (SK tx tu gu tl, h) = some (some (vI (nI (rkL (lsF L n 0)))), (SK tx tu gu tl, h)) := by
  rw [c_X10_rankOfb, e_X10_rankOfb_0 (hb := hb), show (0 : Int32) = nI 0 from rfl, x_rk4b X d tx tu gu tl hb hn h hL n 0 0 999999 (by omega) (by omega), Nat.zero_add]
theorem x_rk17r {n i : Nat} {L : Nat → Nat} (hn : n ≤ 5) (hi : i < n) (h : DT) (hL : ∀ j, j < n → gA h 5 j = nI (L j) ∧ L j < 5) (rank : Nat) : ∀ (c k lo f : Nat), k + c = n → m_X10_rankOf X d (f + c + 1) 17 [(0, vP (some 5)), (1, vI (nI n)), (2, vI (nI rank)), (3, vI (nI i)), (4, vI (nI lo)), (5, vI (nI k))] [] (SK tx tu gu tl, h) = m_X10_rankOf X d f 4 [(0, vP (some 5)), (1, vI (nI n)), (2, vI (nI (rank + (lo + ltC (L i) (lsF L c k)) * fc (n - 1 - i)))), (3, vI (nI (i + 1)))] [] (SK tx tu gu tl, h)
  | 0, k, lo, f, hk => by
    rw [e_X10_rankOfr_17, if_pos (nI_le (by omega) (by omega)), fac_i hn hi, inbI (by omega) (by omega), (fc_ok (n - 1 - i) (by omega)).1, mulI, addI, nI_1]
    rfl
  | c + 1, k, lo, f, hk => by
    obtain ⟨a1, a2⟩ := hL k (by omega)
    obtain ⟨b1, b2⟩ := hL i hi
    have ec : lo + ltC (L i) (lsF L (c + 1) k) = lo + ((if L k < L i then 1 else 0) + ltC (L i) (lsF L c (k + 1))) := rfl
    rw [show f + (c + 1) + 1 = f + c + 1 + 1 by omega, e_X10_rankOfr_17, if_neg (nI_ge (by omega) (by omega)), inbI (by omega) (by omega), inbI (by omega) (by omega), a1, b1, ec, nI_1, nI_1]
    by_cases y : L k < L i
    · rw [if_neg (nI_ge y (by omega)), if_pos y, x_rk17r hn hi h hL rank c (k + 1) (lo + 1) f (by omega), show lo + 1 + ltC (L i) (lsF L c (k + 1)) = lo + (1 + ltC (L i) (lsF L c (k + 1))) by omega]
    · rw [if_pos (nI_le (by omega) (by omega)), if_neg y, x_rk17r hn hi h hL rank c (k + 1) lo f (by omega), Nat.zero_add]
theorem x_rk4r {n : Nat} {L : Nat → Nat} (hn : n ≤ 5) (h : DT) (hL : ∀ j, j < n → gA h 5 j = nI (L j) ∧ L j < 5) : ∀ (c i rank f : Nat), i + c = n → 10 * c + 1 ≤ f → m_X10_rankOf X d f 4 [(0, vP (some 5)), (1, vI (nI n)), (2, vI (nI rank)), (3, vI (nI i))] [] (SK tx tu gu tl, h) = some (some (vI (nI (rank + rkL (lsF L c i)))), (SK tx tu gu tl, h))
  | 0, i, rank, f, hi, hf => by
    obtain ⟨f, rfl⟩ : ∃ g, f = g + 1 := ⟨f - 1, by omega⟩
    rw [e_X10_rankOfr_4, if_pos (nI_le (by omega) (by omega))]
    rfl
  | c + 1, i, rank, f, hi, hf => by
    obtain ⟨f, rfl⟩ : ∃ g, f = g + c + 1 + 1 := ⟨f - c - 2, by omega⟩
    rw [e_X10_rankOfr_4, if_neg (nI_ge (by omega) (by omega)), nI_1, show (0 : Int32) = nI 0 from rfl, x_rk17r X d tx tu gu tl hn (by omega) h hL rank c (i + 1) 0 f (by omega), x_rk4r hn h hL c (i + 1) _ f (by omega) (by omega)]
    refine rI (congrArg nI ?_)
    show _ = rank + (ltC (L i) (lsF L c (i + 1)) * fc (lsF L c (i + 1)).length + rkL (lsF L c (i + 1)))
    rw [lsF_len, show n - 1 - i = c by omega, Nat.zero_add, Nat.add_assoc]
theorem x_rankr {n : Nat} {L : Nat → Nat} (hn : n ≤ 5) (h : DT) (hL : ∀ j, j < n → gA h 5 j = nI (L j) ∧ L j < 5) : cal X (d + 1) 158 [vP (some 5), vI (nI n)] (SK tx tu gu tl, h) = some (some (vI (nI (rkL (lsF L n 0)))), (SK tx tu gu tl, h)) := by
  rw [c_X10_rankOfr, e_X10_rankOfr_0, show (0 : Int32) = nI 0 from rfl, x_rk4r X d tx tu gu tl hn h hL n 0 0 999999 (by omega) (by omega), Nat.zero_add]
theorem x_po27 {b n r m : Nat} {L : Nat → Nat} (hb : TuA b tl) (hn : n ≤ 5) (hm : m ≤ n) (h : DT) (hL : ∀ j, j < n → gA h (b + 1) j = nI (L j) ∧ L j < 5) : ∀ (c i a f : Nat), i + c = m → a < 32 → m_X9_prepareOrder X d (f + c + 1) 27 [(0, vP (some b)), (1, vI (nI r)), (2, vI (nI m)), (3, vI (nI a)), (4, vI (nI i))] [] (SK tx tu gu tl, h) = m_X9_prepareOrder X d f 59 [(0, vP (some b)), (1, vI (nI r)), (2, vI (nI m)), (3, vI (nI (bsG L c i a))), (4, vI 0), (5, vI (nI m - 1))] [] (SK tx tu gu tl, h)
  | 0, i, a, f, hi, ha => by
    rw [e_X9_prepareOrder_27 (hb := hb), if_pos (nI_le (by omega) (by omega))]
    rfl
  | c + 1, i, a, f, hi, ha => by
    obtain ⟨a1, a2⟩ := hL i (by omega)
    obtain ⟨q1, q2⟩ := bt_s2 a ha (L i) a2
    rw [show f + (c + 1) + 1 = f + c + 1 + 1 by omega, e_X9_prepareOrder_27 (hb := hb), if_neg (nI_ge (by omega) (by omega)), inbI (by omega) (by omega), a1, q1, nI_1]
    exact x_po27 hb hn hm h hL c (i + 1) (a ||| 2 ^ L i) f (by omega) q2
/-- sitters turned from both ends on -/
def rvP (L : Nat → Nat) (m low : Nat) : Nat → Nat := fun j => if j < m ∧ (j < low ∨ m - 1 - low < j) then L (m - 1 - j) else L j
theorem rvP_0 (L : Nat → Nat) (m : Nat) : rvP L m 0 = L := by
  funext j
  unfold rvP
  rw [if_neg (by omega)]
theorem rvP_e {L : Nat → Nat} {m low : Nat} (h : m - 1 - low ≤ low) (hl : low ≤ m) (j : Nat) : rvP L m low j = rvF L m j := by
  unfold rvP rvF
  by_cases g : j < m
  · rw [if_pos g]
    by_cases y : j < low ∨ m - 1 - low < j
    · rw [if_pos ⟨g, y⟩]
    · rw [if_neg (fun z => y z.2), show m - 1 - j = j by omega]
  · rw [if_neg g, if_neg (fun z => g z.1)]
theorem x_po59 {b n r m a : Nat} {L : Nat → Nat} (hb : TuA b tl) (hn : n ≤ 5) (h1m : 1 ≤ m) (hm : m ≤ n) : ∀ (c low : Nat) (h : DT), low + c = m → low ≤ m - 1 - low + 1 → (∀ j, j < n → gA h (b + 1) j = nI (rvP L m low j)) → ∃ h', (∀ j, j < n → gA h' (b + 1) j = nI (rvF L m j)) ∧ smX (fun c => c = b + 1) h h' ∧ ∀ F f, F + (c + 1) ≤ f → ∃ f', F ≤ f' ∧ m_X9_prepareOrder X d f 59 [(0, vP (some b)), (1, vI (nI r)), (2, vI (nI m)), (3, vI (nI a)), (4, vI (nI low)), (5, vI (zI (((m : Int) - 1) - low)))] [] (SK tx tu gu tl, h) = bI (cal X d 158 [vP (some (b + 1)), vI (gF h' b 0)] (SK tx tu gu tl, h')) fun r1 H1 => m_X9_prepareOrder X d f' 129 [(0, vP (some b)), (1, vI (nI r)), (2, vI (nI m)), (3, vI (nI a))] [vI r1, vI (((nI r * 5) + nI m) - 1), vP (some (b + 2))] H1
  | 0, low, h, hc, hlo, H => by
    refine ⟨h, fun j hj => by rw [H j hj, rvP_e (by omega) (by omega)], smX.rf _ h, fun F f hf => ?_⟩
    obtain ⟨f, rfl⟩ : ∃ g, f = g + 1 := ⟨f - 1, by omega⟩
    refine ⟨f, by omega, ?_⟩
    rw [e_X9_prepareOrder_59 (hb := hb), if_pos]
    rw [zI_nI, zI_le (by omega) (by omega) (by omega) (by omega)]
    omega
  | c + 1, low, h, hc, hlo, H => by
    by_cases g : m - 1 - low ≤ low
    · refine ⟨h, fun j hj => by rw [H j hj, rvP_e g (by omega)], smX.rf _ h, fun F f hf => ?_⟩
      obtain ⟨f, rfl⟩ : ∃ g, f = g + 1 := ⟨f - 1, by omega⟩
      refine ⟨f, by omega, ?_⟩
      rw [e_X9_prepareOrder_59 (hb := hb), if_pos]
      rw [zI_nI, zI_le (by omega) (by omega) (by omega) (by omega)]
      omega
    · have b95 := hb.b95
      have ez : zI (((m : Int) - 1) - low) = nI (m - 1 - low) := by rw [zI_nI]; congr 1; omega
      have v1 : gA h (b + 1) low = nI (L low) := by
        rw [H low (by omega)]
        unfold rvP
        rw [if_neg (by omega)]
      have v2 : gA h (b + 1) (m - 1 - low) = nI (L (m - 1 - low)) := by
        rw [H (m - 1 - low) (by omega)]
        unfold rvP
        rw [if_neg (by omega)]
      generalize hh : sA (sA h (b + 1) low (nI (L (m - 1 - low)))) (b + 1) (m - 1 - low) (nI (L low)) = h1
      have s1 : smX (fun c => c = b + 1) h h1 := by rw [← hh]; exact smX.tr (smX_sA rfl) (smX_sA rfl)
      obtain ⟨h', k1, k2, k3⟩ := x_po59 (r := r) (a := a) hb hn h1m hm c (low + 1) h1 (by omega) (by omega) (fun j hj => by
        rw [← hh, gA_sA, gA_sA]
        unfold rvP
        by_cases y1 : j = m - 1 - low
        · rw [if_pos ⟨rfl, y1⟩, if_pos (by omega), y1, show m - 1 - (m - 1 - low) = low by omega]
        · rw [if_neg (fun z => y1 z.2)]
          by_cases y2 : j = low
          · rw [if_pos ⟨rfl, y2⟩, if_pos (by omega), y2]
          · rw [if_neg (fun z => y2 z.2), H j hj]
            unfold rvP
            by_cases y3 : j < m ∧ (j < low ∨ m - 1 - low < j)
            · rw [if_pos y3, if_pos (by omega)]
            · rw [if_neg y3, if_neg (by omega)])
      refine ⟨h', k1, s1.tr k2, fun F f hf => ?_⟩
      obtain ⟨f, rfl⟩ : ∃ g, f = g + 1 := ⟨f - 1, by omega⟩
      obtain ⟨f', f1, f2⟩ := k3 F f (by omega)
      refine ⟨f', f1, ?_⟩
      have en : nI (m - 1 - low) + (-1) = zI (((m : Int) - 1) - ((low + 1 : Nat) : Int)) := by
        rw [zI_nI, show (-1 : Int32) = zI (-1) from rfl, zI_add]
        congr 1
        omega
      rw [ez, e_X9_prepareOrder_59 (hb := hb), if_neg (nI_ge (by omega) (by omega)), inbI (by omega) (by omega), inbI (by omega) (by omega), inbI (by omega) (by omega), inbI (by omega) (by omega), v1, v2, hh, nI_1, en]
      exact f2
end RK
