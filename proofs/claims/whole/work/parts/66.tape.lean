/-! THE TAPE: bytes -/
theorem bvs (b : BitVec 32) (s : Nat) (hs : s ≤ 24) : (b >>> s) &&& 255#32 = (b.sshiftRight s) &&& 255#32 := by
  apply BitVec.eq_of_getLsbD_eq
  intro i hi
  rw [BitVec.getLsbD_and, BitVec.getLsbD_and, BitVec.getLsbD_ushiftRight, BitVec.getLsbD_sshiftRight]
  by_cases h8 : i < 8
  · rw [if_pos (by omega), decide_eq_false (show ¬ 32 ≤ i by omega), Bool.not_false, Bool.true_and]
  · have : (255#32).getLsbD i = false := by
      have q : ∀ i : Fin 32, ¬ i.val < 8 → (255#32).getLsbD i.val = false := by decide
      exact q ⟨i, hi⟩ h8
    rw [this, Bool.and_false, Bool.and_false]
theorem bv24 (b : BitVec 32) : b >>> 24 = (b >>> 24) &&& 255#32 := by
  apply BitVec.eq_of_getLsbD_eq
  intro i hi
  rw [BitVec.getLsbD_and, BitVec.getLsbD_ushiftRight]
  by_cases h8 : i < 8
  · have : (255#32).getLsbD i = true := by
      have q : ∀ i : Fin 32, i.val < 8 → (255#32).getLsbD i.val = true := by decide
      exact q ⟨i, hi⟩ h8
    rw [this, Bool.and_true]
  · rw [BitVec.getLsbD_of_ge b (24 + i) (by omega), Bool.false_and]
theorem by24 (x : Int32) : (x.toUInt32 >>> ((24 : Int32).toUInt32 &&& Int32.toUInt32 31)).toInt32 = (x >>> ((24 : Int32) &&& 31)) &&& 255 := by
  apply Int32.toBitVec_inj.mp
  show x.toBitVec >>> 24 = (x.toBitVec.sshiftRight 24) &&& 255#32
  rw [bv24, bvs _ _ (by omega)]
theorem by16 (x : Int32) : (x.toUInt32 >>> ((16 : Int32).toUInt32 &&& Int32.toUInt32 31)).toInt32 &&& 255 = (x >>> ((16 : Int32) &&& 31)) &&& 255 := by
  apply Int32.toBitVec_inj.mp
  show (x.toBitVec >>> 16) &&& 255#32 = (x.toBitVec.sshiftRight 16) &&& 255#32
  exact bvs _ _ (by omega)
theorem by8 (x : Int32) : (x.toUInt32 >>> ((8 : Int32).toUInt32 &&& Int32.toUInt32 31)).toInt32 &&& 255 = (x >>> ((8 : Int32) &&& 31)) &&& 255 := by
  apply Int32.toBitVec_inj.mp
  show (x.toBitVec >>> 8) &&& 255#32 = (x.toBitVec.sshiftRight 8) &&& 255#32
  exact bvs _ _ (by omega)
theorem by0 (x : Int32) : x &&& 255 = (x >>> ((0 : Int32) &&& 31)) &&& 255 := by
  apply Int32.toBitVec_inj.mp
  show x.toBitVec &&& 255#32 = (x.toBitVec.sshiftRight 0) &&& 255#32
  rw [← bvs _ _ (by omega), BitVec.ushiftRight_zero]
theorem byN (x : Int32) : ∃ v, v < 256 ∧ x &&& 255 = nI v := by
  refine ⟨(x.toBitVec &&& 255#32).toNat, ?_, ?_⟩
  · rw [BitVec.toNat_and]
    exact Nat.lt_of_le_of_lt Nat.and_le_right (by decide)
  · apply Int32.toBitVec_inj.mp
    show x.toBitVec &&& 255#32 = BitVec.ofNat 32 (x.toBitVec &&& 255#32).toNat
    rw [BitVec.ofNat_toNat, BitVec.setWidth_eq]
/-- the tape of both: L bytes -/
def TP (h : DT) (L : Nat) : Prop := gF h 38 0 = nI L ∧ gF h 72 4 = nI L ∧ L ≤ 300 ∧ ∀ j, j < L → gA h 39 j = gA h 76 j ∧ ∃ v, v < 256 ∧ gA h 76 j = nI v
def bq (x : Int32) (j : Nat) : Int32 := if j = 0 then (x >>> ((24 : Int32) &&& 31)) &&& 255 else if j = 1 then (x >>> ((16 : Int32) &&& 31)) &&& 255 else if j = 2 then (x >>> ((8 : Int32) &&& 31)) &&& 255 else (x >>> ((0 : Int32) &&& 31)) &&& 255
theorem bq_b (x : Int32) (j : Nat) : ∃ v, v < 256 ∧ bq x j = nI v := by
  unfold bq
  split
  · exact byN _
  · split
    · exact byN _
    · split
      · exact byN _
      · exact byN _
/-- a row of numbers with four more -/
def ap4 (A : Nat → Int32) (L : Nat) (x : Int32) : Nat → Int32 := upd (upd (upd (upd A L (bq x 0)) (L + 1) (bq x 1)) (L + 2) (bq x 2)) (L + 3) (bq x 3)
def tF (h h' : DT) (c k : Nat) (m : Nat) : Prop := gF h' c k = nI m ∧ ∀ q, q ≠ k → gF h' c q = gF h c q
section TA
variable (X : XS) (d : Nat) (tx tu gu : Option Nat) (tl : List SC)
theorem x_app (h : DT) {L : Nat} (hL : gF h 38 0 = nI L) (h4 : L + 4 ≤ 300) (x : Int32) : ∃ h', cal X (d + 1) 25 [vP (some 38), vI x] (SK tx tu gu tl, h) = some (none, (SK tx tu gu tl, h')) ∧ tF h h' 38 0 (L + 4) ∧ gA h' 39 = ap4 (gA h 39) L x ∧ smX (fun c => c = 38 ∨ c = 39) h h' := by
  refine ⟨sF (wA h 39 (ap4 (gA h 39) L x)) 38 0 (nI (L + 4)), ?_, ⟨?_, fun q hq => ?_⟩, ?_, (smX_wA (by omega)).tr (smX_sF (by omega))⟩
  · rw [c_X4_append, e_X4_append_0, hL, by24, by16, by8, by0 x, litI 4, addI, litI 300, if_pos (nI_le (by omega) (by omega)), inbI (by omega) (by omega), nI_1, inbI (by omega) (by omega), litI 2, addI, inbI (by omega) (by omega), litI 3, addI, inbI (by omega) (by omega), sA_w, sA_w, gA_wA', wA_wA, sA_w, gA_wA', wA_wA, sA_w, gA_wA', wA_wA]
    rfl
  · rw [gF_sF, if_pos ⟨rfl, rfl⟩]
  · rw [gF_sF, if_neg (fun z => hq z.2)]
    rfl
  · show gA (wA h 39 _) 39 = _
    rw [gA_wA']
theorem k_fo1 (h : DT) {L : Nat} (hL : gF h 72 4 = nI L) (h4 : L < 300) (x x2 : Int32) (h2 : ¬ x2 < 0) : ∃ h', (∀ f, m_X11_four X d (f + 1) 3 [(0, vP (some 72)), (1, vI x), (2, vI x2)] [] (SK tx tu gu tl, h) = m_X11_four X d f 3 [(0, vP (some 72)), (1, vI x), (2, vI (x2 + (-8)))] [] (SK tx tu gu tl, h')) ∧ tF h h' 72 4 (L + 1) ∧ gA h' 76 = upd (gA h 76) L ((x >>> (x2 &&& 31)) &&& 255) ∧ smX (fun c => c = 72 ∨ c = 76) h h' := by
  refine ⟨sF (wA h 76 (upd (gA h 76) L ((x >>> (x2 &&& 31)) &&& 255))) 72 4 (nI (L + 1)), fun f => ?_, ⟨?_, fun q hq => ?_⟩, ?_, (smX_wA (by omega)).tr (smX_sF (by omega))⟩
  · rw [e_X11_four_3, if_neg h2, hL, inbI (by omega) (by omega), nI_1, sA_w]
  · rw [gF_sF, if_pos ⟨rfl, rfl⟩]
  · rw [gF_sF, if_neg (fun z => hq z.2)]
    rfl
  · show gA (wA h 76 _) 76 = _
    rw [gA_wA']
theorem tF.tr {a b c : DT} {e k m m' : Nat} (p : tF a b e k m) (q : tF b c e k m') : tF a c e k m' := ⟨q.1, fun z hz => (q.2 z hz).trans (p.2 z hz)⟩
theorem k_four (h : DT) {L : Nat} (hL : gF h 72 4 = nI L) (h4 : L + 4 ≤ 300) (x : Int32) : ∃ h', cal X (d + 1) 176 [vP (some 72), vI x] (SK tx tu gu tl, h) = some (none, (SK tx tu gu tl, h')) ∧ tF h h' 72 4 (L + 4) ∧ gA h' 76 = ap4 (gA h 76) L x ∧ smX (fun c => c = 72 ∨ c = 76) h h' := by
  obtain ⟨h1, a1, a2, a3, a4⟩ := k_fo1 X d tx tu gu tl h hL (by omega) x 24 (by decide)
  obtain ⟨h2, b1, b2, b3, b4⟩ := k_fo1 X d tx tu gu tl h1 a2.1 (by omega) x 16 (by decide)
  obtain ⟨h3, c1, c2, c3, c4⟩ := k_fo1 X d tx tu gu tl h2 b2.1 (by omega) x 8 (by decide)
  obtain ⟨h5, d1, d2, d3, d4⟩ := k_fo1 X d tx tu gu tl h3 c2.1 (by omega) x 0 (by decide)
  refine ⟨h5, ?_, ((a2.tr b2).tr c2).tr d2, ?_, ((a4.tr b4).tr c4).tr d4⟩
  · rw [c_X11_four, e_X11_four_0, a1 999998, show (24 : Int32) + (-8) = 16 by decide, b1 999997, show (16 : Int32) + (-8) = 8 by decide, c1 999996, show (8 : Int32) + (-8) = 0 by decide, d1 999995, e_X11_four_3, if_pos (by decide)]
  · rw [d3, c3, b3, a3]
    rfl
theorem ap4_n {A : Nat → Int32} {L j : Nat} {x : Int32} (h : j < L) : ap4 A L x j = A j := by
  unfold ap4
  rw [pk_un (by omega), pk_un (by omega), pk_un (by omega), pk_un (by omega)]
theorem ap4_s {A : Nat → Int32} {L j : Nat} {x : Int32} (h : j < 4) : ap4 A L x (L + j) = bq x j := by
  unfold ap4
  obtain rfl | rfl | rfl | rfl : j = 0 ∨ j = 1 ∨ j = 2 ∨ j = 3 := by omega
  · rw [pk_un (by omega), pk_un (by omega), pk_un (by omega)]
    show upd A L (bq x 0) L = bq x 0
    rw [pk_us]
  · rw [pk_un (by omega), pk_un (by omega), pk_us]
  · rw [pk_un (by omega), pk_us]
  · rw [pk_us]
theorem TP4 {A B : Nat → Int32} {L : Nat} (x : Int32) (H : ∀ j, j < L → A j = B j ∧ ∃ v, v < 256 ∧ B j = nI v) : ∀ j, j < L + 4 → ap4 A L x j = ap4 B L x j ∧ ∃ v, v < 256 ∧ ap4 B L x j = nI v := fun j hj => by
  by_cases z : j < L
  · rw [ap4_n z, ap4_n z]
    exact H j z
  · obtain ⟨i, rfl⟩ : ∃ i, j = L + i := ⟨j - L, by omega⟩
    rw [ap4_s (by omega), ap4_s (by omega)]
    exact ⟨rfl, bq_b x i⟩
theorem op_feed (h : DT) {L : Nat} (H : TP h L) (x1 x2 x3 x4 x5 : Int32) : ∃ v h1 h2 L', cal X 100 101 [vP (some 0), vI x1, vI x2, vI x3, vI x4, vI x5] (SK tx tu gu tl, h) = some (some v, (SK tx tu gu tl, h1)) ∧ cal X 100 177 [vP (some 72), vI x1, vI x2, vI x3, vI x4, vI x5] (SK tx tu gu tl, h1) = some (some v, (SK tx tu gu tl, h2)) ∧ smX (fun c => c = 38 ∨ c = 39) h h1 ∧ (∀ q, q ≠ 0 → gF h1 38 q = gF h 38 q) ∧ smX (fun c => c = 72 ∨ c = 76) h1 h2 ∧ (∀ q, q ≠ 4 → gF h2 72 q = gF h1 72 q) ∧ TP h2 L' := by
  obtain ⟨t1, t2, t3, t4⟩ := id H
  by_cases hl : L + 20 ≤ 300
  · obtain ⟨g1, a1, a2, a3, a4⟩ := x_app X 98 tx tu gu tl h t1 (by omega) x1
    obtain ⟨g2, b1, b2, b3, b4⟩ := x_app X 98 tx tu gu tl g1 a2.1 (by omega) x2
    obtain ⟨g3, c1, c2, c3, c4⟩ := x_app X 98 tx tu gu tl g2 b2.1 (by omega) x3
    obtain ⟨g4, d1, d2, d3, d4⟩ := x_app X 98 tx tu gu tl g3 c2.1 (by omega) x4
    obtain ⟨g5, e1, e2, e3, e4⟩ := x_app X 98 tx tu gu tl g4 d2.1 (by omega) x5
    have s5 := (((a4.tr b4).tr c4).tr d4).tr e4
    have u4 : gF g5 72 4 = nI L := by rw [smF s5 (by omega)]; exact t2
    obtain ⟨k1, A1, A2, A3, A4⟩ := k_four X 98 tx tu gu tl g5 u4 (by omega) x1
    obtain ⟨k2, B1, B2, B3, B4⟩ := k_four X 98 tx tu gu tl k1 A2.1 (by omega) x2
    obtain ⟨k3, C1, C2, C3, C4⟩ := k_four X 98 tx tu gu tl k2 B2.1 (by omega) x3
    obtain ⟨k4, D1, D2, D3, D4⟩ := k_four X 98 tx tu gu tl k3 C2.1 (by omega) x4
    obtain ⟨k5, E1, E2, E3, E4⟩ := k_four X 98 tx tu gu tl k4 D2.1 (by omega) x5
    have S5 := (((A4.tr B4).tr C4).tr D4).tr E4
    refine ⟨vI (nI (L + 4 + 4 + 4 + 4 + 4)), g5, k5, L + 4 + 4 + 4 + 4 + 4, ?_, ?_, s5, ((((a2.tr b2).tr c2).tr d2).tr e2).2, S5, ((((A2.tr B2).tr C2).tr D2).tr E2).2, ?_, E2.1, by omega, ?_⟩
    · rw [c_X10_feed, e_X10_feed_0, t1, litI 20, addI, litI 300, if_pos (nI_le (by omega) (by omega)), a1, bV_s, e_X10_feed_26, b1, bV_s, e_X10_feed_34, c1, bV_s, e_X10_feed_42, d1, bV_s, e_X10_feed_51, e1, bV_s, e_X10_feed_60, e2.1]
    · rw [c_X11_feed, e_X11_feed_0, u4, litI 20, addI, litI 300, if_pos (nI_le (by omega) (by omega)), A1, bV_s, e_X11_feed_20, B1, bV_s, e_X11_feed_25, C1, bV_s, e_X11_feed_30, D1, bV_s, e_X11_feed_36, E1, bV_s, e_X11_feed_42, E2.1]
    · rw [smF S5 (by omega)]
      exact e2.1
    · rw [smA S5 (by omega), e3, d3, c3, b3, a3, E3, D3, C3, B3, A3, smA s5 (by omega)]
      exact TP4 x5 (TP4 x4 (TP4 x3 (TP4 x2 (TP4 x1 t4))))
  · refine ⟨vI (-1), h, h, L, ?_, ?_, smX.rf _ h, fun _ _ => rfl, smX.rf _ h, fun _ _ => rfl, H⟩
    · rw [c_X10_feed, e_X10_feed_0, t1, litI 20, addI, litI 300, if_neg (nI_ge (by omega) (by omega))]
    · rw [c_X11_feed, e_X11_feed_0, t2, litI 20, addI, litI 300, if_neg (nI_ge (by omega) (by omega))]
theorem op_end (h : DT) {L : Nat} (H : TP h L) (x : Int32) : ∃ v h1 h2 L', cal X 100 102 [vP (some 0), vI x] (SK tx tu gu tl, h) = some (some v, (SK tx tu gu tl, h1)) ∧ cal X 100 178 [vP (some 72), vI x] (SK tx tu gu tl, h1) = some (some v, (SK tx tu gu tl, h2)) ∧ smX (fun c => c = 38) h h1 ∧ (∀ q, q ≠ 0 → gF h1 38 q = gF h 38 q) ∧ smX (fun c => c = 72) h1 h2 ∧ (∀ q, q ≠ 4 → gF h2 72 q = gF h1 72 q) ∧ TP h2 L' := by
  obtain ⟨t1, t2, t3, t4⟩ := id H
  rcases rg_cs x 0 L (by omega) with ⟨m, m1, m2, rfl, hd⟩ | hd
  · replace hd : (decide (0 ≤ nI m) && decide (nI m ≤ nI L)) = true := hd
    have s1 : smX (fun c => c = 38) h (sF h 38 0 (nI m)) := smX_sF rfl
    have s2 : smX (fun c => c = 72) (sF h 38 0 (nI m)) (sF (sF h 38 0 (nI m)) 72 4 (nI m)) := smX_sF rfl
    refine ⟨vI (nI m), sF h 38 0 (nI m), sF (sF h 38 0 (nI m)) 72 4 (nI m), m, ?_, ?_, s1, fun q hq => ?_, s2, fun q hq => ?_, ?_, ?_, by omega, fun j hj => ?_⟩
    · rw [c_X10_end, e_X10_end_0, x_within, t1, hd, bz_t, bI_s, e_X10_end_12, if_neg one0]
    · rw [c_X11_end, e_X11_end_0, k_isIn, smF s1 (by omega), t2, hd, bz_t, bI_s, e_X11_end_9, if_neg one0]
    · rw [gF_sF, if_neg (fun z => hq z.2)]
    · rw [gF_sF, if_neg (fun z => hq z.2)]
    · rw [smF s2 (by omega), gF_sF, if_pos ⟨rfl, rfl⟩]
    · rw [gF_sF, if_pos ⟨rfl, rfl⟩]
    · rw [smA s2 (by omega), smA s2 (by omega), smA s1 (by omega), smA s1 (by omega)]
      exact t4 j (by omega)
  · replace hd : (decide (0 ≤ x) && decide (x ≤ nI L)) = false := hd
    refine ⟨vI (-1), h, h, L, ?_, ?_, smX.rf _ h, fun _ _ => rfl, smX.rf _ h, fun _ _ => rfl, H⟩
    · rw [c_X10_end, e_X10_end_0, x_within, t1, hd, bz_f, bI_s, e_X10_end_12, if_pos rfl]
    · rw [c_X11_end, e_X11_end_0, k_isIn, t2, hd, bz_f, bI_s, e_X11_end_9, if_pos rfl]
end TA
