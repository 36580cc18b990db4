/-! AGES of draws -/
def agM (A : Nat → Int32) (n x : Nat) : Nat → Int32 :=
  if x % 7 = 0 then (if x % n = x / 7 % n then A else swpF A (x % n) (x / 7 % n))
  else if x % 7 = 1 then turnF A (1 + x / 7 % n)
  else if x % 7 = 2 then upd A 10 (A 10 ||| ((1 : Int32) <<< (nI (x % n) &&& 31)))
  else upd A 10 (A 10 &&& (((1 : Int32) <<< (nI (x % n) &&& 31)) ^^^ (-1)))
def agX (A : Nat → Int32) (x : Nat) : Nat → Int32 := upd A 8 (nI ((x * 577 + 449) % 30809))
def ag1 (o : Option Cd) (n : Nat) (A : Nat → Int32) (x : Nat) : Nat → Int32 :=
  if x % 7 < 4 then (if n = 0 then A else agM A n x) else if yOf A < 9999 then pasF o n true A (xOf A) (yOf A) else A
def agI (o : Option Cd) (n : Nat) : Nat → (Nat → Int32) → Nat → Int32
  | 0, A => A
  | c + 1, A => agI o n c (ag1 o n (agX A (xOf A)) (xOf A))
theorem Inv.ux {A : Nat → Int32} {n t k x : Nat} (H : Inv A n t k) (hx : x < 30809) : Inv (upd A 8 (nI x)) n t k := by
  refine H.rw (fun i h1 h2 => pk_un (by omega)) ?_
  obtain ⟨r0, r1, r2, r3, r4, r5, r6, r7, r8, r9⟩ := H.2.2.2.1
  refine ⟨r0, ?_, ⟨x, hx, pk_us⟩, ?_, ?_, ?_, fun i hi => ?_, fun i hi1 hi => ?_, fun s hs => ?_, fun p hp => ?_⟩
  · rw [pk_un (by omega)]; exact r1
  · rw [pk_un (by omega)]; exact r3
  · rw [pk_un (by omega)]; exact r4
  · rw [pk_un (by omega)]; exact r5
  · rw [pk_un (by omega)]; exact r6 i hi
  · rw [pk_un (by omega), pk_un (by omega)]; exact r7 i hi1 hi
  · rw [pk_un (by omega)]; exact r8 s hs
  · obtain ⟨s, hs, e2⟩ := r9 p hp
    exact ⟨s, hs, by rw [pk_un (by omega)]; exact e2⟩
theorem Inv.mv {A : Nat → Int32} {n t k : Nat} (H : Inv A n t k) (hn : n ≠ 0) (x : Nat) : Inv (agM A n x) n t k := by
  have hn5 := H.1.2.1
  have m1 : x % n < n := Nat.mod_lt _ (by omega)
  have m2 : x / 7 % n < n := Nat.mod_lt _ (by omega)
  obtain ⟨q, hq, e⟩ := H.pq
  unfold agM
  by_cases r0 : x % 7 = 0
  · rw [if_pos r0]
    by_cases g : x % n = x / 7 % n
    · rw [if_pos g]; exact H
    · rw [if_neg g]; exact H.sw m1 m2
  rw [if_neg r0]
  by_cases r1 : x % 7 = 1
  · rw [if_pos r1]; exact H.tu (by omega)
  rw [if_neg r1]
  by_cases r2 : x % 7 = 2
  · rw [if_pos r2, e]
    obtain ⟨c, hc, ec⟩ := bt_set q hq (x % n) (by omega)
    rw [ec]; exact H.u10 hc
  · rw [if_neg r2, e]
    obtain ⟨c, hc, ec⟩ := bt_clr q hq (x % n) (by omega)
    rw [ec]; exact H.u10 hc
theorem Inv.ag {o : Option Cd} {A : Nat → Int32} {n t k : Nat} (H : Inv A n t k) (x : Nat) : Inv (ag1 o n A x) n t k := by
  unfold ag1
  by_cases g : x % 7 < 4
  · rw [if_pos g]
    by_cases g0 : n = 0
    · rw [if_pos g0]; exact H
    · rw [if_neg g0]; exact H.mv g0 x
  · rw [if_neg g]
    by_cases g1 : yOf A < 9999
    · rw [if_pos g1]; exact H.pa g1
    · rw [if_neg g1]; exact H
theorem Inv.agI {o : Option Cd} {n t k : Nat} : ∀ (c : Nat) (A : Nat → Int32), Inv A n t k → Inv (agI o n c A) n t k
  | 0, A, H => H
  | c + 1, A, H => Inv.agI c _ ((H.ux (Nat.mod_lt _ (by omega))).ag _)
theorem swps_o {m i : Nat} (h : ¬ (17 ≤ i ∧ i < 22)) (hm : m ≤ 5) : ∀ (c s : Nat) (A : Nat → Int32), s + c ≤ m / 2 → swps m s c A i = A i
  | 0, s, A, hs => rfl
  | c + 1, s, A, hs => (swps_o h hm c (s + 1) _ (by omega)).trans (swpF_o (by omega) (by omega))
theorem ngs_o {n t k m i : Nat} (h : ¬ (12 ≤ i ∧ i < 17)) (hm : m ≤ n) : ∀ (c s : Nat) (A : Nat → Int32), s + c = m → Inv A n t k → ngs s c A i = A i
  | 0, s, A, hs, H => rfl
  | c + 1, s, A, hs, H => by
    obtain ⟨p, hp, e⟩ := H.at (s := s) (by omega)
    have hn := H.1.2.1
    refine (ngs_o h hm c (s + 1) _ (by omega) (H.ng hp e)).trans ?_
    unfold ngF
    rw [e, clI (by omega)]
    exact pk_un (by omega)
theorem turnF_o {A : Nat → Int32} {n t k m i : Nat} (H : Inv A n t k) (hm : m ≤ n) (h : ¬ (12 ≤ i ∧ i < 22)) : turnF A m i = A i := by
  have hn := H.1.2.1
  unfold turnF
  rw [ngs_o (by omega) hm m 0 _ (by omega) (Inv.sws hm (m / 2) 0 A (by omega) H), swps_o (by omega) (by omega) (m / 2) 0 A (by omega)]
theorem ag1_2 {o : Option Cd} {A : Nat → Int32} {n t k : Nat} (H : Inv A n t k) (x : Nat) : ag1 o n A x 2 = A 2 := by
  have hn5 := H.1.2.1
  unfold ag1
  by_cases g : x % 7 < 4
  · rw [if_pos g]
    by_cases g0 : n = 0
    · rw [if_pos g0]
    · have m1 : x % n < n := Nat.mod_lt _ (by omega)
      have m2 : x / 7 % n < n := Nat.mod_lt _ (by omega)
      rw [if_neg g0]
      unfold agM
      by_cases r0 : x % 7 = 0
      · rw [if_pos r0]
        by_cases g : x % n = x / 7 % n
        · rw [if_pos g]
        · rw [if_neg g]; exact swpF_o (by omega) (by omega)
      rw [if_neg r0]
      by_cases r1 : x % 7 = 1
      · rw [if_pos r1]; exact turnF_o H (by omega) (by omega)
      rw [if_neg r1]
      by_cases r2 : x % 7 = 2
      · rw [if_pos r2]; exact pk_un (by omega)
      · rw [if_neg r2]; exact pk_un (by omega)
  · rw [if_neg g]
    by_cases g1 : yOf A < 9999
    · rw [if_pos g1]; exact pasF_o H.rv (by omega) (by omega)
    · rw [if_neg g1]
section AG
variable (X : XS) (d : Nat) (tx tu gu : Option Nat) (tl : List SC)
theorem x_setPr (h : DT) {q : Int32} (eq : gF h 1 1 = q) (x y : Int32) : cal X (d + 2) 65 [vP (some 1), vI x, vI y] (SK tx tu gu tl, h) = some (none, (SK tx tu gu tl, sF h 1 1 (if y = 0 then q &&& ((1 <<< (x &&& 31)) ^^^ (-1)) else q ||| (1 <<< (x &&& 31))))) := by
  rw [c_X5_setProp, e_X5_setProp_0 (hp := Or.inl rfl), eq, x_withBit X tx tu gu tl h d, bI_s, e_X5_setProp_10 (hp := Or.inl rfl)]
theorem nmI {a b : Nat} (ha : a < 2147483648) (hb : 0 < b) (hb2 : b < 2147483648) : nI a - nI a / nI b * nI b = nI (a % b) := remI ha hb hb2
theorem x_moveA {n t k x : Nat} (h : DT) {A : Nat → Int32} (HI : Inv A n t k) (HX : XA h A k) (hn0 : n ≠ 0) (hx : x < 40000) (h7 : x % 7 < 4) : ∃ h1, cal X (d + 4) 154 [vP (some 0), vI (nI x)] (SK tx tu gu tl, h) = some (none, (SK tx tu gu tl, h1)) ∧ smX isXa h h1 ∧ XA h1 (agM A n x) k := by
  have hn := HI.1.2.1
  have hk := HI.2.2.1.2.1
  have x0 := x0_of HI HX
  have m1 : x % n < n := Nat.mod_lt _ (by omega)
  have m2 : x / 7 % n < n := Nat.mod_lt _ (by omega)
  obtain ⟨q, hq, eq⟩ := HI.pq
  have xq : gF h 1 1 = A 10 := HX.1.2.1
  have e7 : nI x - nI x / 7 * 7 = nI (x % 7) := by rw [litI 7, remI (by omega) (by omega) (by omega)]
  have e1 : nI x - nI x / nI n * nI n = nI (x % n) := remI (by omega) (by omega) (by omega)
  have e2 : nI x / 7 - nI x / 7 / nI n * nI n = nI (x / 7 % n) := by rw [litI 7, divI (by omega) (by omega) (by omega), remI (by omega) (by omega) (by omega)]
  have nn : ¬ nI n = 0 := nI_ne0 (by omega) (by omega)
  unfold agM
  rw [c_X10_moveInAges, e_X10_moveInAges_0, x0, if_pos (show (0 : Int32) < nI n by rw [litI 0, ltI (by omega) (by omega)]; omega), if_neg nn, if_neg nn, e7, e1, e2]
  by_cases r0 : x % 7 = 0
  · rw [if_pos r0, if_pos (by rw [r0]; rfl), x_canCh X (d + 1) tx tu gu tl h HI HX, bI_s, e_X10_moveInAges_70, per_t hn m1, per_t hn m2]
    by_cases g : x % n = x / 7 % n
    · rw [if_pos g]
      refine ⟨h, ?_, smX.rf _ h, HX⟩
      rw [show (!decide (nI (x % n) = nI (x / 7 % n)) && true && true) = false by rw [g]; simp, bz_f, if_pos rfl]
    · rw [if_neg g]
      refine ⟨sA (sA h 5 (x % n) (gA h 5 (x / 7 % n))) 5 (x / 7 % n) (gA h 5 (x % n)), ?_, (smX_sA (by unfold isXa; omega)).tr (smX_sA (by unfold isXa; omega)), HX.sw hk (by omega) (by omega)⟩
      rw [show (!decide (nI (x % n) = nI (x / 7 % n)) && true && true) = true by rw [decide_eq_false (show ¬ nI (x % n) = nI (x / 7 % n) by rw [eqI (by omega) (by omega)]; exact g)]; rfl, bz_t, if_neg one0, x_change X (d + 2) tx tu gu tl h (by omega) (by omega), bV_s]
  rw [if_neg r0, if_neg (nI_ne0 (by omega) (by omega))]
  by_cases r1 : x % 7 = 1
  · rw [if_pos r1, if_pos (by rw [r1]; rfl), litI 1, addI]
    obtain ⟨h1, g1, g2, g3⟩ := x_turnAbout X (d + 1) tx tu gu tl h HI HX (m := 1 + x / 7 % n) (by omega) (by omega)
    exact ⟨h1, by rw [g1, bV_s], g2, g3⟩
  rw [if_neg r1, if_neg (by rw [litI 1, eqI (by omega) (by omega)]; exact r1)]
  by_cases r2 : x % 7 = 2
  · rw [if_pos r2, if_pos (by rw [r2]; rfl), x_setPr X (d + 1) tx tu gu tl h xq, bV_s, if_neg one0]
    exact ⟨_, rfl, smX_sF (by unfold isXa; omega), HX.rf (by omega)⟩
  rw [if_neg r2, if_neg (by rw [litI 2, eqI (by omega) (by omega)]; exact r2), if_pos (by rw [show x % 7 = 3 by omega]; rfl), x_setPr X (d + 1) tx tu gu tl h xq, bV_s, if_pos rfl]
  exact ⟨_, rfl, smX_sF (by unfold isXa; omega), HX.rf (by omega)⟩
theorem k_happens {n t k x : Nat} {TT : Nat → TXT} (h : DT) (HI : Inv (gA h 73) n t k) (HT : ∀ j, j < t → TxR h j (TT j)) (hN : NmA h 78) (hw : gF h 72 23 = 1) (hx : x < 40000) : ∃ h', cal X (d + 10) 245 [vP (some 72), vI (nI x)] (SK tx tu gu tl, h) = some (none, (SK tx tu gu tl, h')) ∧ KS h h' ∧ gA h' 73 = ag1 (rulL (gA h 73 2) TT) n (gA h 73) x ∧ NmA h' 78 := by
  have hn := HI.1.2.1
  have ht4 := HI.t.2.1
  have hxx := HI.rv.x
  have hy := HI.rv.y
  have e7 : nI x - nI x / 7 * 7 = nI (x % 7) := by rw [litI 7, remI (by omega) (by omega) (by omega)]
  unfold ag1
  rw [c_X11_happens, e_X11_happens_0, e7]
  by_cases g : x % 7 < 4
  · rw [if_pos g, if_pos (show nI (x % 7) ≤ 3 by rw [litI 3, leI (by omega) (by omega)]; omega), HI.1.1]
    by_cases hn0 : n = 0
    · rw [if_pos hn0, if_pos (by rw [hn0]; rfl)]
      exact ⟨h, rfl, KS.rf h, rfl, hN⟩
    · have m1 : x % n < n := Nat.mod_lt _ (by omega)
      have m2 : x / 7 % n < n := Nat.mod_lt _ (by omega)
      have e1 : nI x - nI x / nI n * nI n = nI (x % n) := remI (by omega) (by omega) (by omega)
      have e2 : nI x / 7 - nI x / 7 / nI n * nI n = nI (x / 7 % n) := by rw [litI 7, divI (by omega) (by omega) (by omega), remI (by omega) (by omega) (by omega)]
      have nn : ¬ nI n = 0 := nI_ne0 (by omega) (by omega)
      have fin : ∀ B, cal X (d + 10) 245 [vP (some 72), vI (nI x)] (SK tx tu gu tl, h) = some (none, (SK tx tu gu tl, wA h 73 B)) → ∃ h', cal X (d + 10) 245 [vP (some 72), vI (nI x)] (SK tx tu gu tl, h) = some (none, (SK tx tu gu tl, h')) ∧ KS h h' ∧ gA h' 73 = B ∧ NmA h' 78 := fun B e => ⟨_, e, KS_w, gA_wA' _ _ _, fun k hk => by rw [gA_wA, if_neg (by omega)]; exact hN k hk⟩
      rw [if_neg hn0, if_neg nn, e_X11_happens_38, e7, e1, e2]
      unfold agM
      by_cases r0 : x % 7 = 0
      · rw [if_pos r0, if_pos (by rw [r0]; rfl), if_neg nn, if_neg nn, k_canSw X (d + 6) tx tu gu tl h HI, bI_s, e_X11_happens_81, per_t hn m1, per_t hn m2]
        by_cases g : x % n = x / 7 % n
        · rw [if_pos g, show (!decide (nI (x % n) = nI (x / 7 % n)) && true && true) = false by rw [g]; simp, bz_f, if_pos rfl]
          exact ⟨h, rfl, KS.rf h, rfl, hN⟩
        · rw [if_neg g, show (!decide (nI (x % n) = nI (x / 7 % n)) && true && true) = true by rw [decide_eq_false (show ¬ nI (x % n) = nI (x / 7 % n) by rw [eqI (by omega) (by omega)]; exact g)]; rfl, bz_t, if_neg one0, if_neg nn, if_neg nn, e1, e2, k_swapNow X (d + 8) tx tu gu tl h (by omega) (by omega), bV_s]
          exact ⟨_, rfl, KS_w, gA_wA' _ _ _, fun k hk => by rw [gA_wA, if_neg (by omega)]; exact hN k hk⟩
      rw [if_neg r0, if_neg (nI_ne0 (by omega) (by omega))]
      by_cases r1 : x % 7 = 1
      · rw [if_pos r1, if_pos (by rw [r1]; rfl), if_neg nn, litI 1, addI, k_turnNow X (d + 7) tx tu gu tl h HI (by omega) (by omega), bV_s]
        exact ⟨_, rfl, KS_w, gA_wA' _ _ _, fun k hk => by rw [gA_wA, if_neg (by omega)]; exact hN k hk⟩
      rw [if_neg r1, if_neg (by rw [litI 1, eqI (by omega) (by omega)]; exact r1)]
      by_cases r2 : x % 7 = 2
      · rw [if_pos r2, if_pos (by rw [r2]; rfl), if_neg nn, sA_w]
        exact ⟨_, rfl, KS_w, gA_wA' _ _ _, fun k hk => by rw [gA_wA, if_neg (by omega)]; exact hN k hk⟩
      rw [if_neg r2, if_neg (by rw [litI 2, eqI (by omega) (by omega)]; exact r2), if_neg nn, sA_w]
      exact ⟨_, rfl, KS_w, gA_wA' _ _ _, fun k hk => by rw [gA_wA, if_neg (by omega)]; exact hN k hk⟩
  · rw [if_neg g, if_neg (show ¬ nI (x % 7) ≤ 3 by rw [litI 3, leI (by omega) (by omega)]; omega), hy.1, litI 9999]
    by_cases g1 : yOf (gA h 73) < 9999
    · obtain ⟨h', b1, b2, b3, b4, b5⟩ := k_pass X d tx tu gu tl (n := n) (wr := true) (o := rulL (gA h 73 2) TT) h HI.rv (rul_K HI.t HT) hw hN hxx.1 (by omega) hy.1 g1
      rw [if_pos g1, if_neg (nI_ge g1 (by omega)), b1, bV_s]
      exact ⟨h', rfl, b2, b3, b5⟩
    · rw [if_neg g1, if_pos (nI_le (by omega) (by omega))]
      exact ⟨h, rfl, KS.rf h, rfl, hN⟩
theorem x_agl {n t k v : Nat} {TT : Nat → TXT} (hv : v ≤ 40) : ∀ (c i f : Nat) (h : DT) (A : Nat → Int32), Inv A n t k → XA h A k → (∀ j, j < t → TxR h j (TT j)) → NmA h 41 → i + c = v → 3 * c + 1 ≤ f → ∃ h1, m_X10_ages X (d + 5) f 50 [(0, vP (some 0)), (2, vI (nI v)), (3, vI (nI i))] [] (SK tx tu gu tl, h) = some (some (vI (agI (rulL (A 2) TT) n c A 7)), (SK tx tu gu tl, h1)) ∧ smX isXl h h1 ∧ XA h1 (agI (rulL (A 2) TT) n c A) k ∧ NmA h1 41
  | 0, i, f, h, A, HI, HX, HT, hN, hi, hf => by
    obtain ⟨f, rfl⟩ : ∃ f', f = f' + 1 := ⟨f - 1, by omega⟩
    refine ⟨h, ?_, smX.rf _ h, HX, hN⟩
    rw [e_X10_ages_50, if_pos (nI_le (by omega) (by omega)), HX.1.2.2.2.1]
    rfl
  | c + 1, i, f, h, A, HI, HX, HT, hN, hi, hf => by
    obtain ⟨f, rfl⟩ : ∃ f', f = f' + 1 + 1 + 1 := ⟨f - 3, by omega⟩
    have hn := HI.1.2.1
    have ht4 := HI.t.2.1
    have hx := HI.rv.x
    have x4 : gF h 1 4 = nI (xOf A) := HX.1.2.2.2.2.1.trans hx.1
    have hI1 : Inv (agX A (xOf A)) n t k := HI.ux (Nat.mod_lt _ (by omega))
    have s1 : smX isXa h (sF h 1 4 (nI ((xOf A * 577 + 449) % 30809))) := smX_sF (by unfold isXa; omega)
    have hX1 : XA (sF h 1 4 (nI ((xOf A * 577 + 449) % 30809))) (agX A (xOf A)) k := HX.rf (by omega)
    have eA2 : agX A (xOf A) 2 = A 2 := pk_un (by omega)
    have hT1 : ∀ j, j < t → TxR (sF h 1 4 (nI ((xOf A * 577 + 449) % 30809))) j (TT j) := fun j hj => (HT j hj).cg (by omega) (xl_T s1.xl)
    have hN1 := xa_N s1 hN
    have ren : cal X (d + 5) 66 [vP (some 1)] (SK tx tu gu tl, h) = some (none, (SK tx tu gu tl, sF h 1 4 (nI ((xOf A * 577 + 449) % 30809)))) := by
      rw [c_X5_renewX, e_X5_renewX_0 (hp := Or.inl rfl), x4, litI 577, mulI, litI 449, addI, litI 30809, remI (by omega) (by omega) (by omega)]
    have e7 : nI (xOf A) - nI (xOf A) / 7 * 7 = nI (xOf A % 7) := by rw [litI 7, remI (by omega) (by omega) (by omega)]
    have go : ∀ (f3 : Nat) (h3 : DT), 3 * c + 1 ≤ f3 → smX isXl h h3 → XA h3 (ag1 (rulL (A 2) TT) n (agX A (xOf A)) (xOf A)) k → NmA h3 41 → ∃ h1, m_X10_ages X (d + 5) f3 50 [(0, vP (some 0)), (2, vI (nI v)), (3, vI (nI (i + 1)))] [] (SK tx tu gu tl, h3) = some (some (vI (agI (rulL (A 2) TT) n (c + 1) A 7)), (SK tx tu gu tl, h1)) ∧ smX isXl h h1 ∧ XA h1 (agI (rulL (A 2) TT) n (c + 1) A) k ∧ NmA h1 41 := fun f3 h3 q0 q1 q2 q3 => by
      have e9 : ag1 (rulL (A 2) TT) n (agX A (xOf A)) (xOf A) 2 = A 2 := (ag1_2 hI1 _).trans eA2
      obtain ⟨h1, g1, g2, g3, g4⟩ := x_agl hv c (i + 1) f3 h3 _ (hI1.ag (o := rulL (A 2) TT) (xOf A)) q2 (fun j hj => (HT j hj).cg (by omega) (xl_T q1)) q3 (by omega) q0
      rw [e9] at g1 g3
      exact ⟨h1, g1, q1.tr g2, g3, g4⟩
    rw [e_X10_ages_50, if_neg (nI_ge (by omega) (by omega)), ren, bV_s, x4, e_X10_ages_71, e7]
    by_cases g : xOf A % 7 < 4
    · rw [if_pos (show nI (xOf A % 7) < 4 by rw [litI 4, ltI (by omega) (by omega)]; exact g), x0_of hI1 hX1]
      by_cases hn0 : n = 0
      · rw [if_pos (show nI n ≤ 0 by rw [hn0]; decide), nI_1]
        exact go _ _ (by omega) s1.xl (by unfold ag1; rw [if_pos g, if_pos hn0]; exact hX1) hN1
      · obtain ⟨h2, b1, b2, b3⟩ := x_moveA X (d + 1) tx tu gu tl _ hI1 hX1 hn0 (by omega) g
        rw [if_neg (show ¬ nI n ≤ 0 by rw [litI 0, leI (by omega) (by omega)]; omega), b1, bV_s, nI_1]
        exact go _ _ (by omega) (s1.tr b2).xl (by unfold ag1; rw [if_pos g, if_neg hn0]; exact b3) (xa_N b2 hN1)
    · have hy := hI1.rv.y
      have x3 : gF (sF h 1 4 (nI ((xOf A * 577 + 449) % 30809))) 1 3 = nI (yOf (agX A (xOf A))) := hX1.1.2.2.2.1.trans hy.1
      rw [if_neg (show ¬ nI (xOf A % 7) < 4 by rw [litI 4, ltI (by omega) (by omega)]; exact g), x3, litI 9999]
      by_cases g1 : yOf (agX A (xOf A)) < 9999
      · have hx1 := hI1.rv.x
        obtain ⟨h2, b1, b2, b3, b4⟩ := x_pass X d tx tu gu tl (n := n) (wr := true) (Or.inl rfl) _ hI1.rv (hX1.1.q hI1.rv) (rul_S hI1.t hT1) hN1 hx1.1 (by omega) hy.1 g1
        rw [eA2] at b1 b3
        have e5 : m_X10_ages X (d + 5) (f + 1) 105 [(0, vP (some 0)), (2, vI (nI v)), (3, vI (nI i))] [vP (rulP (A 2)), vP (some 1), vP (some 40)] (SK tx tu gu tl, sF h 1 4 (nI ((xOf A * 577 + 449) % 30809))) = bI (cal X (d + 5) 6 [vP (some 40), vP (some 1), vP (rulP (A 2)), vI 1] (SK tx tu gu tl, sF h 1 4 (nI ((xOf A * 577 + 449) % 30809)))) fun r1 H1 => m_X10_ages X (d + 5) f 50 [(0, vP (some 0)), (2, vI (nI v)), (3, vI (nI i + 1))] [] H1 := by
          rcases (rul_S HI.t HT).tp with q' | ⟨t', ht', q'⟩
          · rw [q']; exact e_X10_ages_105 ..
          · rw [q']; exact e_X10_ages_105_2 (ht := ht') ..
        rw [if_neg (nI_ge g1 (by omega)), x_ruling X (d + 2) tx tu gu tl _ hI1.t hX1.2.2, bP_s, eA2, e5, b1, bI_s, nI_1]
        exact go _ _ (by omega) (s1.xl.tr (ps_xl b2)) (by unfold ag1; rw [if_neg g, if_pos g1]; exact XA.pa hI1 hX1 b2 b3) b4
      · rw [if_pos (nI_le (by omega) (by omega)), nI_1]
        exact go _ _ (by omega) s1.xl (by unfold ag1; rw [if_neg g, if_neg g1]; exact hX1) hN1
theorem k_agl {n t k v : Nat} {TT : Nat → TXT} (hv : v ≤ 40) : ∀ (c i f : Nat) (h : DT), Inv (gA h 73) n t k → (∀ j, j < t → TxR h j (TT j)) → NmA h 78 → gF h 72 23 = 1 → i + c = v → 2 * c + 1 ≤ f → ∃ h', m_X11_ages X (d + 10) f 43 [(0, vP (some 72)), (2, vI (nI v)), (3, vI (nI i))] [] (SK tx tu gu tl, h) = some (some (vI (agI (rulL (gA h 73 2) TT) n c (gA h 73) 7)), (SK tx tu gu tl, h')) ∧ KS h h' ∧ gA h' 73 = agI (rulL (gA h 73 2) TT) n c (gA h 73) ∧ NmA h' 78
  | 0, i, f, h, HI, HT, hN, hw, hi, hf => by
    obtain ⟨f, rfl⟩ : ∃ f', f = f' + 1 := ⟨f - 1, by omega⟩
    refine ⟨h, ?_, KS.rf h, rfl, hN⟩
    rw [e_X11_ages_43, if_pos (nI_le (by omega) (by omega))]
    rfl
  | c + 1, i, f, h, HI, HT, hN, hw, hi, hf => by
    obtain ⟨f, rfl⟩ : ∃ f', f = f' + 1 + 1 := ⟨f - 2, by omega⟩
    have ht4 := HI.t.2.1
    have hx := HI.rv.x
    have hI1 : Inv (agX (gA h 73) (xOf (gA h 73))) n t k := HI.ux (Nat.mod_lt _ (by omega))
    have kw : KS h (wA h 73 (agX (gA h 73) (xOf (gA h 73)))) := KS_w
    have eA2 : agX (gA h 73) (xOf (gA h 73)) 2 = gA h 73 2 := pk_un (by omega)
    have hT1 : ∀ j, j < t → TxR (wA h 73 (agX (gA h 73) (xOf (gA h 73)))) j (TT j) := fun j hj => (HT j hj).cg (by omega) kw.st
    obtain ⟨h2, b1, b2, b3, b4⟩ := k_happens X d tx tu gu tl (n := n) (t := t) (k := k) (x := xOf (gA h 73)) (TT := TT) (wA h 73 (agX (gA h 73) (xOf (gA h 73)))) (by rw [gA_wA']; exact hI1) hT1 (fun k hk => by rw [gA_wA, if_neg (by omega)]; exact hN k hk) (by rw [gF_wA]; exact hw) (by omega)
    rw [gA_wA', eA2] at b3
    have e9 : gA h2 73 2 = gA h 73 2 := by rw [b3]; exact (ag1_2 hI1 _).trans eA2
    obtain ⟨h3, g1, g2, g3, g4⟩ := k_agl hv c (i + 1) f h2 (by rw [b3]; exact hI1.ag _) (fun j hj => (hT1 j hj).cg (by omega) b2.st) b4 (by rw [b2.2 23 (by omega), gF_wA]; exact hw) (by omega) (by omega)
    rw [e9, b3] at g1 g3
    refine ⟨h3, ?_, (kw.tr b2).tr g2, g3, g4⟩
    rw [e_X11_ages_43, if_neg (nI_ge (by omega) (by omega)), k_anew X (d + 9) tx tu gu tl h (x := xOf (gA h 73)) (by omega) hx.1, bV_s, hx.1, e_X11_ages_61]
    have b1' : cal X (d + 10) 245 [vP (some 72), vI (nI (xOf (gA h 73)))] (SK tx tu gu tl, wA h 73 (upd (gA h 73) 8 (nI ((xOf (gA h 73) * 577 + 449) % 30809)))) = some (none, (SK tx tu gu tl, h2)) := b1
    rw [b1', bV_s, nI_1]
    exact g1
theorem op_ages {n t k : Nat} {TT : Nat → TXT} (h : DT) (H : RA h (gA h 73) n t k) (HL : LR h t TT) (x1 x2 : Int32) : OpA X tx tu gu tl h n t k 111 [vP (some 0), vI x1, vI x2] 246 [vP (some 72), vI x1, vI x2] := by
  obtain ⟨hI, hX⟩ := id H
  obtain ⟨hT, hN1, hN2, hw⟩ := HL
  have ht4 := hI.t.2.1
  have hk30 := hI.2.2.1.2.1
  by_cases hs : 0 ≤ x1 ∧ x1 ≤ 9999
  · have hd1 := in_dec hs
    obtain ⟨s, hs2, rfl⟩ := in_nI (m := 9999) hs.1 hs.2 (by omega)
    by_cases hv : 1 ≤ x2 ∧ x2 ≤ 40
    · have hd := in_dec hv
      obtain ⟨v, v1, v2, rfl⟩ := in_nI1 (m := 40) hv.1 hv.2 (by omega)
      have sx : nI s * 2 + 317 = nI (s * 2 + 317) := by rw [litI 2, mulI, litI 317, addI]
      have hI1 : Inv (upd (keepF (gA h 73) k) 8 (nI (s * 2 + 317))) n t (kN k) := hI.ke.ux (by omega)
      have eA2 : upd (keepF (gA h 73) k) 8 (nI (s * 2 + 317)) 2 = gA h 73 2 := by rw [pk_un (by omega), keepF_lo hk30 (by omega) (by omega)]
      obtain ⟨h1, a1, a2, a3⟩ := x_kp X 97 tx tu gu tl h hI hX
      have s2 : smX isXa h1 (sF h1 1 4 (nI (s * 2 + 317))) := smX_sF (by unfold isXa; omega)
      have sA2 := a2.tr s2
      have hX1 : XA (sF h1 1 4 (nI (s * 2 + 317))) (upd (keepF (gA h 73) k) 8 (nI (s * 2 + 317))) (kN k) := a3.rf (by omega)
      obtain ⟨h2, b1, b2, b3, b4⟩ := x_agl X 94 tx tu gu tl (n := n) (t := t) (k := kN k) (v := v) (TT := TT) v2 v 0 999997 (sF h1 1 4 (nI (s * 2 + 317))) _ hI1 hX1 (fun j hj => (hT j hj).cg (by omega) (xl_T sA2.xl)) (xa_N sA2 hN1) (by omega) (by omega)
      rw [eA2] at b1 b3
      have xl := sA2.xl.tr b2
      have kw : KS h2 (wA h2 73 (upd (keepF (gA h 73) k) 8 (nI (s * 2 + 317)))) := KS_w
      obtain ⟨h3, g1, g2, g3, g4⟩ := k_agl X 89 tx tu gu tl (n := n) (t := t) (k := kN k) (v := v) (TT := TT) v2 v 0 999997 (wA h2 73 (upd (keepF (gA h 73) k) 8 (nI (s * 2 + 317)))) (by rw [gA_wA']; exact hI1) (fun j hj => ((hT j hj).cg (by omega) (xl_T xl)).cg (by omega) kw.st) (fun k hk => by rw [gA_wA, if_neg (by omega)]; exact sl78 xl hN2 k hk) (by rw [gF_wA, sl72 xl]; exact hw) (by omega) (by omega)
      rw [gA_wA', eA2] at g1 g3
      refine ⟨vI (agI (rulL (gA h 73 2) TT) n v (upd (keepF (gA h 73) k) 8 (nI (s * 2 + 317))) 7), h2, h3, n, kN k, ?_, ?_, xl, (kw.tr g2).ms, ?_, fun _ => b4, fun _ => g4⟩
      · rw [c_X10_ages, e_X10_ages_0, x_within, hd1, bz_t, bI_s, if_neg one0, x_within, hd, bz_t, bI_s, e_X10_ages_18, if_neg one0, a1, bV_s, e_X10_ages_34, sx]
        exact b1
      · rw [c_X11_ages, e_X11_ages_0, k_isIn, hd1, bz_t, bI_s, if_neg one0, k_isIn, hd, bz_t, bI_s, e_X11_ages_18, if_neg one0, k_kp X 98 tx tu gu tl h2 (n := n) (t := t) (k := k) (by rw [sl73 xl]; exact hI), bV_s, e_X11_ages_27, sx, sA_w, gA_wA', wA_wA, sl73 xl]
        exact g1
      · rw [g3]
        exact ⟨Inv.agI v _ hI1, b3⟩
    · have hd := in_decf hv
      refine OpA_id (v := vI (-1)) H ?_ ?_
      · rw [c_X10_ages, e_X10_ages_0, x_within, hd1, bz_t, bI_s, if_neg one0, x_within, hd, bz_f, bI_s, e_X10_ages_18, if_pos rfl]
      · rw [c_X11_ages, e_X11_ages_0, k_isIn, hd1, bz_t, bI_s, if_neg one0, k_isIn, hd, bz_f, bI_s, e_X11_ages_18, if_pos rfl]
  · have hd1 := in_decf hs
    refine OpA_id (v := vI (-1)) H ?_ ?_
    · rw [c_X10_ages, e_X10_ages_0, x_within, hd1, bz_f, bI_s, if_pos rfl]
    · rw [c_X11_ages, e_X11_ages_0, k_isIn, hd1, bz_f, bI_s, if_pos rfl]
end AG
