/-! LIKELY, FIRST -/
def lM (n : Nat) : Int64 := lI (n : Int)
theorem lM_add (a b : Nat) : lM a + lM b = lM (a + b) := by
  unfold lM
  rw [lI_add]
  rfl
theorem lM_mul (a b : Nat) : lM a * lM b = lM (a * b) := by
  unfold lM
  rw [lI_mul]
  rfl
theorem lM_div {a b : Nat} (ha : a < 4611686018427387904) (hb : b < 4611686018427387904) : lM a / lM b = lM (a / b) := by
  have hq : a / b ≤ a := Nat.div_le_self _ _
  unfold lM
  refine Int64.toInt_inj.mp ?_
  rw [Int64.toInt_div_of_ne_left _ _ (by intro e; have := congrArg Int64.toInt e; rw [lt6 (by omega) (by omega)] at this; have e2 : Int64.minValue.toInt = -9223372036854775808 := by decide
                                         omega), lt6 (by omega) (by omega), lt6 (by omega) (by omega), lt6 (z := ((a / b : Nat) : Int)) (Int.le_trans (by decide) (Int.natCast_nonneg _)) (Int.lt_of_le_of_lt (Int.ofNat_le.mpr hq) (by omega))]
  rfl
theorem lM_rem {a b : Nat} (ha : a < 4611686018427387904) (hb : b < 4611686018427387904) : lM a - lM a / lM b * lM b = lM (a % b) := by
  rw [lM_div ha hb, lM_mul]
  unfold lM
  rw [lI_sub]
  congr 1
  have := Nat.div_add_mod a b
  rw [Nat.mul_comm] at this
  omega
theorem lM_0 {a : Nat} (ha : a < 4611686018427387904) : lM a = 0 ↔ a = 0 := by
  show lI (a : Int) = lI 0 ↔ _
  rw [lI_eq (by omega) (by omega) (by omega) (by omega)]
  omega
def gos (P : Nat → Nat) : Nat → Nat := fun i => P (i - 1) + P i + P (if i < 18 then i + 1 else 18)
def zer (b : Bool) (P : Nat → Nat) : Nat → Nat := fun i => if b = true ∧ i = 9 then 0 else P i
def spN (b : Bool) : Nat → (Nat → Nat) → Nat → Nat
  | 0, P => P
  | k + 1, P => spN b k (gos (zer b P))
theorem spN_le (b : Bool) : ∀ (k m : Nat) (P : Nat → Nat), (∀ i, i < 19 → P i ≤ 3 ^ m) → ∀ i, i < 19 → spN b k P i ≤ 3 ^ (m + k)
  | 0, m, P, H, i, hi => H i hi
  | k + 1, m, P, H, i, hi => by
    rw [show m + (k + 1) = (m + 1) + k by omega]
    have hz : ∀ i, i < 19 → zer b P i ≤ 3 ^ m := fun i hi => by
      unfold zer
      split
      · exact Nat.zero_le _
      · exact H i hi
    refine spN_le b k (m + 1) _ (fun j hj => ?_) i hi
    have h1 := hz (j - 1) (by omega)
    have h2 := hz j hj
    have h3 := hz (if j < 18 then j + 1 else 18) (by split <;> omega)
    rw [Nat.pow_succ]
    unfold gos
    omega
theorem mn19 : ∀ i, i < 19 → (if (0 : Int32) < nI i - 1 then nI i - 1 else 0) = nI (i - 1) := by decide +kernel
theorem mx19 : ∀ i, i < 19 → (if nI i + 1 < (18 : Int32) then nI i + 1 else 18) = nI (if i < 18 then i + 1 else 18) := by decide +kernel
def LB (h : DT) (c : Nat) (P : Nat → Nat) : Prop := ∀ i, i < 19 → gB h c i = lM (P i)
def one9 (a : Nat) : Nat → Nat := fun i => if i = a then 1 else 0
theorem one9_le (a : Nat) : ∀ i, i < 19 → one9 a i ≤ 3 ^ 0 := fun i _ => by
  unfold one9
  split <;> decide
section OD
variable (X : XS) (d : Nat) (tx tu gu : Option Nat) (tl : List SC)
theorem x_sp76 {P : Nat → Nat} (x2 x3 x4 : Int32) : ∀ (c i : Nat) (h : DT), i + c = 19 → LB h 49 P → (∀ j, j < i → gB h 48 j = lM (gos P j)) → ∃ h', (∀ f, m_X2_spreadOut X d (f + c + 1) 76 [(0, vP (some 47)), (2, vI x2), (3, vI x3), (4, vI x4), (5, vI (nI i))] [] (SK tx tu gu tl, h) = m_X2_spreadOut X d f 40 [(0, vP (some 47)), (2, vI x2), (3, vI x3), (4, vI (x4 + 1))] [] (SK tx tu gu tl, h')) ∧ XZ h h' ∧ LB h' 48 (gos P)
  | 0, i, h, hi, hP, hd => by
    refine ⟨h, fun f => ?_, smX.rf _ h, fun j hj => hd j (by omega)⟩
    rw [e_X2_spreadOut_76, litI 19, if_pos (nI_le (by omega) (by omega))]
  | c + 1, i, h, hi, hP, hd => by
    have hs : XZ h (sB h 48 i (lM (gos P i))) := smX_sB (by omega)
    obtain ⟨h', k1, k2, k3⟩ := x_sp76 x2 x3 x4 c (i + 1) (sB h 48 i (lM (gos P i))) (by omega) (fun j hj => by rw [gB_sB, if_neg (by omega)]; exact hP j hj) (fun j hj => by
      rw [gB_sB]
      by_cases z : j = i
      · subst z
        rw [if_pos ⟨rfl, rfl⟩]
      · rw [if_neg (by omega)]
        exact hd j (by omega))
    refine ⟨h', fun f => ?_, hs.tr k2, k3⟩
    rw [show f + (c + 1) + 1 = f + c + 1 + 1 by omega, e_X2_spreadOut_76, mn19 i (by omega), mx19 i (by omega), litI 19, if_neg (nI_ge (by omega) (by omega)), inbI (by omega) (by omega), inbI (by omega) (by omega), inbI (by split <;> omega) (by omega), inbI (by omega) (by omega), hP (i - 1) (by omega), hP i (by omega), hP (if i < 18 then i + 1 else 18) (by split <;> omega), lM_add, lM_add, nI_1]
    exact k1 f
theorem x_sp40 {N : Nat} (hN : N ≤ 20) (b : Bool) : ∀ (c k f : Nat) (P : Nat → Nat) (h : DT), k + c = N → LB h 48 P → 22 * c + 1 ≤ f → ∃ h', m_X2_spreadOut X d f 40 [(0, vP (some 47)), (2, vI (nI N)), (3, vI (bzB b)), (4, vI (nI k))] [] (SK tx tu gu tl, h) = some (none, (SK tx tu gu tl, h')) ∧ XZ h h' ∧ LB h' 48 (spN b c P)
  | 0, k, f, P, h, hk, hP, hf => by
    obtain ⟨f, rfl⟩ : ∃ g, f = g + 1 := ⟨f - 1, by omega⟩
    refine ⟨h, ?_, smX.rf _ h, hP⟩
    rw [e_X2_spreadOut_40, if_pos (nI_le (by omega) (by omega))]
  | c + 1, k, f, P, h, hk, hP, hf => by
    obtain ⟨f, rfl⟩ : ∃ g, f = g + 19 + 1 + 1 := ⟨f - 21, by omega⟩
    have go : ∀ (h1 : DT), XZ h h1 → LB h1 48 (zer b P) → ∃ h', m_X2_spreadOut X d (f + 19 + 1) 76 [(0, vP (some 47)), (2, vI (nI N)), (3, vI (bzB b)), (4, vI (nI k)), (5, vI 0)] [] (SK tx tu gu tl, yB h1 48 49 0 0 19) = some (none, (SK tx tu gu tl, h')) ∧ XZ h h' ∧ LB h' 48 (spN b (c + 1) P) := by
      intro h1 s1 l1
      have sy : XZ h1 (yB h1 48 49 0 0 19) := smX_yB (by omega)
      obtain ⟨h2, j1, j2, j3⟩ := x_sp76 X d tx tu gu tl (P := zer b P) (nI N) (bzB b) (nI k) 19 0 (yB h1 48 49 0 0 19) (by omega) (fun j hj => by
        rw [gB_yB, if_pos rfl, if_pos (by omega), show 0 + (j - 0) = j by omega]
        exact l1 j hj) (fun j hj => by omega)
      obtain ⟨h3, q1, q2, q3⟩ := x_sp40 hN b c (k + 1) f (gos (zer b P)) h2 (by omega) j3 (by omega)
      refine ⟨h3, ?_, ((s1.tr sy).tr j2).tr q2, q3⟩
      refine (j1 f).trans ?_
      rw [nI_1]
      exact q1
    rw [e_X2_spreadOut_40, if_neg (nI_ge (by omega) (by omega))]
    cases b with
    | false =>
      rw [bz_f, if_pos rfl]
      exact go h (smX.rf _ h) (fun j hj => by unfold zer; rw [if_neg (by simp)]; exact hP j hj)
    | true =>
      rw [bz_t, if_neg one0]
      refine go (sB h 48 9 0) (smX_sB (by omega)) (fun j hj => ?_)
      rw [gB_sB]
      unfold zer
      by_cases z : j = 9
      · rw [if_pos ⟨rfl, z⟩, if_pos ⟨rfl, z⟩]
        rfl
      · rw [if_neg (fun q => z q.2), if_neg (fun q => z q.2)]
        exact hP j hj
theorem x_sp3 {a : Nat} (ha : a < 19) (x1 x2 x3 : Int32) (hx : x1 + 9 = nI a) : ∀ (c i : Nat) (h : DT), i + c = 19 → (∀ j, j < i → gB h 48 j = lM (one9 a j)) → ∃ h', (∀ f, m_X2_spreadOut X d (f + c + 1) 3 [(0, vP (some 47)), (1, vI x1), (2, vI x2), (3, vI x3), (4, vI (nI i))] [] (SK tx tu gu tl, h) = m_X2_spreadOut X d f 40 [(0, vP (some 47)), (2, vI x2), (3, vI x3), (4, vI (nI 0))] [] (SK tx tu gu tl, h')) ∧ XZ h h' ∧ LB h' 48 (one9 a)
  | 0, i, h, hi, hd => by
    refine ⟨h, fun f => ?_, smX.rf _ h, fun j hj => hd j (by omega)⟩
    rw [e_X2_spreadOut_3, litI 19, if_pos (nI_le (by omega) (by omega))]
    rfl
  | c + 1, i, h, hi, hd => by
    obtain ⟨h', k1, k2, k3⟩ := x_sp3 ha x1 x2 x3 hx c (i + 1) (sB h 48 i (lM (one9 a i))) (by omega) (fun j hj => by
      rw [gB_sB]
      by_cases z : j = i
      · subst z
        rw [if_pos ⟨rfl, rfl⟩]
      · rw [if_neg (by omega)]
        exact hd j (by omega))
    refine ⟨h', fun f => ?_, smX.tr (smX_sB (by omega)) k2, k3⟩
    rw [show f + (c + 1) + 1 = f + c + 1 + 1 by omega, e_X2_spreadOut_3, litI 19, if_neg (nI_ge (by omega) (by omega)), hx, nI_1, ← k1 f]
    unfold one9
    by_cases z : i = a
    · rw [if_pos (congrArg nI z), if_pos z, inbI (by omega) (by omega)]
      rfl
    · rw [if_neg (fun q => z ((nI_eq (by omega) (by omega)).mp q)), if_neg z, inbI (by omega) (by omega)]
      rfl
theorem x_spread {N a : Nat} (hN : N ≤ 20) (ha : a < 19) (b : Bool) (x1 : Int32) (hx : x1 + 9 = nI a) (h : DT) : ∃ h', cal X (d + 1) 16 [vP (some 47), vI x1, vI (nI N), vI (bzB b)] (SK tx tu gu tl, h) = some (none, (SK tx tu gu tl, h')) ∧ XZ h h' ∧ LB h' 48 (spN b N (one9 a)) := by
  obtain ⟨h1, k1, k2, k3⟩ := x_sp3 X d tx tu gu tl ha x1 (nI N) (bzB b) hx 19 0 h (by omega) (fun j hj => by omega)
  obtain ⟨h2, j1, j2, j3⟩ := x_sp40 X d tx tu gu tl hN b N 0 999979 (one9 a) h1 (by omega) k3 (by omega)
  refine ⟨h2, ?_, k2.tr j2, j3⟩
  rw [c_X2_spreadOut, e_X2_spreadOut_0]
  exact (k1 999979).trans j1
end OD
