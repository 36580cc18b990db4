/-! LIKELY, FIRST: shares, the reference -/
theorem cop3 {u : Nat} (h : u % 3 ≠ 0) (c : Nat) : Nat.gcd u (3 ^ c) = 1 := by
  have h1 : Nat.gcd u 3 = 1 := by
    rw [Nat.gcd_comm, Nat.gcd_rec]
    obtain e | e : u % 3 = 1 ∨ u % 3 = 2 := by omega
    all_goals (rw [e]; decide)
  exact Nat.Coprime.pow_right c h1
theorem shr3 {u : Nat} (h : u % 3 = 0) (c : Nat) : u / Nat.gcd u (3 ^ (c + 1)) = (u / 3) / Nat.gcd (u / 3) (3 ^ c) ∧ 3 ^ (c + 1) / Nat.gcd u (3 ^ (c + 1)) = 3 ^ c / Nat.gcd (u / 3) (3 ^ c) := by
  obtain ⟨m, rfl⟩ : ∃ m, u = 3 * m := ⟨u / 3, by omega⟩
  rw [show 3 * m / 3 = m by omega, Nat.pow_succ, Nat.mul_comm (3 ^ c) 3, Nat.gcd_mul_left]
  exact ⟨Nat.mul_div_mul_left _ _ (by omega), Nat.mul_div_mul_left _ _ (by omega)⟩
theorem p3_20 {c : Nat} (h : c ≤ 20) : 3 ^ c < 4611686018427387904 := Nat.lt_of_le_of_lt (Nat.pow_le_pow_right (by omega) h) (by decide)
theorem gcd3_pos (u c : Nat) : 0 < Nat.gcd u (3 ^ c) := Nat.gcd_pos_of_pos_right _ (Nat.pow_pos (by omega))
def oddV (u N : Nat) (x : Int32) : Int64 := if x = 0 then lM (u / Nat.gcd u (3 ^ N)) else lM (3 ^ N / Nat.gcd u (3 ^ N))
section OK
variable (X : XS) (d : Nat) (tx tu gu : Option Nat) (tl : List SC)
theorem x_share {N a : Nat} {P : Nat → Nat} (hN : N ≤ 20) (ha : a < 19) (x2 x3 : Int32) (hx : x2 + 9 = nI a) (h : DT) (hP : LB h 48 P) (hu : P a ≤ 3 ^ N) : cal X (d + 1) 17 [vP (some 47), vI (nI N), vI x2, vI x3] (SK tx tu gu tl, h) = some (some (vL (oddV (P a) N x3)), (SK tx tu gu tl, h)) := by
  have l1 : ∀ c j f (D : Nat), j + c = N → c + 1 ≤ f → m_X2_share X d f 17 [(1, vI (nI N)), (3, vI x3), (4, vL (lM (P a))), (6, vL (lM D)), (8, vI (nI j))] [] (SK tx tu gu tl, h) = m_X2_share X d (f - (c + 1)) 40 [(1, vI (nI N)), (3, vI x3), (4, vL (lM (P a))), (6, vL (lM (D * 3 ^ c))), (8, vI (nI 0))] [] (SK tx tu gu tl, h) := by
    intro c
    induction c with
    | zero =>
      intro j f D h1 h2
      obtain ⟨f, rfl⟩ : ∃ g, f = g + 1 := ⟨f - 1, by omega⟩
      rw [e_X2_share_17, if_pos (nI_le (by omega) (by omega)), Nat.pow_zero, Nat.mul_one]
      rfl
    | succ c ih =>
      intro j f D h1 h2
      obtain ⟨f, rfl⟩ : ∃ g, f = g + 1 := ⟨f - 1, by omega⟩
      rw [e_X2_share_17, if_neg (nI_ge (by omega) (by omega)), show (3 : Int64) = lM 3 from rfl, lM_mul, nI_1, ih (j + 1) f (D * 3) (by omega) (by omega), show f + 1 - (c + 1 + 1) = f - (c + 1) by omega, Nat.mul_assoc, Nat.pow_succ, Nat.mul_comm (3 ^ c) 3]
  have l2 : ∀ c j f u, j + c = N → u < 4611686018427387904 → c + 1 ≤ f → m_X2_share X d f 40 [(1, vI (nI N)), (3, vI x3), (4, vL (lM u)), (6, vL (lM (3 ^ c))), (8, vI (nI j))] [] (SK tx tu gu tl, h) = some (some (vL (oddV u c x3)), (SK tx tu gu tl, h)) := by
    intro c
    induction c with
    | zero =>
      intro j f u h1 h2 h3
      obtain ⟨f, rfl⟩ : ∃ g, f = g + 1 := ⟨f - 1, by omega⟩
      rw [e_X2_share_40, if_pos (nI_le (by omega) (by omega))]
      unfold oddV
      rw [Nat.pow_zero, Nat.gcd_one_right, Nat.div_one, Nat.div_one]
      by_cases z : x3 = 0
      · rw [if_pos z, if_pos z]
      · rw [if_neg z, if_neg z]
    | succ c ih =>
      intro j f u h1 h2 h3
      obtain ⟨f, rfl⟩ : ∃ g, f = g + 1 := ⟨f - 1, by omega⟩
      have h3c := p3_20 (c := c + 1) (by omega)
      rw [e_X2_share_40, if_neg (nI_ge (by omega) (by omega)), show (3 : Int64) = lM 3 from rfl, lM_rem h2 (by omega), lM_div h2 (by omega), lM_div h3c (by omega), nI_1]
      by_cases z : u % 3 = 0
      · rw [if_pos ((lg_cmp_eq _ _).mpr ((lM_0 (by omega)).mpr z)), show 3 ^ (c + 1) / 3 = 3 ^ c by rw [Nat.pow_succ]; omega, ih (j + 1) f (u / 3) (by omega) (by omega) (by omega)]
        unfold oddV
        rw [(shr3 z c).1, (shr3 z c).2]
      · rw [if_neg (fun q => z ((lM_0 (by omega)).mp ((lg_cmp_eq _ _).mp q)))]
        unfold oddV
        rw [cop3 z (c + 1), Nat.div_one, Nat.div_one]
        by_cases z : x3 = 0
        · rw [if_pos z, if_pos z]
        · rw [if_neg z, if_neg z]
  have h20 := p3_20 hN
  rw [c_X2_share, e_X2_share_0, hx, inbI (by omega) (by omega), hP a ha]
  refine (l1 N 0 999999 1 (by omega) (by omega)).trans ?_
  rw [Nat.one_mul]
  exact l2 N 0 _ (P a) (by omega) (by omega) (by omega)
theorem k_threes {N : Nat} (hN : N ≤ 20) (h : DT) : cal X (d + 1) 286 [vI (nI N)] (SK tx tu gu tl, h) = some (some (vL (lM (3 ^ N))), (SK tx tu gu tl, h)) := by
  have l1 : ∀ c j f (D : Nat), j + c = N → c + 1 ≤ f → m_X11_threes X d f 4 [(0, vI (nI N)), (1, vL (lM D)), (3, vI (nI j))] [] (SK tx tu gu tl, h) = some (some (vL (lM (D * 3 ^ c))), (SK tx tu gu tl, h)) := by
    intro c
    induction c with
    | zero =>
      intro j f D h1 h2
      obtain ⟨f, rfl⟩ : ∃ g, f = g + 1 := ⟨f - 1, by omega⟩
      rw [e_X11_threes_4, if_pos (nI_le (by omega) (by omega)), Nat.pow_zero, Nat.mul_one]
    | succ c ih =>
      intro j f D h1 h2
      obtain ⟨f, rfl⟩ : ∃ g, f = g + 1 := ⟨f - 1, by omega⟩
      rw [e_X11_threes_4, if_neg (nI_ge (by omega) (by omega)), show (3 : Int64) = lM 3 from rfl, lM_mul, nI_1, ih (j + 1) f (D * 3) (by omega) (by omega), Nat.mul_assoc, Nat.pow_succ, Nat.mul_comm (3 ^ c) 3]
  rw [c_X11_threes, e_X11_threes_0]
  refine (l1 N 0 999999 1 (by omega) (by omega)).trans ?_
  rw [Nat.one_mul]
theorem k_div {a b : Nat} (ha : a < 4611686018427387904) (hb : b < 4611686018427387904) (h : DT) : cal X (d + 1) 285 [vL (lM a), vL (lM b)] (SK tx tu gu tl, h) = some (some (vL (lM (Nat.gcd a b))), (SK tx tu gu tl, h)) := by
  have lp : ∀ k a b f, b < 2 ^ k → a < 4611686018427387904 → b < 4611686018427387904 → 2 * k + 1 ≤ f → m_X11_divisor X d f 6 [(4, vL (lM a)), (6, vL (lM b))] [] (SK tx tu gu tl, h) = some (some (vL (lM (Nat.gcd a b))), (SK tx tu gu tl, h)) := by
    intro k
    induction k with
    | zero =>
      intro a b f h1 h2 h3 h4
      obtain ⟨f, rfl⟩ : ∃ g, f = g + 1 := ⟨f - 1, by omega⟩
      obtain rfl : b = 0 := by
        rw [Nat.pow_zero] at h1
        omega
      rw [e_X11_divisor_6, if_pos ((lg_cmp_eq (lM 0) 0).mpr rfl), Nat.gcd_zero_right]
    | succ k ih =>
      intro a b f h1 h2 h3 h4
      obtain ⟨f, rfl⟩ : ∃ g, f = g + 1 + 1 := ⟨f - 2, by omega⟩
      by_cases z : b = 0
      · subst z
        rw [e_X11_divisor_6, if_pos ((lg_cmp_eq (lM 0) 0).mpr rfl), Nat.gcd_zero_right]
      · have hr : a % b < b := Nat.mod_lt _ (by omega)
        have hg : Nat.gcd a b = Nat.gcd b (a % b) := by rw [Nat.gcd_comm a b, Nat.gcd_rec b a, Nat.gcd_comm]
        rw [e_X11_divisor_6, if_neg (fun q => z ((lM_0 h3).mp ((lg_cmp_eq _ _).mp q))), if_neg (fun q => z ((lM_0 h3).mp q)), lM_rem h2 h3, hg]
        by_cases y : a % b = 0
        · rw [y, e_X11_divisor_6, if_pos ((lg_cmp_eq (lM 0) 0).mpr rfl), Nat.gcd_zero_right]
        · have hr2 : b % (a % b) < a % b := Nat.mod_lt _ (by omega)
          have hh : 2 * (b % (a % b)) < b := by
            have e1 := Nat.div_add_mod b (a % b)
            have e2 : 1 ≤ b / (a % b) := (Nat.one_le_div_iff (by omega)).mpr (by omega)
            have e3 : a % b * 1 ≤ a % b * (b / (a % b)) := Nat.mul_le_mul_left _ e2
            omega
          have hg2 : Nat.gcd b (a % b) = Nat.gcd (a % b) (b % (a % b)) := by rw [Nat.gcd_comm b, Nat.gcd_rec (a % b) b, Nat.gcd_comm]
          rw [e_X11_divisor_6, if_neg (fun q => y ((lM_0 (by omega)).mp ((lg_cmp_eq _ _).mp q))), if_neg (fun q => y ((lM_0 (by omega)).mp q)), lM_rem h3 (by omega), hg2]
          rw [Nat.pow_succ] at h1
          exact ih _ _ f (by omega) (by omega) (by omega) (by omega)
  rw [c_X11_divisor, e_X11_divisor_0]
  exact lp 62 a b 999999 (by omega) ha hb (by omega)
theorem k_part {u N : Nat} (hN : N ≤ 20) (hu : u ≤ 3 ^ N) (x : Int32) (h : DT) : cal X (d + 2) 288 [vL (lM u), vL (lM (3 ^ N)), vI x] (SK tx tu gu tl, h) = some (some (vL (oddV u N x)), (SK tx tu gu tl, h)) := by
  have h20 := p3_20 hN
  have hg := gcd3_pos u N
  have hg2 : Nat.gcd u (3 ^ N) ≤ 3 ^ N := Nat.le_of_dvd (Nat.pow_pos (by omega)) (Nat.gcd_dvd_right _ _)
  have nz : ¬ lM (Nat.gcd u (3 ^ N)) = 0 := fun q => by
    have := (lM_0 (by omega)).mp q
    omega
  rw [c_X11_part, e_X11_part_0, k_div X d tx tu gu tl (by omega) h20, bL_s, bL_s, if_neg nz, if_neg nz, lM_div (by omega) (by omega), lM_div (by omega) (by omega)]
  unfold oddV
  by_cases z : x = 0
  · rw [if_pos z, if_pos z]
  · rw [if_neg z, if_neg z]
theorem k_goOne {P : Nat → Nat} (h : DT) (hP : LB h 92 P) : ∃ h', cal X (d + 1) 287 [vP (some 72)] (SK tx tu gu tl, h) = some (none, (SK tx tu gu tl, h')) ∧ KZ h h' ∧ LB h' 92 (gos P) := by
  have l2 : ∀ c i (h : DT), i + c = 19 → LB h 93 (gos P) → (∀ j, j < i → gB h 92 j = lM (gos P j)) → ∃ h', (∀ f, m_X11_goOne X d (f + c + 1) 65 [(0, vP (some 72)), (1, vI (nI i))] [] (SK tx tu gu tl, h) = some (none, (SK tx tu gu tl, h'))) ∧ KZ h h' ∧ LB h' 92 (gos P) := by
    intro c
    induction c with
    | zero =>
      intro i h hi h1 h2
      refine ⟨h, fun f => ?_, smX.rf _ h, fun j hj => h2 j (by omega)⟩
      rw [e_X11_goOne_65, litI 19, if_pos (nI_le (by omega) (by omega))]
    | succ c ih =>
      intro i h hi h1 h2
      obtain ⟨h', k1, k2, k3⟩ := ih (i + 1) (sB h 92 i (lM (gos P i))) (by omega) (fun j hj => by rw [gB_sB, if_neg (by omega)]; exact h1 j hj) (fun j hj => by
        rw [gB_sB]
        by_cases z : j = i
        · subst z
          rw [if_pos ⟨rfl, rfl⟩]
        · rw [if_neg (by omega)]
          exact h2 j (by omega))
      refine ⟨h', fun f => ?_, smX.tr (smX_sB (by omega)) k2, k3⟩
      rw [show f + (c + 1) + 1 = f + c + 1 + 1 by omega, e_X11_goOne_65, litI 19, if_neg (nI_ge (by omega) (by omega)), inbI (by omega) (by omega), inbI (by omega) (by omega), h1 i (by omega), nI_1]
      exact k1 f
  have l1 : ∀ c i (h : DT), i + c = 19 → LB h 92 P → (∀ j, j < i → gB h 93 j = lM (gos P j)) → ∃ h', (∀ f, m_X11_goOne X d (f + 2 * c + 21) 2 [(0, vP (some 72)), (1, vI (nI i))] [] (SK tx tu gu tl, h) = some (none, (SK tx tu gu tl, h'))) ∧ KZ h h' ∧ LB h' 92 (gos P) := by
    intro c
    induction c with
    | zero =>
      intro i h hi h1 h2
      obtain ⟨h', k1, k2, k3⟩ := l2 19 0 h (by omega) (fun j hj => h2 j (by omega)) (fun j hj => by omega)
      refine ⟨h', fun f => ?_, k2, k3⟩
      rw [show f + 2 * 0 + 21 = f + 19 + 1 + 1 by omega, e_X11_goOne_2, litI 19, if_pos (nI_le (by omega) (by omega))]
      exact k1 f
    | succ c ih =>
      intro i h hi h1 h2
      obtain ⟨h', k1, k2, k3⟩ := ih (i + 1) (sB h 93 i (lM (gos P i))) (by omega) (fun j hj => by rw [gB_sB, if_neg (by omega)]; exact h1 j hj) (fun j hj => by
        rw [gB_sB]
        by_cases z : j = i
        · subst z
          rw [if_pos ⟨rfl, rfl⟩]
        · rw [if_neg (by omega)]
          exact h2 j (by omega))
      refine ⟨h', fun f => ?_, smX.tr (smX_sB (by omega)) k2, k3⟩
      have s34 : m_X11_goOne X d (f + 2 * c + 21 + 1) 34 [(0, vP (some 72)), (1, vI (nI i))] [vI (nI (i - 1)), vP (some 92), vL (lM (P i)), vI (nI i), vP (some 93)] (SK tx tu gu tl, h) = some (none, (SK tx tu gu tl, h')) := by
        rw [e_X11_goOne_34, inbI (by omega) (by omega), h1 (i - 1) (by omega), litI 18]
        by_cases z : i < 18
        · rw [if_neg (nI_ge (by omega) (by omega)), nI_1, inbI (by omega) (by omega), inbI (by omega) (by omega), h1 (i + 1) (by omega), lM_add, lM_add, show P i + P (i - 1) + P (i + 1) = gos P i by unfold gos; rw [if_pos z]; omega]
          exact k1 f
        · rw [if_pos (nI_le (by omega) (by omega)), inbI (by omega) (by omega), h1 18 (by omega), lM_add, lM_add, nI_1, show P i + P (i - 1) + P 18 = gos P i by unfold gos; rw [if_neg z]; omega]
          exact k1 f
      rw [show f + 2 * (c + 1) + 21 = f + 2 * c + 21 + 1 + 1 by omega, e_X11_goOne_2, litI 19, if_neg (nI_ge (by omega) (by omega)), inbI (by omega) (by omega), h1 i (by omega)]
      by_cases z : i = 0
      · rw [if_pos (show nI i ≤ 0 by rw [z]; decide), ← s34, z]
        rfl
      · rw [if_neg (nle0 (by omega) (by omega)), ← s34, show nI i - 1 = nI (i - 1) from subI (a := i) (b := 1) (by omega)]
  obtain ⟨h', k1, k2, k3⟩ := l1 19 0 h (by omega) hP (fun j hj => by omega)
  refine ⟨h', ?_, k2, k3⟩
  rw [c_X11_goOne, e_X11_goOne_0]
  exact k1 999940
end OK
