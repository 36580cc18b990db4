/-! TURNS: an order by its number, into the class's row of sitters -/
theorem TuA.b95 {b : Nat} {tl : List SC} (hb : TuA b tl) : 95 ≤ b := by rcases hb with ⟨z, _⟩ | ⟨z, _⟩ <;> omega
section UB
variable (X : XS) (d : Nat) (tx tu gu : Option Nat) (tl : List SC)
theorem x_ukb {b n i rest : Nat} (hB : TuA b tl) (hn : n ≤ 5) (hi : i < n) (h : DT) : ∀ (c k s tk q f : Nat), k + c = n → tk < 32 → s ≤ 120 → uk c k s tk = some q → c + 1 ≤ f → ∃ f', f' + c + 1 ≥ f ∧ m_X10_unrank X d f 40 [(1, vI (nI n)), (2, vP (some (b + 1))), (3, vI (nI rest)), (4, vI (nI tk)), (5, vI (nI i)), (7, vI (nI s)), (8, vI (nI k))] [] (SK tx tu gu tl, h) = m_X10_unrank X d f' 8 [(1, vI (nI n)), (2, vP (some (b + 1))), (3, vI (nI rest)), (4, vI (nI (tk ||| 2 ^ q))), (5, vI (nI (i + 1)))] [] (SK tx tu gu tl, sA h (b + 1) i (nI q))
  | 0, k, s, tk, q, f, hk, ht, hs, hq, hf2 => by cases hq
  | c + 1, k, s, tk, q, f, hk, ht, hs, hq, hf2 => by
    obtain ⟨f, rfl⟩ : ∃ g, f = g + 1 := ⟨f - 1, by omega⟩
    unfold uk at hq
    rw [e_X10_unrankb_40 (hb := hB), if_neg (nI_ge (by omega) (by omega)), bt_g7 tk ht k (by omega)]
    cases hb : Nat.testBit tk k with
    | true =>
      rw [hb, cond_true] at hq
      have hql := uk_lt _ _ _ _ _ hq
      rw [bz_t, if_neg one0, nI_1]
      obtain ⟨f', g1, g2⟩ := x_ukb hB hn hi h c (k + 1) s tk q f (by omega) ht hs hq (by omega)
      exact ⟨f', by omega, g2⟩
    | false =>
      rw [hb, cond_false] at hq
      rw [bz_f, if_pos rfl]
      by_cases z : s = 0
      · rw [if_pos z] at hq
        cases hq
        rw [if_pos (show nI s = 0 by rw [z]; rfl), inbI (by omega) (by omega), (bt_s2 tk ht k (by omega)).1, nI_1]
        exact ⟨f, by omega, rfl⟩
      · rw [if_neg z] at hq
        have e2 : nI s + (-1) = nI (s - 1) := by
          obtain ⟨u, rfl⟩ : ∃ u, s = u + 1 := ⟨s - 1, by omega⟩
          exact nI_m1 u
        rw [if_neg (nI_ne0 (by omega) (by omega)), e2, nI_1]
        obtain ⟨f', g1, g2⟩ := x_ukb hB hn hi h c (k + 1) (s - 1) tk q f (by omega) ht (by omega) hq (by omega)
        exact ⟨f', by omega, g2⟩
theorem x_uob {b n : Nat} (hB : TuA b tl) (hn : n ≤ 5) : ∀ (c i r tk f : Nat) (L : List Nat) (h : DT), i + c = n → tk < 32 → r ≤ 120 → uo n c i r tk = some L → 8 * c + 1 ≤ f → ∃ h', m_X10_unrank X d f 8 [(1, vI (nI n)), (2, vP (some (b + 1))), (3, vI (nI r)), (4, vI (nI tk)), (5, vI (nI i))] [] (SK tx tu gu tl, h) = some (none, (SK tx tu gu tl, h')) ∧ smX (fun c => c = b + 1) h h' ∧ (∀ j, j < i → gA h' (b + 1) j = gA h (b + 1) j) ∧ ∀ j, j < c → gA h' (b + 1) (i + j) = nI (L.getD j 0)
  | 0, i, r, tk, f, L, h, hi, ht, hr, hu, hf => by
    obtain ⟨f, rfl⟩ : ∃ g, f = g + 1 := ⟨f - 1, by omega⟩
    refine ⟨h, ?_, smX.rf _ h, fun j hj => rfl, fun j hj => by omega⟩
    rw [e_X10_unrankb_8 (hb := hB), if_pos (nI_le (by omega) (by omega))]
  | c + 1, i, r, tk, f, L, h, hi, ht, hr, hu, hf => by
    obtain ⟨f, rfl⟩ : ∃ g, f = g + 1 := ⟨f - 1, by omega⟩
    obtain ⟨f1, f2, f3⟩ := fc_ok c (by omega)
    unfold uo at hu
    cases hk : uk n 0 (r / fc c) tk with
    | none => rw [hk] at hu; cases hu
    | some q =>
      rw [hk] at hu
      simp only at hu
      have hql := uk_lt _ _ _ _ _ hk
      cases ho : uo n c (i + 1) (r % fc c) (tk ||| 2 ^ q) with
      | none => rw [ho] at hu; cases hu
      | some M =>
        rw [ho] at hu
        cases hu
        have hdv : r / fc c ≤ r := Nat.div_le_self _ _
        have hmd : r % fc c < fc c := Nat.mod_lt _ f2
        have e1 : nI n - 1 - nI i = nI c := by
          rw [show nI n - 1 = nI (n - 1) from subI (a := n) (b := 1) (by omega), subI (by omega), show n - 1 - i = c by omega]
        obtain ⟨f', g1, g2⟩ := x_ukb X d tx tu gu tl hB (i := i) (rest := r % fc c) hn (by omega) h n 0 (r / fc c) tk q f (by omega) ht (by omega) hk (by omega)
        obtain ⟨h', k1, k2, k3, k4⟩ := x_uob hB hn c (i + 1) (r % fc c) (tk ||| 2 ^ q) f' M (sA h (b + 1) i (nI q)) (by omega) (bt_s2 tk ht q (by omega)).2 (by omega) ho (by omega)
        refine ⟨h', ?_, smX.tr (smX_sA rfl) k2, fun j hj => ?_, fun j hj => ?_⟩
        · rw [e_X10_unrankb_8 (hb := hB), if_neg (nI_ge (by omega) (by omega)), e1, inbI (by omega) (by omega), f1, if_neg (nI_ne0 (by omega) (by omega)), if_neg (nI_ne0 (by omega) (by omega)), remI (by omega) f2 (by omega), divI (by omega) f2 (by omega)]
          exact g2.trans k1
        · rw [k3 j (by omega), gA_sA, if_neg (by omega)]
        · cases j with
          | zero =>
            show gA h' (b + 1) i = _
            rw [k3 i (by omega), gA_sA, if_pos ⟨rfl, rfl⟩]
            rfl
          | succ j =>
            rw [show i + (j + 1) = i + 1 + j by omega, k4 j (by omega)]
            rfl
theorem x_unrankb {b n r : Nat} (hB : TuA b tl) (hn : n ≤ 5) (hr : r < fc n) (h : DT) : ∃ h', cal X (d + 1) 159 [vI (nI r), vI (nI n), vP (some (b + 1))] (SK tx tu gu tl, h) = some (none, (SK tx tu gu tl, h')) ∧ smX (fun c => c = b + 1) h h' ∧ ∀ j, j < n → gA h' (b + 1) j = nI (rw5 n r j) := by
  obtain ⟨L, hL⟩ := Option.isSome_iff_exists.mp (uo_all n (by omega) r hr).1
  have := (fc_ok n (by omega)).2.2
  obtain ⟨h', k1, k2, k3, k4⟩ := x_uob X d tx tu gu tl hB hn n 0 r 0 999999 L h (by omega) (by omega) (by omega) hL (by omega)
  refine ⟨h', ?_, k2, fun j hj => ?_⟩
  · rw [c_X10_unrankb, e_X10_unrankb_0 (hb := hB)]
    exact k1
  · have := k4 j hj
    rw [Nat.zero_add] at this
    rw [this]
    unfold rw5 urL
    rw [hL]
    rfl
end UB
def lsF (L : Nat → Nat) : Nat → Nat → List Nat
  | 0, _ => []
  | c + 1, i => L i :: lsF L c (i + 1)
theorem lsF_len (L : Nat → Nat) : ∀ c i, (lsF L c i).length = c
  | 0, _ => rfl
  | c + 1, i => by rw [show lsF L (c + 1) i = L i :: lsF L c (i + 1) from rfl, List.length_cons, lsF_len L c]
def rvF (L : Nat → Nat) (m : Nat) : Nat → Nat := fun i => if i < m then L (m - 1 - i) else L i
def bsG (L : Nat → Nat) : Nat → Nat → Nat → Nat
  | 0, _, a => a
  | c + 1, i, a => bsG L c (i + 1) (a ||| 2 ^ L i)
set_option maxRecDepth 100000 in
theorem ck4_t : allB (fun n => allB (fun r => (lsF (rw5 n r) n 0 == urL n r) && allB (fun j => (lsF (rvF (rw5 n r) (j + 1)) n 0 == rvL (urL n r) (j + 1)) && (bsG (rw5 n r) (j + 1) 0 0 == tbT n (r * 5 + j))) n) (fc n)) 6 = true := by decide +kernel
/-- what the tables say of an order and a turn -/
theorem tk_o {n r : Nat} (hn : n < 6) (hr : r < fc n) : c5T n r < 3125 ∧ c5T n r = c5 (urL n r) ∧ rkL (urL n r) = r ∧ lsF (rw5 n r) n 0 = urL n r ∧ ∀ j, j < n → obT n (r * 5 + j) = rkL (lsF (rvF (rw5 n r) (j + 1)) n 0) ∧ urL n (obT n (r * 5 + j)) = rvL (urL n r) (j + 1) ∧ tbT n (r * 5 + j) = bsG (rw5 n r) (j + 1) 0 0 ∧ obT n (r * 5 + j) < fc n ∧ tbT n (r * 5 + j) < 32 ∧ lsF (rvF (rw5 n r) (j + 1)) n 0 = rvL (urL n r) (j + 1) := by
  have h1 := allB_h (allB_h ck1_t n hn) r hr
  have h4 := allB_h (allB_h ck4_t n hn) r hr
  unfold ck1 at h1
  simp only [Bool.and_eq_true, beq_iff_eq] at h1 h4
  obtain ⟨⟨⟨a1, a2⟩, a3⟩, a4⟩ := h1
  obtain ⟨b1, b2⟩ := h4
  refine ⟨Nat.ble_eq.mp a1, a2, a3, b1, fun j hj => ?_⟩
  have q1 := allB_h a4 j hj
  have q2 := allB_h b2 j hj
  simp only [Bool.and_eq_true, beq_iff_eq] at q1 q2
  obtain ⟨⟨⟨⟨c1, c2⟩, c3⟩, c4⟩, c5'⟩ := q1
  exact ⟨by rw [q2.1]; exact c1, c2, q2.2.symm, Nat.ble_eq.mp c4, Nat.ble_eq.mp c5', q2.1⟩
theorem tk_i {n r q : Nat} (hn : n < 6) (hr : r < fc n) (hq : q < fc n) (h : c5T n r = c5T n q) : r = q := by
  have h1 := allB_h (allB_h (allB_h ck2_t n hn) r hr) q hq
  simp only [Bool.or_eq_true, bne_iff_ne, beq_iff_eq] at h1
  rcases h1 with z | z
  · exact absurd h z
  · exact z
theorem tk_d {n a : Nat} (hn : n < 6) (ha : a < 32 * fc n) : (∀ j, j < n → spT n (spT n a j) j = a ∧ spT n a j < 32 * fc n ∧ (dsT n a = 15 → dsT n (spT n a j) = 15) ∧ (dsT n a ≠ 15 → dsT n (spT n a j) ≤ dsT n a + 1)) ∧ (dsT n a = 0 → a = 0) ∧ (dsT n a ≠ 0 → dsT n a ≠ 15 → ∃ j, j < n ∧ dsT n (spT n a j) + 1 = dsT n a) ∧ (dsT n a ≤ 10 ∨ dsT n a = 15) := by
  have h1 := allB_h (allB_h ck3_t n hn) a ha
  unfold ck3 at h1
  rw [Bool.and_eq_true, Bool.and_eq_true] at h1
  obtain ⟨⟨a1, a2⟩, a3⟩ := h1
  refine ⟨fun j hj => ?_, fun z => ?_, fun z1 z2 => ?_, ?_⟩
  · have q := allB_h a1 j hj
    simp only [Bool.and_eq_true, beq_iff_eq] at q
    obtain ⟨⟨q1, q2⟩, q3⟩ := q
    refine ⟨q1, Nat.ble_eq.mp q2, fun z => ?_, fun z => ?_⟩
    · rw [if_pos z] at q3
      exact beq_iff_eq.mp q3
    · rw [if_neg z] at q3
      exact Nat.ble_eq.mp q3
  · rw [if_pos z] at a2
    exact beq_iff_eq.mp a2
  · rw [if_neg z1, if_neg z2] at a2
    obtain ⟨j, j1, j2⟩ := anyB_h a2
    exact ⟨j, j1, beq_iff_eq.mp j2⟩
  · rw [Bool.or_eq_true] at a3
    rcases a3 with z | z
    · exact Or.inl (Nat.ble_eq.mp z)
    · exact Or.inr (beq_iff_eq.mp z)
