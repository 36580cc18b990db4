/-! SEATS: the class -/
theorem uo_all : ∀ n, n < 6 → ∀ r, r < fc n → (uo n n 0 r 0).isSome = true ∧ ∀ j, j < n → (urL n r).getD j 0 < n := by decide +kernel
def rw5 (n r : Nat) : Nat → Nat := fun j => (urL n r).getD j 0
def cosI (A : Nat → Int32) (L : Nat → Nat) : Nat → Nat → Int32 → Int32
  | 0, _, a => a
  | c + 1, j, a => cosI A L c (j + 1) (a + A (22 + L j) * absI (A (12 + L j) - A (32 + j)))
theorem cos_b {A : Nat → Int32} {n : Nat} {L : Nat → Nat} (H : PplOk A n) (h9 : ∀ i, i < 5 → stp9 (A (12 + i))) (hL : ∀ j, j < n → L j < n) : ∀ (c j a : Nat), j + c = n → a ≤ 200 * j → ∃ C, C ≤ 200 * n ∧ cosI A L c j (nI a) = nI C
  | 0, j, a, hj, ha => ⟨a, by omega, rfl⟩
  | c + 1, j, a, hj, ha => by
    obtain ⟨-, hn, hw, -, hr, -⟩ := id H
    have hl := hL j (by omega)
    obtain ⟨v, v1, v2, ev⟩ := hw (L j) hl
    obtain ⟨z, z1, z2, ez⟩ := in_z (lo := -9) (hi := 9) (h9 (L j) (by omega)).1 (h9 (L j) (by omega)).2 (by omega) (by omega) (by omega) (by omega)
    obtain ⟨y, y1, y2, ey⟩ := in_z (lo := -9) (hi := 9) (hr j (by omega)).1 (hr j (by omega)).2 (by omega) (by omega) (by omega) (by omega)
    unfold cosI
    rw [ev, ez, ey, zI_sub, absI_z (by omega) (by omega), mulI, addI]
    have hm : v * (z - y).natAbs ≤ 9 * 18 := Nat.mul_le_mul v2 (by omega)
    exact cos_b H h9 hL c (j + 1) _ (by omega) (by omega)
def cst (A : Nat → Int32) (n r : Nat) : Int32 := cosI A (rw5 n r) n 0 0
def bsI (A : Nat → Int32) (n : Nat) : Nat → Nat → Nat → Int32 → Nat × Int32
  | 0, _, b, l => (b, l)
  | c + 1, r, b, l => if r = 0 then bsI A n c (r + 1) r (cst A n r) else if l ≤ cst A n r then bsI A n c (r + 1) b l else bsI A n c (r + 1) r (cst A n r)
theorem bsI_lt {A : Nat → Int32} {n m : Nat} : ∀ (c r b : Nat) (l : Int32), r + c = m → b < m → (bsI A n c r b l).1 < m
  | 0, r, b, l, h1, h2 => h2
  | c + 1, r, b, l, h1, h2 => by
    unfold bsI
    split
    · exact bsI_lt c (r + 1) r _ (by omega) (by omega)
    · split
      · exact bsI_lt c (r + 1) b l (by omega) h2
      · exact bsI_lt c (r + 1) r _ (by omega) (by omega)
section SX
variable (X : XS) (d : Nat) (tx tu gu : Option Nat) (tl : List SC)
theorem x_uo {n : Nat} (hn : n ≤ 5) : ∀ (c i r tk f : Nat) (L : List Nat) (h : DT), i + c = n → tk < 32 → r ≤ 120 → uo n c i r tk = some L → 8 * c + 1 ≤ f → ∃ h', m_X10_unrank X d f 8 [(1, vI (nI n)), (2, vP (some 51)), (3, vI (nI r)), (4, vI (nI tk)), (5, vI (nI i))] [] (SK tx tu gu tl, h) = some (none, (SK tx tu gu tl, h')) ∧ smX (fun c => c = 51) h h' ∧ (∀ j, j < i → gA h' 51 j = gA h 51 j) ∧ ∀ j, j < c → gA h' 51 (i + j) = nI (L.getD j 0)
  | 0, i, r, tk, f, L, h, hi, ht, hr, hu, hf => by
    obtain ⟨f, rfl⟩ : ∃ g, f = g + 1 := ⟨f - 1, by omega⟩
    refine ⟨h, ?_, smX.rf _ h, fun j hj => rfl, fun j hj => by omega⟩
    rw [e_X10_unrank_8, if_pos (nI_le (by omega) (by omega))]
  | c + 1, i, r, tk, f, L, h, hi, ht, hr, hu, hf => by
    obtain ⟨f, rfl⟩ : ∃ g, f = g + 1 := ⟨f - 1, by omega⟩
    obtain ⟨f1, f2, f3⟩ := fc_ok c (by omega)
    unfold uo at hu
    cases hk : uk n 0 (r / fc c) tk with
    | none => rw [hk] at hu; cases hu
    | some q =>
      rw [hk] at hu
      simp only at hu
      have hql := uk_lt _ _ _ _ _ hk
      cases ho : uo n c (i + 1) (r % fc c) (tk ||| 2 ^ q) with
      | none => rw [ho] at hu; cases hu
      | some M =>
        rw [ho] at hu
        cases hu
        have hdv : r / fc c ≤ r := Nat.div_le_self _ _
        have hmd : r % fc c < fc c := Nat.mod_lt _ f2
        have e1 : nI n - 1 - nI i = nI c := by
          rw [show nI n - 1 = nI (n - 1) from subI (a := n) (b := 1) (by omega), subI (by omega), show n - 1 - i = c by omega]
        obtain ⟨f', g1, g2⟩ := x_uk X d tx tu gu tl (i := i) (rest := r % fc c) hn (by omega) h n 0 (r / fc c) tk q f (by omega) ht (by omega) hk (by omega)
        obtain ⟨h', k1, k2, k3, k4⟩ := x_uo hn c (i + 1) (r % fc c) (tk ||| 2 ^ q) f' M (sA h 51 i (nI q)) (by omega) (bt_s2 tk ht q (by omega)).2 (by omega) ho (by omega)
        refine ⟨h', ?_, smX.tr (smX_sA rfl) k2, fun j hj => ?_, fun j hj => ?_⟩
        · rw [e_X10_unrank_8, if_neg (nI_ge (by omega) (by omega)), e1, inbI (by omega) (by omega), f1, if_neg (nI_ne0 (by omega) (by omega)), if_neg (nI_ne0 (by omega) (by omega)), remI (by omega) f2 (by omega), divI (by omega) f2 (by omega)]
          exact g2.trans k1
        · rw [k3 j (by omega), gA_sA, if_neg (by omega)]
        · cases j with
          | zero =>
            rw [Nat.add_zero, k3 i (by omega), gA_sA, if_pos ⟨rfl, rfl⟩]
            rfl
          | succ j =>
            rw [show i + (j + 1) = i + 1 + j by omega, k4 j (by omega)]
            rfl
theorem x_unrank {n r : Nat} (hn : n ≤ 5) (hr : r < fc n) (h : DT) : ∃ h', cal X (d + 1) 159 [vI (nI r), vI (nI n), vP (some 51)] (SK tx tu gu tl, h) = some (none, (SK tx tu gu tl, h')) ∧ smX (fun c => c = 51) h h' ∧ ∀ j, j < n → gA h' 51 j = nI (rw5 n r j) := by
  obtain ⟨L, hL⟩ := Option.isSome_iff_exists.mp (uo_all n (by omega) r hr).1
  have := (fc_ok n (by omega)).2.2
  obtain ⟨h', k1, k2, k3, k4⟩ := x_uo X d tx tu gu tl hn n 0 r 0 999999 L h (by omega) (by omega) (by omega) hL (by omega)
  refine ⟨h', ?_, k2, fun j hj => ?_⟩
  · rw [c_X10_unrank, e_X10_unrank_0]
    exact k1
  · have := k4 j hj
    rw [Nat.zero_add] at this
    rw [this]
    unfold rw5 urL
    rw [hL]
    rfl
theorem x_cost {n t k : Nat} {L : Nat → Nat} (h : DT) (H : RA h (gA h 73) n t k) (hL : ∀ j, j < n → L j < n) (h51 : ∀ j, j < n → gA h 51 j = nI (L j)) : cal X (d + 1) 155 [vP (some 0)] (SK tx tu gu tl, h) = some (some (vI (cosI (gA h 73) L n 0 0)), (SK tx tu gu tl, h)) := by
  obtain ⟨a0, hn, x0⟩ := H.p
  have lp : ∀ c j f (a : Int32), j + c = n → c + 1 ≤ f → m_X10_costOfOrder X d f 4 [(0, vP (some 0)), (1, vI a), (2, vI (nI j))] [] (SK tx tu gu tl, h) = some (some (vI (cosI (gA h 73) L c j a)), (SK tx tu gu tl, h)) := by
    intro c
    induction c with
    | zero =>
      intro j f a h1 h2
      obtain ⟨f, rfl⟩ : ∃ g, f = g + 1 := ⟨f - 1, by omega⟩
      rw [e_X10_costOfOrder_4, x0, if_pos (nI_le (by omega) (by omega))]
      rfl
    | succ c ih =>
      intro j f a h1 h2
      obtain ⟨f, rfl⟩ : ∃ g, f = g + 1 := ⟨f - 1, by omega⟩
      have hl := hL j (by omega)
      rw [e_X10_costOfOrder_4, x0, if_neg (nI_ge (by omega) (by omega)), inbI (by omega) (by omega), h51 j (by omega), inbI (by omega) (by omega), inbI (by omega) (by omega), inbI (by omega) (by omega), abs0, H.we (by omega), H.sl (by omega), H.2.2.2.2.2.2.2.2.2.1 j (by omega), nI_1, ih (j + 1) f _ (by omega) (by omega)]
      rfl
  rw [c_X10_costOfOrder, e_X10_costOfOrder_0]
  exact lp n 0 999999 0 (by omega) (by omega)
end SX
