/-! PROPS -/
def pc5 (j : Nat) : Nat := j % 2 + j / 2 % 2 + j / 4 % 2 + j / 8 % 2 + j / 16 % 2
theorem pc_bitC : ∀ j, j < 32 → bitC (nI j) = nI (pc5 j) := by decide +kernel
theorem pc_step : ∀ j, j < 32 → j ≠ 0 → (nI j &&& (nI j - 1) = nI (j &&& (j - 1)) ∧ (j &&& (j - 1)) < 32 ∧ pc5 (j &&& (j - 1)) + 1 = pc5 j) := by decide +kernel
theorem pc_le : ∀ j, j < 32 → pc5 j ≤ 5 := by decide +kernel
theorem bt_g7 : ∀ q, q < 32 → ∀ j, j < 7 → (nI q >>> (nI j &&& 31)) &&& 1 = bzB (Nat.testBit q j) := by decide +kernel
theorem full5 : ∀ n, n < 6 → (1 : Int32) <<< (nI n &&& 31) - 1 = nI (2 ^ n - 1) := by decide +kernel
def hlB (m : Nat) : Nat → Nat → Bool
  | 0, _ => true
  | c + 1, x => (Nat.testBit m x || (Nat.testBit m (x + 1) || (!(Nat.beq x 0) && Nat.testBit m (x - 1)))) && hlB m c (x + 1)
def cB (n q m : Nat) : Bool := decide (((nI m ||| (nI m <<< ((1 : Int32) &&& 31))) ||| (nI m >>> ((1 : Int32) &&& 31))) &&& nI (2 ^ n - 1) = nI (2 ^ n - 1)) && decide (nI m &&& nI q = 0)
def kB (n q m : Nat) : Bool := decide (nI m &&& nI q = 0) && hlB m n 0
def cX (n q : Nat) : Nat → Nat → Option Nat → Option Nat
  | 0, _, b => b
  | c + 1, m, b => cX n q c (m + 1) (bif cB n q m then (match b with | none => some m | some j => if pc5 j ≤ pc5 m then some j else some m) else b)
def kX (n q : Nat) : Nat → Option Nat → Option Nat
  | 0, b => b
  | m + 1, b => kX n q m (bif kB n q m then (match b with | none => some m | some j => if pc5 j < pc5 m then some j else some m) else b)
theorem props_eq : ∀ n, n < 6 → ∀ q, q < 32 → cX n q (2 ^ n) 0 none = kX n q (2 ^ n) none := by decide +kernel
def oV (b : Option Nat) : Int32 := match b with
  | none => -1
  | some j => nI j
def oK (b : Option Nat) : Prop := ∀ j, b = some j → j < 32
def prV (b : Option Nat) (x : Int32) : Int32 := match b with
  | none => -1
  | some j => if x = 0 then nI j else nI (pc5 j)
section PP
variable (X : XS) (d : Nat) (tx tu gu : Option Nat) (tl : List SC) (h : DT)
theorem k_bits {j : Nat} (hj : j < 32) : cal X (d + 1) 166 [vI (nI j)] (SK tx tu gu tl, h) = some (some (vI (nI (pc5 j))), (SK tx tu gu tl, h)) := by
  have lp : ∀ c j a f, j < 32 → pc5 j ≤ c → c + 1 ≤ f → m_X11_bits X d f 4 [(1, vI (nI a)), (2, vI (nI j))] [] (SK tx tu gu tl, h) = some (some (vI (nI (a + pc5 j))), (SK tx tu gu tl, h)) := by
    intro c
    induction c with
    | zero =>
      intro j a f h1 h2 h3
      obtain ⟨f, rfl⟩ : ∃ g, f = g + 1 := ⟨f - 1, by omega⟩
      by_cases hz : j = 0
      · subst hz
        rw [e_X11_bits_4, if_pos (show nI 0 = 0 from rfl)]
        rfl
      · have := (pc_step j h1 hz).2.2
        omega
    | succ c ih =>
      intro j a f h1 h2 h3
      obtain ⟨f, rfl⟩ : ∃ g, f = g + 1 := ⟨f - 1, by omega⟩
      by_cases hz : j = 0
      · subst hz
        rw [e_X11_bits_4, if_pos (show nI 0 = 0 from rfl)]
        rfl
      · obtain ⟨p1, p2, p3⟩ := pc_step j h1 hz
        rw [e_X11_bits_4, if_neg (nI_ne0 (by omega) (by omega)), p1, nI_1, ih _ (a + 1) f p2 (by omega) (by omega), show a + 1 + pc5 (j &&& (j - 1)) = a + pc5 j by omega]
  rw [c_X11_bits, e_X11_bits_0]
  refine (lp 5 j 0 999999 hj (pc_le j hj) (by omega)).trans ?_
  rw [Nat.zero_add]
theorem k_hasb {q j : Nat} (hq : q < 32) (hj : j < 7) : cal X (d + 1) 165 [vI (nI q), vI (nI j)] (SK tx tu gu tl, h) = some (some (vI (bzB (Nat.testBit q j))), (SK tx tu gu tl, h)) := by
  rw [c_X11_has, e_X11_has_0, bt_g7 q hq j hj]
  cases Nat.testBit q j <;> rfl
theorem k_areHeld {n q m : Nat} (hn : n ≤ 5) (hm : m < 32) (a0 : gA h 73 0 = nI n) (a37 : gA h 73 37 = nI q) : cal X (d + 2) 283 [vP (some 72), vI (nI m)] (SK tx tu gu tl, h) = some (some (vI (bzB (kB n q m))), (SK tx tu gu tl, h)) := by
  have lp : ∀ c x f, x + c = n → c + 1 ≤ f → m_X11_areHeld X (d + 1) f 16 [(0, vP (some 72)), (1, vI (nI m)), (2, vI (nI x))] [] (SK tx tu gu tl, h) = some (some (vI (bzB (hlB m c x))), (SK tx tu gu tl, h)) := by
    intro c
    induction c with
    | zero =>
      intro x f h1 h2
      obtain ⟨f, rfl⟩ : ∃ g, f = g + 1 := ⟨f - 1, by omega⟩
      rw [e_X11_areHeld_16, a0, if_pos (nI_le (by omega) (by omega))]
      rfl
    | succ c ih =>
      intro x f h1 h2
      obtain ⟨f, rfl⟩ : ∃ g, f = g + 1 := ⟨f - 1, by omega⟩
      rw [e_X11_areHeld_16, a0, if_neg (nI_ge (by omega) (by omega)), k_hasb X d tx tu gu tl h hm (by omega), bI_s, nI_1]
      unfold hlB
      cases Nat.testBit m x with
      | true =>
        rw [bz_t, if_neg one0, ih (x + 1) f (by omega) (by omega)]
        rfl
      | false =>
        rw [bz_f, if_pos rfl, k_hasb X d tx tu gu tl h hm (by omega), bI_s]
        cases Nat.testBit m (x + 1) with
        | true =>
          rw [bz_t, if_neg one0, ih (x + 1) f (by omega) (by omega)]
          rfl
        | false =>
          rw [bz_f, if_pos rfl]
          by_cases hx : x = 0
          · subst hx
            rw [if_pos (show nI 0 = 0 from rfl)]
            rfl
          · have e1 : nI x - 1 = nI (x - 1) := subI (a := x) (b := 1) (by omega)
            rw [if_neg (nI_ne0 (by omega) (by omega)), e1, k_hasb X d tx tu gu tl h hm (by omega), bI_s, show Nat.beq x 0 = false by cases x with | zero => omega | succ x => rfl]
            cases Nat.testBit m (x - 1) with
            | true =>
              rw [bz_t, if_neg one0, ih (x + 1) f (by omega) (by omega)]
              rfl
            | false =>
              rw [bz_f, if_pos rfl]
              rfl
  rw [c_X11_areHeld, e_X11_areHeld_0, a37]
  unfold kB
  by_cases hq : nI m &&& nI q = 0
  · rw [if_pos hq, decide_eq_true hq]
    exact lp n 0 999999 (by omega) (by omega)
  · rw [if_neg hq, decide_eq_false hq]
    rfl
theorem nIm1' {n : Nat} (hn : n < 2147483648) : ¬ nI n = -1 := nIneg hn
theorem k_prl {n q : Nat} (hn : n ≤ 5) (a0 : gA h 73 0 = nI n) (a37 : gA h 73 37 = nI q) (x : Int32) : ∀ (m f : Nat) (b : Option Nat), m ≤ 32 → oK b → m + 1 ≤ f → m_X11_props X (d + 2) f 13 [(0, vP (some 72)), (1, vI x), (2, vI (oV b)), (3, vI (nI m - 1))] [] (SK tx tu gu tl, h) = some (some (vI (prV (kX n q m b) x)), (SK tx tu gu tl, h))
  | 0, f, b, hm, hb, hf => by
    obtain ⟨f, rfl⟩ : ∃ g, f = g + 1 := ⟨f - 1, by omega⟩
    rw [e_X11_props_13, if_pos (show nI 0 - 1 < 0 by decide)]
    cases b with
    | none =>
      rw [if_pos (show oV none = -1 from rfl)]
      rfl
    | some j =>
      have hj := hb j rfl
      rw [if_neg (show ¬ oV (some j) = -1 from nIneg (by omega))]
      show (if x = 0 then _ else _) = some (some (vI (if x = 0 then nI j else nI (pc5 j))), (SK tx tu gu tl, h))
      by_cases hx : x = 0
      · rw [if_pos hx, if_pos hx]
        rfl
      · rw [if_neg hx, if_neg hx, show oV (some j) = nI j from rfl, k_bits X (d + 1) tx tu gu tl h hj, bI_s]
  | m + 1, f, b, hm, hb, hf => by
    obtain ⟨f, rfl⟩ : ∃ g, f = g + 1 := ⟨f - 1, by omega⟩
    have e1 : nI (m + 1) - 1 = nI m := subI (a := m + 1) (b := 1) (by omega)
    have e2 : nI m + (-1) = nI m - 1 := (Int32.sub_eq_add_neg _ _).symm
    rw [e_X11_props_13, e1, if_neg (show ¬ nI m < 0 from fun g => absurd ((nI_ltI (a := m) (b := 0) (by omega) (by omega)).mp g) (by omega)), k_areHeld X d tx tu gu tl h hn (by omega) a0 a37, bI_s, e2]
    unfold kX
    cases kB n q m with
    | false =>
      rw [bz_f, if_pos rfl]
      exact k_prl hn a0 a37 x m f b (by omega) hb (by omega)
    | true =>
      rw [bz_t, if_neg one0]
      cases b with
      | none =>
        rw [if_pos (show oV none = -1 from rfl)]
        exact k_prl hn a0 a37 x m f (some m) (by omega) (fun j e => by cases e; omega) (by omega)
      | some j =>
        have hj := hb j rfl
        have p1 := pc_le j hj
        have p2 := pc_le m (by omega)
        rw [if_neg (show ¬ oV (some j) = -1 from nIneg (by omega)), k_bits X (d + 1) tx tu gu tl h (by omega), bI_s, show oV (some j) = nI j from rfl, k_bits X (d + 1) tx tu gu tl h hj, bI_s]
        show (if nI (pc5 j) < nI (pc5 m) then _ else _) = some (some (vI (prV (kX n q m (if pc5 j < pc5 m then some j else some m)) x)), (SK tx tu gu tl, h))
        by_cases g : pc5 j < pc5 m
        · rw [if_pos ((nI_ltI (by omega) (by omega)).mpr g), if_pos g]
          exact k_prl hn a0 a37 x m f (some j) (by omega) (fun j' e => by cases e; omega) (by omega)
        · rw [if_neg (fun z => g ((nI_ltI (by omega) (by omega)).mp z)), if_neg g]
          exact k_prl hn a0 a37 x m f (some m) (by omega) (fun j e => by cases e; omega) (by omega)
theorem x_prl {n q : Nat} (hn : n ≤ 5) (a37 : gF h 9 2 = nI q) (x : Int32) : ∀ (c m f : Nat) (b : Option Nat), m + c = 2 ^ n → oK b → 2 * c + 1 ≤ f → m_X10_props X d f 17 [(0, vP (some 0)), (1, vI x), (2, vI (nI (2 ^ n - 1))), (3, vI (oV b)), (4, vI (nI m))] [] (SK tx tu gu tl, h) = some (some (vI (prV (cX n q c m b) x)), (SK tx tu gu tl, h))
  | 0, m, f, b, hm, hb, hf => by
    obtain ⟨f, rfl⟩ : ∃ g, f = g + 1 := ⟨f - 1, by omega⟩
    have hp : 2 ^ n ≤ 32 ∧ 1 ≤ 2 ^ n := by
      obtain rfl | rfl | rfl | rfl | rfl | rfl : n = 0 ∨ n = 1 ∨ n = 2 ∨ n = 3 ∨ n = 4 ∨ n = 5 := by omega
      all_goals decide
    rw [e_X10_props_17, if_pos ((nI_ltI (by omega) (by omega)).mpr (by omega))]
    cases b with
    | none =>
      rw [if_pos (show oV none = -1 from rfl)]
      rfl
    | some j =>
      have hj := hb j rfl
      rw [if_neg (show ¬ oV (some j) = -1 from nIneg (by omega))]
      show (if x = 0 then _ else _) = some (some (vI (if x = 0 then nI j else nI (pc5 j))), (SK tx tu gu tl, h))
      by_cases hx : x = 0
      · rw [if_pos hx, if_pos hx]
        rfl
      · rw [if_neg hx, if_neg hx, show oV (some j) = nI j from rfl, pc_bitC j hj]
  | c + 1, m, f, b, hm, hb, hf => by
    obtain ⟨f, rfl⟩ : ∃ g, f = g + 2 := ⟨f - 2, by omega⟩
    have hp : 2 ^ n ≤ 32 ∧ 1 ≤ 2 ^ n := by
      obtain rfl | rfl | rfl | rfl | rfl | rfl : n = 0 ∨ n = 1 ∨ n = 2 ∨ n = 3 ∨ n = 4 ∨ n = 5 := by omega
      all_goals decide
    rw [e_X10_props_17, if_neg (fun g => absurd ((nI_ltI (by omega) (by omega)).mp g) (by omega))]
    unfold cX cB
    by_cases g1 : ((nI m ||| (nI m <<< ((1 : Int32) &&& 31))) ||| (nI m >>> ((1 : Int32) &&& 31))) &&& nI (2 ^ n - 1) = nI (2 ^ n - 1)
    · rw [if_pos g1, decide_eq_true g1, e_X10_props_46, if_neg one0, a37, nI_1]
      by_cases g2 : nI m &&& nI q = 0
      · rw [if_pos g2, decide_eq_true g2]
        cases b with
        | none =>
          rw [if_pos (show oV none = -1 from rfl)]
          exact x_prl hn a37 x c (m + 1) f (some m) (by omega) (fun j e => by cases e; omega) (by omega)
        | some j =>
          have hj := hb j rfl
          have p1 := pc_le j hj
          have p2 := pc_le m (by omega)
          rw [if_neg (show ¬ oV (some j) = -1 from nIneg (by omega)), show oV (some j) = nI j from rfl, pc_bitC j hj, pc_bitC m (by omega)]
          show (if nI (pc5 j) ≤ nI (pc5 m) then _ else _) = some (some (vI (prV (cX n q c (m + 1) (if pc5 j ≤ pc5 m then some j else some m)) x)), (SK tx tu gu tl, h))
          by_cases g : pc5 j ≤ pc5 m
          · rw [if_pos ((nI_leI (by omega) (by omega)).mpr g), if_pos g]
            exact x_prl hn a37 x c (m + 1) f (some j) (by omega) (fun j' e => by cases e; omega) (by omega)
          · rw [if_neg (fun z => g ((nI_leI (by omega) (by omega)).mp z)), if_neg g]
            exact x_prl hn a37 x c (m + 1) f (some m) (by omega) (fun j e => by cases e; omega) (by omega)
      · rw [if_neg g2, decide_eq_false g2]
        exact x_prl hn a37 x c (m + 1) f b (by omega) hb (by omega)
    · rw [if_neg g1, decide_eq_false g1, e_X10_props_46, if_pos rfl, nI_1]
      exact x_prl hn a37 x c (m + 1) f b (by omega) hb (by omega)
theorem op_props {n t k : Nat} (H : RA h (gA h 73) n t k) (x : Int32) : OpA X tx tu gu tl h n t k 132 [vP (some 0), vI x] 284 [vP (some 72), vI x] := by
  obtain ⟨a0, hn, x0⟩ := H.p
  obtain ⟨q, hq, a37⟩ := H.1.1.2.2.2.2.2
  have x37 : gF h 9 2 = nI q := H.2.2.2.2.2.1.trans a37
  have hp : 2 ^ n ≤ 32 ∧ 1 ≤ 2 ^ n := by
    obtain rfl | rfl | rfl | rfl | rfl | rfl : n = 0 ∨ n = 1 ∨ n = 2 ∨ n = 3 ∨ n = 4 ∨ n = 5 := by omega
    all_goals decide
  refine OpA_id (v := vI (prV (cX n q (2 ^ n) 0 none) x)) H ?_ ?_
  · rw [c_X10_props, e_X10_props_0, x0, full5 n (by omega)]
    exact x_prl X 99 tx tu gu tl h hn x37 x (2 ^ n) 0 999999 none (by omega) (fun j e => by cases e) (by omega)
  · rw [c_X11_props, e_X11_props_0, a0, full5 n (by omega), props_eq n (by omega) q hq, show nI (2 ^ n - 1) = nI (2 ^ n) - 1 from (subI (a := 2 ^ n) (b := 1) (by omega)).symm]
    exact k_prl X 97 tx tu gu tl h hn a0 a37 x (2 ^ n) 999999 none (by omega) (fun j e => by cases e) (by omega)
end PP
