/-! UNRANK -/
theorem c_X10_unrank (X : XS) (d : Nat) (x0 : Int32) (x1 : Int32) (H : HP) : cal X (d + 1) 159 [vI x0, vI x1, vP (some 51)] H = m_X10_unrank X d 1000000 0 [(0, vI x0), (1, vI x1), (2, vP (some 51))] [] H := cal_eq t_X10_unrank _ _ rfl
set_option maxRecDepth 20000 in
theorem e_X10_unrank_0 (X : XS) (d f : Nat) (x0 : Int32) (x1 : Int32) (tx : Option Nat) (tu : Option Nat) (gu : Option Nat) (tl : List SC) (h : DT) : m_X10_unrank X d (f + 1) 0 [(0, vI x0), (1, vI x1), (2, vP (some 51))] [] (SK tx tu gu tl, h) = m_X10_unrank X d f 8 [(1, vI x1), (2, vP (some 51)), (3, vI x0), (4, vI 0), (5, vI 0)] [] (SK tx tu gu tl, h) := rfl
set_option maxRecDepth 20000 in
theorem e_X10_unrank_8 (X : XS) (d f : Nat) (x1 : Int32) (x3 : Int32) (x4 : Int32) (x5 : Int32) (tx : Option Nat) (tu : Option Nat) (gu : Option Nat) (tl : List SC) (h : DT) : m_X10_unrank X d (f + 1) 8 [(1, vI x1), (2, vP (some 51)), (3, vI x3), (4, vI x4), (5, vI x5)] [] (SK tx tu gu tl, h) = if x1 ≤ x5 then (some (none, (SK tx tu gu tl, h))) else inb ((x1 - 1) - x5) 6 fun j1 => if (facN.getD j1 0) = 0 then none else if (facN.getD j1 0) = 0 then none else m_X10_unrank X d f 40 [(1, vI x1), (2, vP (some 51)), (3, vI (x3 - x3 / (facN.getD j1 0) * (facN.getD j1 0))), (4, vI x4), (5, vI x5), (7, vI (x3 / (facN.getD j1 0))), (8, vI 0)] [] (SK tx tu gu tl, h) := rfl
set_option maxRecDepth 20000 in
theorem e_X10_unrank_40 (X : XS) (d f : Nat) (x1 : Int32) (x3 : Int32) (x4 : Int32) (x5 : Int32) (x7 : Int32) (x8 : Int32) (tx : Option Nat) (tu : Option Nat) (gu : Option Nat) (tl : List SC) (h : DT) : m_X10_unrank X d (f + 1) 40 [(1, vI x1), (2, vP (some 51)), (3, vI x3), (4, vI x4), (5, vI x5), (7, vI x7), (8, vI x8)] [] (SK tx tu gu tl, h) = if x1 ≤ x8 then (m_X10_unrank X d f 8 [(1, vI x1), (2, vP (some 51)), (3, vI x3), (4, vI x4), (5, vI (x5 + 1))] [] (SK tx tu gu tl, h)) else if ((x4 >>> (x8 &&& 31)) &&& 1) = 0 then (if x7 = 0 then (inb x5 5 fun j1 => m_X10_unrank X d f 8 [(1, vI x1), (2, vP (some 51)), (3, vI x3), (4, vI (x4 ||| (1 <<< (x8 &&& 31)))), (5, vI (x5 + 1))] [] (SK tx tu gu tl, (sA h 51 j1 x8))) else m_X10_unrank X d f 40 [(1, vI x1), (2, vP (some 51)), (3, vI x3), (4, vI x4), (5, vI x5), (7, vI (x7 + (-1))), (8, vI (x8 + 1))] [] (SK tx tu gu tl, h)) else m_X10_unrank X d f 40 [(1, vI x1), (2, vP (some 51)), (3, vI x3), (4, vI x4), (5, vI x5), (7, vI x7), (8, vI (x8 + 1))] [] (SK tx tu gu tl, h) := rfl
def fc (n : Nat) : Nat := [1, 1, 2, 6, 24, 120].getD n 1
theorem fc_ok : ∀ j, j < 6 → facN.getD j 0 = nI (fc j) ∧ 0 < fc j ∧ fc j ≤ 120 := by decide +kernel
theorem bt_s2 : ∀ b, b < 32 → ∀ j, j < 5 → nI b ||| ((1 : Int32) <<< (nI j &&& 31)) = nI (b ||| 2 ^ j) ∧ (b ||| 2 ^ j) < 32 := by decide +kernel
def uk : Nat → Nat → Nat → Nat → Option Nat
  | 0, _, _, _ => none
  | c + 1, k, s, tk => bif Nat.testBit tk k then uk c (k + 1) s tk else (if s = 0 then some k else uk c (k + 1) (s - 1) tk)
theorem uk_lt : ∀ (c k s tk q : Nat), uk c k s tk = some q → q < k + c
  | 0, k, s, tk, q, h => by cases h
  | c + 1, k, s, tk, q, h => by
    unfold uk at h
    cases hb : Nat.testBit tk k with
    | true =>
      rw [hb] at h
      have := uk_lt c (k + 1) s tk q h
      omega
    | false =>
      rw [hb] at h
      by_cases z : s = 0
      · rw [cond_false, if_pos z] at h
        cases h
        omega
      · rw [cond_false, if_neg z] at h
        have := uk_lt c (k + 1) (s - 1) tk q h
        omega
def uo (n : Nat) : Nat → Nat → Nat → Nat → Option (List Nat)
  | 0, _, _, _ => some []
  | c + 1, i, r, tk => match uk n 0 (r / fc c) tk with
    | none => none
    | some q => match uo n c (i + 1) (r % fc c) (tk ||| 2 ^ q) with
      | none => none
      | some L => some (q :: L)
def urL (n r : Nat) : List Nat := (uo n n 0 r 0).getD []
section UR
variable (X : XS) (d : Nat) (tx tu gu : Option Nat) (tl : List SC)
theorem x_uk {n i rest : Nat} (hn : n ≤ 5) (hi : i < n) (h : DT) : ∀ (c k s tk q f : Nat), k + c = n → tk < 32 → s ≤ 120 → uk c k s tk = some q → c + 1 ≤ f → ∃ f', f' + c + 1 ≥ f ∧ m_X10_unrank X d f 40 [(1, vI (nI n)), (2, vP (some 51)), (3, vI (nI rest)), (4, vI (nI tk)), (5, vI (nI i)), (7, vI (nI s)), (8, vI (nI k))] [] (SK tx tu gu tl, h) = m_X10_unrank X d f' 8 [(1, vI (nI n)), (2, vP (some 51)), (3, vI (nI rest)), (4, vI (nI (tk ||| 2 ^ q))), (5, vI (nI (i + 1)))] [] (SK tx tu gu tl, sA h 51 i (nI q))
  | 0, k, s, tk, q, f, hk, ht, hs, hq, hf2 => by cases hq
  | c + 1, k, s, tk, q, f, hk, ht, hs, hq, hf2 => by
    obtain ⟨f, rfl⟩ : ∃ g, f = g + 1 := ⟨f - 1, by omega⟩
    unfold uk at hq
    rw [e_X10_unrank_40, if_neg (nI_ge (by omega) (by omega)), bt_g7 tk ht k (by omega)]
    cases hb : Nat.testBit tk k with
    | true =>
      rw [hb, cond_true] at hq
      have hql := uk_lt _ _ _ _ _ hq
      rw [bz_t, if_neg one0, nI_1]
      obtain ⟨f', g1, g2⟩ := x_uk hn hi h c (k + 1) s tk q f (by omega) ht hs hq (by omega)
      exact ⟨f', by omega, g2⟩
    | false =>
      rw [hb, cond_false] at hq
      rw [bz_f, if_pos rfl]
      by_cases z : s = 0
      · rw [if_pos z] at hq
        cases hq
        rw [if_pos (show nI s = 0 by rw [z]; rfl), inbI (by omega) (by omega), (bt_s2 tk ht k (by omega)).1, nI_1]
        exact ⟨f, by omega, rfl⟩
      · rw [if_neg z] at hq
        have e2 : nI s + (-1) = nI (s - 1) := by
          obtain ⟨u, rfl⟩ : ∃ u, s = u + 1 := ⟨s - 1, by omega⟩
          exact nI_m1 u
        rw [if_neg (nI_ne0 (by omega) (by omega)), e2, nI_1]
        obtain ⟨f', g1, g2⟩ := x_uk hn hi h c (k + 1) (s - 1) tk q f (by omega) ht (by omega) hq (by omega)
        exact ⟨f', by omega, g2⟩
end UR
