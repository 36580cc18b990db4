/-! TURNS of the reference: the order that sits, and the one by numbers -/
def pmB (n : Nat) (l : List Nat) : Bool := allB (fun p => anyB (fun s => l.getD s 0 == p) n) n
def ckP (n : Nat) (l : List Nat) : Bool := !(pmB n l) || (Nat.blt (rkL l) (fc n) && (urL n (rkL l) == l))
set_option maxRecDepth 100000 in
theorem ckP_t : allB (fun n => allB (fun a => allB (fun b => allB (fun c => allB (fun d => allB (fun e => ckP n ([a, b, c, d, e].take n)) 5) 5) 5) 5) 5) 6 = true := by decide +kernel
theorem allB_i {P : Nat → Bool} : ∀ {m : Nat}, (∀ k, k < m → P k = true) → allB P m = true
  | 0, _ => rfl
  | m + 1, h => by
    unfold allB
    rw [Bool.and_eq_true]
    exact ⟨h m (by omega), allB_i fun k hk => h k (by omega)⟩
theorem anyB_i {P : Nat → Bool} {k : Nat} (hp : P k = true) : ∀ {m : Nat}, k < m → anyB P m = true
  | 0, h => by omega
  | m + 1, h => by
    unfold anyB
    rw [Bool.or_eq_true]
    by_cases e : k = m
    · rw [← e]; exact Or.inl hp
    · exact Or.inr (anyB_i hp (by omega))
theorem lsF_g (L : Nat → Nat) : ∀ c i j, j < c → (lsF L c i).getD j 0 = L (i + j)
  | 0, i, j, h => by omega
  | c + 1, i, 0, h => rfl
  | c + 1, i, j + 1, h => by
    show (lsF L c (i + 1)).getD j 0 = _
    rw [lsF_g L c (i + 1) j (by omega)]
    congr 1
    omega
theorem lsF_5 {n : Nat} (hn : n ≤ 5) (L : Nat → Nat) : lsF L n 0 = [L 0, L 1, L 2, L 3, L 4].take n := by
  match n, hn with
  | 0, _ => rfl
  | 1, _ => rfl
  | 2, _ => rfl
  | 3, _ => rfl
  | 4, _ => rfl
  | 5, _ => rfl
/-- an order that seats everyone has a number, and is that number's -/
theorem pm_ok {n : Nat} (hn : n ≤ 5) (L : Nat → Nat) (h5 : ∀ i, L i < 5) (hs : ∀ p, p < n → ∃ s, s < n ∧ L s = p) : rkL (lsF L n 0) < fc n ∧ urL n (rkL (lsF L n 0)) = lsF L n 0 := by
  have := allB_h (allB_h (allB_h (allB_h (allB_h (allB_h ckP_t n (by omega)) (L 0) (h5 0)) (L 1) (h5 1)) (L 2) (h5 2)) (L 3) (h5 3)) (L 4) (h5 4)
  rw [← lsF_5 hn L] at this
  unfold ckP at this
  have pm : pmB n (lsF L n 0) = true := allB_i fun p hp => by
    obtain ⟨s, s1, s2⟩ := hs p hp
    exact anyB_i (k := s) (by rw [lsF_g L n 0 s s1, Nat.zero_add, s2]; exact beq_iff_eq.mpr rfl) s1
  rw [pm, Bool.not_true, Bool.false_or, Bool.and_eq_true] at this
  exact ⟨Nat.ble_eq.mp this.1, beq_iff_eq.mp this.2⟩
set_option maxRecDepth 100000 in
theorem id_ok : ∀ n, n < 6 → c5 (lsF (fun i => i) n 0) = c5T n 0 ∧ 0 < fc n := by decide +kernel
section OF
variable (X : XS) (d : Nat) (tx tu gu : Option Nat) (tl : List SC)
theorem k_of11 {n : Nat} {L : Nat → Nat} {x1 : Int32} (hn : n ≤ 5) (h : DT) (H : (x1 = 0 ∧ ∀ i, i < n → gA h 73 (17 + i) = nI (L i)) ∨ (x1 = 1 ∧ ∀ i, i < n → L i = i)) : ∀ (k c f : Nat), k + c = n → k + 1 ≤ f → m_X11_orderOf X d f 11 [(0, vP (some 72)), (1, vI x1), (2, vI (nI (c5 (lsF L c k)))), (3, vI (zI ((k : Int) - 1)))] [] (SK tx tu gu tl, h) = some (some (vI (nI (32 * c5 (lsF L n 0)))), (SK tx tu gu tl, h))
  | 0, c, f, hk, hf => by
    obtain ⟨f, rfl⟩ : ∃ g, f = g + 1 := ⟨f - 1, by omega⟩
    rw [e_X11_orderOf_11, if_pos (show zI (((0 : Nat) : Int) - 1) < 0 by decide +kernel), show (32 : Int32) = nI 32 from rfl, mulI, show c = n by omega]
  | k + 1, c, f, hk, hf => by
    obtain ⟨f, rfl⟩ : ∃ g, f = g + 1 := ⟨f - 1, by omega⟩
    have e6 : zI (((k + 1 : Nat) : Int) - 1) = nI k := by
      rw [zI_nI]
      congr 1
      omega
    have e7 : nI k + (-1) = zI ((k : Int) - 1) := by
      rw [zI_nI, show (-1 : Int32) = zI (-1) from rfl, zI_add]
      rfl
    have n0 : ¬ nI k < 0 := by
      rw [show (0 : Int32) = nI 0 from rfl, ltI (by omega) (by omega)]
      omega
    have e5 : (5 : Int32) * nI (c5 (lsF L c (k + 1))) + nI (L k) = nI (c5 (lsF L (c + 1) k)) := by
      rw [show (5 : Int32) = nI 5 from rfl, mulI, addI, Nat.add_comm]
      rfl
    have r := k_of11 hn h H k (c + 1) f (by omega) (by omega)
    rcases H with ⟨u, v⟩ | ⟨u, v⟩
    · rw [e6, e_X11_orderOf_11, if_neg n0, if_pos u, show (17 : Int32) + nI k = nI (17 + k) from addI 17 k, inbI (by omega) (by omega), v k (by omega), e5, e7]
      exact r
    · rw [e6, e_X11_orderOf_11, if_neg n0, if_neg (by rw [u]; exact one0), ← e5, v k (by omega)] at *
      rw [e7]
      exact r
theorem k_orderOf {n : Nat} {L : Nat → Nat} {x1 : Int32} (hn : n ≤ 5) (h : DT) (h0 : gA h 73 0 = nI n) (H : (x1 = 0 ∧ ∀ i, i < n → gA h 73 (17 + i) = nI (L i)) ∨ (x1 = 1 ∧ ∀ i, i < n → L i = i)) : cal X (d + 1) 263 [vP (some 72), vI x1] (SK tx tu gu tl, h) = some (some (vI (nI (32 * c5 (lsF L n 0)))), (SK tx tu gu tl, h)) := by
  rw [c_X11_orderOf, e_X11_orderOf_0, h0, show nI n - 1 = zI ((n : Int) - 1) by rw [zI_nI, show (1 : Int32) = zI 1 from rfl, zI_sub]]
  exact k_of11 X d tx tu gu tl hn h H n 0 999999 (by omega) (by omega)
theorem k_of1 {n : Nat} (hn : n ≤ 5) (h : DT) (h0 : gA h 73 0 = nI n) : cal X (d + 1) 263 [vP (some 72), vI 1] (SK tx tu gu tl, h) = some (some (vI (nI (phT n 0))), (SK tx tu gu tl, h)) := by
  rw [k_orderOf X d tx tu gu tl (L := fun i => i) hn h h0 (Or.inr ⟨rfl, fun i _ => rfl⟩), (id_ok n (by omega)).1]
  rfl
theorem k_of0 {n : Nat} {L : Nat → Nat} (hn : n ≤ 5) (h : DT) (h0 : gA h 73 0 = nI n) (H : ∀ i, i < n → gA h 73 (17 + i) = nI (L i)) (h5 : ∀ i, L i < 5) (hs : ∀ p, p < n → ∃ s, s < n ∧ L s = p) : cal X (d + 1) 263 [vP (some 72), vI 0] (SK tx tu gu tl, h) = some (some (vI (nI (phT n (32 * rkL (lsF L n 0))))), (SK tx tu gu tl, h)) := by
  obtain ⟨p1, p2⟩ := pm_ok hn L h5 hs
  rw [k_orderOf X d tx tu gu tl (L := L) hn h h0 (Or.inl ⟨rfl, H⟩), ← p2, (tk_o (n := n) (by omega) p1).2.2.1, ← (tk_o (n := n) (by omega) p1).2.1]
  refine rI (congrArg nI ?_)
  unfold phT
  generalize rkL (lsF L n 0) = r
  rw [show 32 * r / 32 = r by omega, show 32 * r % 32 = 0 by omega]
  rfl
end OF
