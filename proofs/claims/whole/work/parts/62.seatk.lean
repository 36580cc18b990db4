/-! SEATS: the reference's next row -/
def f1 (R : Nat → Nat) : Nat → Option Nat
  | 0 => none
  | c + 1 => if R c ≤ R (c + 1) then some c else f1 R c
def f2 (R : Nat → Nat) (i : Nat) : Nat → Nat
  | 0 => 0
  | k + 1 => if R i ≤ R (k + 1) then k + 1 else f2 R i k
def sw (R : Nat → Nat) (a b : Nat) : Nat → Nat := fun j => if j = b then R a else if j = a then R b else R j
def rv : Nat → Nat → Nat → (Nat → Nat) → Nat → Nat
  | 0, _, _, R => R
  | c + 1, lo, hi, R => if hi ≤ lo then R else rv c (lo + 1) (hi - 1) (sw R lo hi)
def nxR (n : Nat) (R : Nat → Nat) : Option (Nat → Nat) := match f1 R (n - 1) with
  | none => none
  | some i => some (rv 5 (i + 1) (n - 1) (sw R i (f2 R i (n - 1))))
def nxB (n r : Nat) : Bool := match nxR n (rw5 n r) with
  | none => decide (r + 1 = fc n)
  | some R => decide (r + 1 < fc n) && decide (∀ j, j < n → R j = rw5 n (r + 1) j)
theorem nx_ok : ∀ n, n < 6 → ∀ r, r < fc n → nxB n r = true := by decide +kernel
theorem rw_0 : ∀ n, n < 6 → ∀ j, j < n → rw5 n 0 j = j := by decide +kernel
theorem f1_lt {R : Nat → Nat} : ∀ (c i : Nat), f1 R c = some i → i < c
  | 0, i, h => by cases h
  | c + 1, i, h => by
    unfold f1 at h
    split at h
    · cases h; omega
    · have := f1_lt c i h; omega
theorem f2_le {R : Nat → Nat} {i : Nat} : ∀ k, f2 R i k ≤ k
  | 0 => Nat.le_refl _
  | k + 1 => by
    unfold f2
    split
    · exact Nat.le_refl _
    · have := f2_le (R := R) (i := i) k; omega
def RW (h : DT) (R : Nat → Nat) (n : Nat) : Prop := ∀ j, j < n → gA h 86 j = nI (R j) ∧ R j < 100
def S86 (h h' : DT) : Prop := smX (fun c => c = 86) h h'
section SK
variable (X : XS) (d : Nat) (tx tu gu : Option Nat) (tl : List SC)
theorem k_exch {n a b : Nat} {R : Nat → Nat} (hn : n ≤ 5) (ha : a < n) (hb : b < n) (h : DT) (H : RW h R n) : ∃ h', cal X (d + 1) 266 [vP (some 72), vI (nI a), vI (nI b)] (SK tx tu gu tl, h) = some (none, (SK tx tu gu tl, h')) ∧ S86 h h' ∧ RW h' (sw R a b) n := by
  refine ⟨sA (sA h 86 a (gA h 86 b)) 86 b (gA h 86 a), ?_, smX.tr (smX_sA rfl) (smX_sA rfl), fun j hj => ?_⟩
  · rw [c_X11_exchange, e_X11_exchange_0, inbI (by omega) (by omega), inbI (by omega) (by omega), inbI (by omega) (by omega), inbI (by omega) (by omega)]
  · rw [gA_sA]
    unfold sw
    by_cases z : j = b
    · rw [if_pos ⟨rfl, z⟩, if_pos z]
      exact H a ha
    · rw [if_neg (fun q => z q.2), if_neg z, gA_sA]
      by_cases y : j = a
      · rw [if_pos ⟨rfl, y⟩, if_pos y]
        exact H b hb
      · rw [if_neg (fun q => y q.2), if_neg y]
        exact H j hj
theorem k_rv {n : Nat} (hn : n ≤ 5) : ∀ (c lo hi f : Nat) (R : Nat → Nat) (h : DT), hi < n → lo ≤ 100 → RW h R n → hi ≤ lo + 2 * c → c + 1 ≤ f → ∃ h', m_X11_isNextRow X (d + 1) f 78 [(0, vP (some 72)), (4, vI (nI hi)), (5, vI (nI lo))] [] (SK tx tu gu tl, h) = some (some (vI (1)), (SK tx tu gu tl, h')) ∧ S86 h h' ∧ RW h' (rv c lo hi R) n
  | 0, lo, hi, f, R, h, h1, hl, H, h2, hf => by
    obtain ⟨f, rfl⟩ : ∃ g, f = g + 1 := ⟨f - 1, by omega⟩
    refine ⟨h, ?_, smX.rf _ h, H⟩
    rw [e_X11_isNextRow_78, if_pos (nI_le (by omega) (by omega))]
  | c + 1, lo, hi, f, R, h, h1, hl, H, h2, hf => by
    obtain ⟨f, rfl⟩ : ∃ g, f = g + 1 := ⟨f - 1, by omega⟩
    unfold rv
    by_cases z : hi ≤ lo
    · refine ⟨h, ?_, smX.rf _ h, by rw [if_pos z]; exact H⟩
      rw [e_X11_isNextRow_78, if_pos (nI_le (by omega) (by omega))]
    · obtain ⟨h1', k1, k2, k3⟩ := k_exch X d tx tu gu tl (a := lo) (b := hi) hn (by omega) h1 h H
      have e2 : nI hi + (-1) = nI (hi - 1) := by
        obtain ⟨u, rfl⟩ : ∃ u, hi = u + 1 := ⟨hi - 1, by omega⟩
        exact nI_m1 u
      obtain ⟨h2', j1, j2, j3⟩ := k_rv hn c (lo + 1) (hi - 1) f (sw R lo hi) h1' (by omega) (by omega) k3 (by omega) (by omega)
      refine ⟨h2', ?_, k2.tr j2, by rw [if_neg z]; exact j3⟩
      rw [e_X11_isNextRow_78, if_neg (nI_ge (by omega) (by omega)), k1, bV_s, e2, nI_1]
      exact j1
theorem k_f2 {n i : Nat} {R : Nat → Nat} (hn : n ≤ 5) (hi : i < n) (h : DT) (H : RW h R n) : ∀ (k f : Nat), k < n → i ≤ k → k + 10 ≤ f → ∃ h', m_X11_isNextRow X (d + 1) f 41 [(0, vP (some 72)), (1, vI (nI n)), (2, vI (nI i)), (3, vI (nI k))] [] (SK tx tu gu tl, h) = some (some (vI (1)), (SK tx tu gu tl, h')) ∧ S86 h h' ∧ RW h' (rv 5 (i + 1) (n - 1) (sw R i (f2 R i k))) n := by
  have fin : ∀ (q f : Nat), q < n → 7 ≤ f → ∃ h', (bV (cal X (d + 1) 266 [vP (some 72), vI (nI i), vI (nI q)] (SK tx tu gu tl, h)) fun H3 => m_X11_isNextRow X (d + 1) f 78 [(0, vP (some 72)), (4, vI (nI n - 1)), (5, vI (nI i + 1))] [] H3) = some (some (vI (1)), (SK tx tu gu tl, h')) ∧ S86 h h' ∧ RW h' (rv 5 (i + 1) (n - 1) (sw R i q)) n := by
    intro q f hq hf
    obtain ⟨h1, k1, k2, k3⟩ := k_exch X d tx tu gu tl (a := i) (b := q) hn hi hq h H
    obtain ⟨h2, j1, j2, j3⟩ := k_rv X d tx tu gu tl hn 5 (i + 1) (n - 1) f (sw R i q) h1 (by omega) (by omega) k3 (by omega) (by omega)
    refine ⟨h2, ?_, k2.tr j2, j3⟩
    rw [k1, bV_s, show nI n - 1 = nI (n - 1) from subI (a := n) (b := 1) (by omega), nI_1]
    exact j1
  intro k
  induction k with
  | zero =>
    intro f h1 h2 h3
    obtain ⟨f, rfl⟩ : ∃ g, f = g + 1 := ⟨f - 1, by omega⟩
    obtain rfl : i = 0 := by omega
    rw [e_X11_isNextRow_41, inbI (by omega) (by omega), inbI (by omega) (by omega), if_pos (Int32.le_refl _)]
    exact fin 0 f h1 (by omega)
  | succ k ih =>
    intro f h1 h2 h3
    obtain ⟨f, rfl⟩ : ∃ g, f = g + 1 := ⟨f - 1, by omega⟩
    have q1 := H i hi
    have q2 := H (k + 1) h1
    rw [e_X11_isNextRow_41, inbI (by omega) (by omega), inbI (by omega) (by omega), q1.1, q2.1]
    unfold f2
    by_cases z : R i ≤ R (k + 1)
    · rw [if_pos (nI_le z (by omega)), if_pos z]
      exact fin (k + 1) f h1 (by omega)
    · have hik : i ≠ k + 1 := fun e => z (by rw [e]; exact Nat.le_refl _)
      rw [if_neg (fun q => z ((nI_leI (by omega) (by omega)).mp q)), if_neg z, nI_m1]
      exact ih f (by omega) (by omega) (by omega)
theorem k_next {n : Nat} {R : Nat → Nat} (hn : n ≤ 5) (hn1 : 1 ≤ n) (h : DT) (H : RW h R n) : ∃ h', cal X (d + 2) 267 [vP (some 72), vI (nI n)] (SK tx tu gu tl, h) = some (some (vI (bzB (nxR n R).isSome)), (SK tx tu gu tl, h')) ∧ S86 h h' ∧ ∀ R', nxR n R = some R' → RW h' R' n := by
  have lp : ∀ (c f : Nat), c < n → c + 20 ≤ f → ∃ h', m_X11_isNextRow X (d + 1) f 4 [(0, vP (some 72)), (1, vI (nI n)), (2, vI (nI c - 1))] [] (SK tx tu gu tl, h) = some (some (vI (bzB (f1 R c).isSome)), (SK tx tu gu tl, h')) ∧ S86 h h' ∧ ∀ i, f1 R c = some i → RW h' (rv 5 (i + 1) (n - 1) (sw R i (f2 R i (n - 1)))) n := by
    intro c
    induction c with
    | zero =>
      intro f h1 h2
      obtain ⟨f, rfl⟩ : ∃ g, f = g + 1 := ⟨f - 1, by omega⟩
      refine ⟨h, ?_, smX.rf _ h, fun i hi => by cases hi⟩
      rw [e_X11_isNextRow_4, if_pos (show nI 0 - 1 < 0 by decide), if_neg (show ¬ 0 ≤ nI 0 - 1 by decide)]
      rfl
    | succ c ih =>
      intro f h1 h2
      obtain ⟨f, rfl⟩ : ∃ g, f = g + 1 := ⟨f - 1, by omega⟩
      have q1 := H c (by omega)
      have q2 := H (c + 1) (by omega)
      have e1 : nI (c + 1) - 1 = nI c := subI (a := c + 1) (b := 1) (by omega)
      have e2 : nI c + (-1) = nI c - 1 := (Int32.sub_eq_add_neg _ _).symm
      rw [e_X11_isNextRow_4, e1, if_neg (show ¬ nI c < 0 from fun g => absurd ((nI_ltI (a := c) (b := 0) (by omega) (by omega)).mp g) (by omega)), inbI (by omega) (by omega), nI_1, inbI (by omega) (by omega), q1.1, q2.1]
      unfold f1
      by_cases z : R c ≤ R (c + 1)
      · obtain ⟨h', k1, k2, k3⟩ := k_f2 X d tx tu gu tl (i := c) hn (by omega) h H (n - 1) f (by omega) (by omega) (by omega)
        rw [if_pos (nI_le z (by omega)), if_pos z, if_pos (nI_nn (by omega)), show nI n - 1 = nI (n - 1) from subI (a := n) (b := 1) (by omega)]
        exact ⟨h', k1, k2, fun i hi => by cases hi; exact k3⟩
      · rw [if_neg (fun q => z ((nI_leI (by omega) (by omega)).mp q)), if_neg z, e2]
        exact ih f (by omega) (by omega)
  obtain ⟨h', k1, k2, k3⟩ := lp (n - 1) 999999 (by omega) (by omega)
  refine ⟨h', ?_, k2, fun R' hR => ?_⟩
  · rw [c_X11_isNextRow, e_X11_isNextRow_0, show nI n - 2 = nI (n - 1) - 1 by
      rw [zI_nI, zI_nI, show (2 : Int32) = zI 2 from rfl, show (1 : Int32) = zI 1 from rfl, zI_sub, zI_sub]
      congr 1
      omega]
    refine k1.trans ?_
    unfold nxR
    cases f1 R (n - 1) <;> rfl
  · unfold nxR at hR
    cases hf : f1 R (n - 1) with
    | none => rw [hf] at hR; cases hR
    | some i =>
      rw [hf] at hR
      cases hR
      exact k3 i hf
theorem k_rsum {n : Nat} {A : Nat → Int32} {L : Nat → Nat} (hn : n ≤ 5) (h : DT) (hA : gA h 73 = A) (a0 : A 0 = nI n) (hL : ∀ j, j < n → L j < n) (hR : RW h L n) : cal X (d + 2) 268 [vP (some 72)] (SK tx tu gu tl, h) = some (some (vI (cosI A L n 0 0)), (SK tx tu gu tl, h)) := by
  have lp : ∀ c j f (a : Int32), j + c = n → c + 1 ≤ f → m_X11_rackedSum X (d + 1) f 4 [(0, vP (some 72)), (1, vI a), (2, vI (nI j))] [] (SK tx tu gu tl, h) = some (some (vI (cosI A L c j a)), (SK tx tu gu tl, h)) := by
    intro c
    induction c with
    | zero =>
      intro j f a h1 h2
      obtain ⟨f, rfl⟩ : ∃ g, f = g + 1 := ⟨f - 1, by omega⟩
      rw [e_X11_rackedSum_4, hA, a0, if_pos (nI_le (by omega) (by omega))]
      rfl
    | succ c ih =>
      intro j f a h1 h2
      obtain ⟨f, rfl⟩ : ∃ g, f = g + 1 := ⟨f - 1, by omega⟩
      have hl := hL j (by omega)
      rw [e_X11_rackedSum_4, hA, a0, if_neg (nI_ge (by omega) (by omega)), inbI (by omega) (by omega), (hR j (by omega)).1, litI 22, addI, inbI (by omega) (by omega), inbI (by omega) (by omega), (hR j (by omega)).1, litI 12, addI, inbI (by omega) (by omega), litI 32, addI, inbI (by omega) (by omega), k_size', bI_s, nI_1, ih (j + 1) f _ (by omega) (by omega)]
      rfl
  rw [c_X11_rackedSum, e_X11_rackedSum_0]
  exact lp n 0 999999 0 (by omega) (by omega)
end SK
