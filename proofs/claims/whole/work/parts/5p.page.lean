/-! PAGE: the table of both -/
abbrev PT : Type := Option (Nat × Nat × Nat)
def bet (b t : PT) (q e : Nat) : PT := match t with
  | none => b
  | some (c, l, _) => match b with
    | none => some (c + q, l + 1, e)
    | some (c0, l0, e0) => if c + q < c0 ∨ (c + q = c0 ∧ l + 1 < l0) then some (c + q, l + 1, e) else some (c0, l0, e0)
def sqR (v : Nat → Nat) (W w s e : Nat) : Nat := if e + 1 = w then 0 else (W - (s + v e)) * (W - (s + v e))
def chI (v : Nat → Nat) (W w : Nat) (T : Nat → PT) : Nat → Nat → Nat → PT → PT
  | 0, _, _, b => b
  | c + 1, e, s, b => if s + v e ≤ W then chI v W w T c (e + 1) (s + v e + 1) (bet b (T (e + 1)) (sqR v W w s e) (e + 1)) else b
def tb (v : Nat → Nat) (W w : Nat) : Nat → Nat → PT
  | 0 => fun j => if j = w then some (0, 0, w) else none
  | k + 1 => fun j => if j + (k + 1) = w then chI v W w (tb v W w k) (k + 1) j 0 none else tb v W w k j
theorem chI_cg {v : Nat → Nat} {W w : Nat} {T T' : Nat → PT} : ∀ (c e s : Nat) (b : PT), e + c = w → (∀ j, e < j → j ≤ w → T' j = T j) → chI v W w T' c e s b = chI v W w T c e s b
  | 0, e, s, b, _, _ => rfl
  | c + 1, e, s, b, he, H => by
    unfold chI
    rw [H (e + 1) (by omega) (by omega), chI_cg c (e + 1) _ _ (by omega) (fun j h1 h2 => H j (by omega) h2)]
theorem tb_st {v : Nat → Nat} {W w : Nat} (j k : Nat) (hj : w ≤ j + k) : ∀ m, tb v W w (k + m) j = tb v W w k j
  | 0 => rfl
  | m + 1 => by
    rw [show k + (m + 1) = (k + m) + 1 by omega]
    show (if j + (k + m + 1) = w then _ else tb v W w (k + m) j) = _
    rw [if_neg (by omega)]
    exact tb_st j k hj m
def TOk (v : Nat → Nat) (W w : Nat) (T : Nat → PT) : Prop := T w = some (0, 0, w) ∧ ∀ j, j < w → T j = chI v W w T (w - j) j 0 none
theorem tb_ok (v : Nat → Nat) (W w : Nat) : TOk v W w (tb v W w w) := by
  refine ⟨?_, fun j hj => ?_⟩
  · have := tb_st (v := v) (W := W) (w := w) w 0 (by omega) w
    rw [Nat.zero_add] at this
    rw [this]
    show (if w = w then _ else _) = _
    rw [if_pos rfl]
  · obtain ⟨k, hk⟩ : ∃ k, w = j + (k + 1) := ⟨w - j - 1, by omega⟩
    have := tb_st (v := v) (W := W) (w := w) j (k + 1) (by omega) j
    rw [show tb v W w w j = tb v W w (k + 1 + j) j by rw [show k + 1 + j = w by omega], this]
    show (if j + (k + 1) = w then _ else _) = _
    rw [if_pos hk.symm, show w - j = k + 1 by omega]
    refine chI_cg (k + 1) j 0 none (by omega) (fun e h1 h2 => ?_)
    have := tb_st (v := v) (W := W) (w := w) e k (by omega) (w - k)
    rw [show k + (w - k) = w by omega] at this
    exact this.symm
/-- what a cell of the table is, where it is -/
def PB (w : Nat) (T : Nat → PT) (j : Nat) (q : Nat × Nat × Nat) : Prop := q.1 ≤ 3600 * (w - j) ∧ q.2.1 ≤ w - j ∧ j < q.2.2 ∧ q.2.2 ≤ w ∧ ∃ c' l' e', T q.2.2 = some (c', l', e') ∧ q.2.1 = l' + 1
theorem bet_cs {b t : PT} {q e : Nat} {r : Nat × Nat × Nat} (h : bet b t q e = some r) : b = some r ∨ ∃ c l e', t = some (c, l, e') ∧ r = (c + q, l + 1, e) := by
  unfold bet at h
  cases t with
  | none => exact Or.inl h
  | some t =>
    obtain ⟨c, l, e'⟩ := t
    cases b with
    | none => exact Or.inr ⟨c, l, e', rfl, (Option.some.inj h).symm⟩
    | some b =>
      obtain ⟨c0, l0, e0⟩ := b
      simp only at h
      by_cases g : c + q < c0 ∨ (c + q = c0 ∧ l + 1 < l0)
      · rw [if_pos g] at h
        exact Or.inr ⟨c, l, e', rfl, (Option.some.inj h).symm⟩
      · rw [if_neg g] at h
        exact Or.inl h
theorem sq60 {W x : Nat} (h : W ≤ 60) : (W - x) * (W - x) ≤ 3600 := Nat.mul_le_mul (show W - x ≤ 60 by omega) (show W - x ≤ 60 by omega)
theorem sqR_le {v : Nat → Nat} {W w s e : Nat} (h : W ≤ 60) : sqR v W w s e ≤ 3600 := by
  unfold sqR
  by_cases g : e + 1 = w
  · rw [if_pos g]; omega
  · rw [if_neg g]; exact sq60 h
theorem chI_B {v : Nat → Nat} {W w i : Nat} {T : Nat → PT} (hW : W ≤ 60) (hT : ∀ j, i < j → j ≤ w → ∀ q, T j = some q → q.1 ≤ 3600 * (w - j) ∧ q.2.1 ≤ w - j) : ∀ (c e s : Nat) (b : PT), e + c = w → i ≤ e → (∀ q, b = some q → PB w T i q) → ∀ q, chI v W w T c e s b = some q → PB w T i q
  | 0, e, s, b, _, _, hb, q, h => hb q h
  | c + 1, e, s, b, he, hi, hb, q, h => by
    unfold chI at h
    by_cases g : s + v e ≤ W
    · rw [if_pos g] at h
      refine chI_B hW hT c (e + 1) _ _ (by omega) (by omega) (fun r hr => ?_) q h
      rcases bet_cs hr with hr | ⟨c1, l1, e1, h1, rfl⟩
      · exact hb r hr
      · have := hT (e + 1) (by omega) (by omega) _ h1
        have h2 := sqR_le (v := v) (w := w) (s := s) (e := e) hW
        simp only at this
        exact ⟨by simp only; omega, by simp only; omega, by simp only; omega, by simp only; omega, c1, l1, e1, h1, rfl⟩
    · rw [if_neg g] at h
      exact hb q h
theorem TOk.b {v : Nat → Nat} {W w : Nat} {T : Nat → PT} (H : TOk v W w T) (hW : W ≤ 60) : ∀ m j, j + m = w → ∀ q, T j = some q → q.1 ≤ 3600 * (w - j) ∧ q.2.1 ≤ w - j ∧ (j < w → PB w T j q) := by
  intro m
  induction m using Nat.strongRecOn with
  | _ m ih =>
    intro j hj q hq
    by_cases g : j = w
    · subst g
      rw [H.1] at hq
      cases hq
      exact ⟨Nat.zero_le _, Nat.zero_le _, fun z => by omega⟩
    · have hb : PB w T j q := by
        rw [H.2 j (by omega)] at hq
        exact chI_B hW (fun e h1 h2 r hr => by
          have := ih (w - e) (by omega) e (by omega) r hr
          exact ⟨this.1, this.2.1⟩) (w - j) j 0 none (by omega) (by omega) (fun _ z => by cases z) q hq
      exact ⟨hb.1, hb.2.1, fun _ => hb⟩
theorem ch_some {v : Nat → Nat} {W w : Nat} {T : Nat → PT} : ∀ (c e s : Nat) (q : Nat × Nat × Nat), ∃ r, chI v W w T c e s (some q) = some r
  | 0, e, s, q => ⟨q, rfl⟩
  | c + 1, e, s, q => by
    unfold chI
    by_cases g : s + v e ≤ W
    · rw [if_pos g]
      have : ∃ r, bet (some q) (T (e + 1)) (sqR v W w s e) (e + 1) = some r := by
        unfold bet
        cases T (e + 1) with
        | none => exact ⟨q, rfl⟩
        | some t =>
          simp only
          by_cases g : t.1 + sqR v W w s e < q.1 ∨ (t.1 + sqR v W w s e = q.1 ∧ t.2.1 + 1 < q.2.1)
          · exact ⟨_, if_pos g⟩
          · exact ⟨_, if_neg g⟩
      obtain ⟨r, hr⟩ := this
      rw [hr]
      exact ch_some c (e + 1) _ r
    · rw [if_neg g]
      exact ⟨q, rfl⟩
theorem TOk.s {v : Nat → Nat} {W w : Nat} {T : Nat → PT} (H : TOk v W w T) (hv : ∀ j, j < w → v j ≤ W) : ∀ m j, j + m = w → ∃ q, T j = some q
  | 0, j, hj => by
    obtain rfl : j = w := by omega
    exact ⟨_, H.1⟩
  | m + 1, j, hj => by
    obtain ⟨r, hr⟩ := TOk.s H hv m (j + 1) (by omega)
    rw [H.2 j (by omega), show w - j = m + 1 by omega]
    unfold chI
    rw [if_pos (by have := hv j (by omega); omega), hr]
    exact ch_some m (j + 1) _ _
theorem ch_none {v : Nat → Nat} {W w m : Nat} {T : Nat → PT} (hm : W < v m) (hw : m < w) : ∀ (c e s : Nat), e + c = w → e ≤ m → (∀ j, e < j → j ≤ m → T j = none) → chI v W w T c e s none = none
  | 0, e, s, _, _, _ => rfl
  | c + 1, e, s, he, hm', H => by
    unfold chI
    by_cases g : s + v e ≤ W
    · have : e ≠ m := fun z => by subst z; omega
      rw [if_pos g, H (e + 1) (by omega) (by omega)]
      exact ch_none hm hw c (e + 1) _ (by omega) (by omega) (fun j h1 h2 => H j (by omega) h2)
    · rw [if_neg g]
theorem TOk.n {v : Nat → Nat} {W w m : Nat} {T : Nat → PT} (H : TOk v W w T) (hm : W < v m) (hw : m < w) : ∀ k j, j + k = m → T j = none := by
  intro k
  induction k using Nat.strongRecOn with
  | _ k ih =>
    intro j hj
    rw [H.2 j (by omega)]
    exact ch_none hm hw (w - j) j 0 (by omega) (by omega) (fun e h1 h2 => ih (m - e) (by omega) e (by omega))
theorem nsub {a b : Nat} (h : a < b) (hb : b < 1000000) : ¬ (0 : Int32) ≤ nI a - nI b := by
  rw [zI_nI, zI_nI, zI_sub, show (0 : Int32) = zI 0 from rfl, zI_le (by omega) (by omega) (by omega) (by omega)]
  omega
theorem nI_nn {a : Nat} (h : a < 2147483648) : (0 : Int32) ≤ nI a := nI_le (a := 0) (by omega) (by omega)
