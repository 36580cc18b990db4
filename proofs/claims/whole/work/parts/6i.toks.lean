/-! TOKENS of the tape, and both at one of them -/
def knd (B : Nat → Nat) (L q : Nat) : Nat := if q < L then (bif letB (B q) then 2 else bif digB (B q) then 1 else bif sgD B L q then (if B q = 60 then 4 else 5) else sgK (B q)) else 0
def tS (B : Nat → Nat) (L : Nat) : Nat → Nat
  | 0 => 0
  | i + 1 => tkE B L (skp B L (L - tS B L i) (tS B L i))
def tQ (B : Nat → Nat) (L i : Nat) : Nat := skp B L (L - tS B L i) (tS B L i)
def wdT (B : Nat → Nat) (L q : Nat) : List Nat := bts B (wnd B L (L - q) q - q) q
def vlT (B : Nat → Nat) (L q : Nat) : Nat := bif letB (B q) then wI (wdT B L q) else nmC B L (L - q) q 0
def tkn (B : Nat → Nat) (L : Nat) : Tk := fun i => (knd B L (tQ B L i), vlT B L (tQ B L i), tQ B L i)
theorem wnd_L {B : Nat → Nat} {L : Nat} : ∀ (c p : Nat), p ≤ L → wnd B L c p ≤ L
  | 0, p, hp => hp
  | c + 1, p, hp => by
    unfold wnd
    cases hb : decide (p < L) && letB (B p) with
    | false => exact hp
    | true =>
      rw [Bool.and_eq_true, decide_eq_true_eq] at hb
      exact wnd_L c (p + 1) (by omega)
theorem nmE_L {B : Nat → Nat} {L : Nat} : ∀ (c p : Nat), p ≤ L → nmE B L c p ≤ L
  | 0, p, hp => hp
  | c + 1, p, hp => by
    unfold nmE
    cases hb : decide (p < L) && digB (B p) with
    | false => exact hp
    | true =>
      rw [Bool.and_eq_true, decide_eq_true_eq] at hb
      exact nmE_L c (p + 1) (by omega)
theorem nmE_ge {B : Nat → Nat} {L : Nat} : ∀ c p, p ≤ nmE B L c p
  | 0, p => Nat.le_refl _
  | c + 1, p => by
    unfold nmE
    cases decide (p < L) && digB (B p) with
    | false => exact Nat.le_refl _
    | true => have := nmE_ge (B := B) (L := L) c (p + 1); exact Nat.le_trans (by omega) this
theorem tkE_L {B : Nat → Nat} {L q : Nat} (hq : q ≤ L) : tkE B L q ≤ L ∧ (q < L → q < tkE B L q) := by
  unfold tkE
  by_cases g : q < L
  · rw [if_pos g]
    cases hl : letB (B q) with
    | true =>
      rw [cond_true]
      refine ⟨wnd_L _ _ hq, fun _ => ?_⟩
      obtain ⟨c, hc⟩ : ∃ c, L - q = c + 1 := ⟨L - q - 1, by omega⟩
      rw [hc]
      unfold wnd
      rw [hl, decide_eq_true g]
      have := wnd_ge (B := B) (L := L) c (q + 1)
      exact Nat.lt_of_lt_of_le (by omega) this
    | false =>
      rw [cond_false]
      cases hd : digB (B q) with
      | true =>
        rw [cond_true]
        refine ⟨nmE_L _ _ hq, fun _ => ?_⟩
        obtain ⟨c, hc⟩ : ∃ c, L - q = c + 1 := ⟨L - q - 1, by omega⟩
        rw [hc]
        unfold nmE
        rw [hd, decide_eq_true g]
        have := nmE_ge (B := B) (L := L) c (q + 1)
        exact Nat.lt_of_lt_of_le (by omega) this
      | false =>
        rw [cond_false]
        unfold sgE
        cases hs : sgD B L q with
        | false => rw [cond_false]; omega
        | true =>
          unfold sgD at hs
          rw [Bool.and_eq_true, Bool.and_eq_true, decide_eq_true_eq] at hs
          rw [cond_true]
          omega
  · rw [if_neg g]
    exact ⟨hq, fun z => absurd z g⟩
theorem tS_L (B : Nat → Nat) (L : Nat) : ∀ i, tS B L i ≤ L
  | 0 => Nat.zero_le _
  | i + 1 => (tkE_L (skp_L _ _ (tS_L B L i))).1
theorem tQ_L (B : Nat → Nat) (L i : Nat) : tQ B L i ≤ L := skp_L _ _ (tS_L B L i)
theorem tS_i (B : Nat → Nat) (L : Nat) : ∀ i, i ≤ tS B L i ∨ L ≤ tS B L i
  | 0 => Or.inl (Nat.zero_le _)
  | i + 1 => by
    have h1 := tQ_L B L i
    have h2 : tS B L i ≤ tQ B L i := skp_le _ _
    have h3 := tkE_L (B := B) h1
    have e : tS B L (i + 1) = tkE B L (tQ B L i) := rfl
    by_cases g : tQ B L i < L
    · left
      have := h3.2 g
      rcases tS_i B L i with h | h <;> omega
    · right
      rw [e]
      unfold tkE
      rw [if_neg g]
      omega
theorem tkn_0 {B : Nat → Nat} {L i : Nat} (h : L ≤ i) : (tkn B L i).1 = 0 := by
  have h2 : tS B L i ≤ tQ B L i := skp_le _ _
  have h1 := tS_i B L i
  show knd B L (tQ B L i) = 0
  unfold knd
  rw [if_neg (by omega)]
theorem tkn_E {B : Nat → Nat} {L : Nat} (hL : L ≤ 300) : ∀ i, 301 ≤ i → (tkn B L i).1 = 0 := fun i hi => tkn_0 (by omega)
theorem sgK_c (v : Nat) : sgK v = v ∨ sgK v = 3 := by
  unfold sgK
  split
  · exact Or.inl rfl
  · exact Or.inr rfl
def cK (k : Nat) : Nat := if k = 4 then 316 else if k = 5 then 318 else k
theorem sgK_r {v : Nat} : sgK v ≠ 0 ∧ sgK v ≠ 1 ∧ sgK v ≠ 2 ∧ sgK v ≠ 4 ∧ sgK v ≠ 5 ∧ sgK v < 256 := by
  unfold sgK
  split <;> omega
theorem tkK_c (B : Nat → Nat) (L q : Nat) : tkK B L q = cK (knd B L q) := by
  unfold tkK knd
  by_cases g : q < L
  · rw [if_pos g, if_pos g]
    cases letB (B q) with
    | true => rfl
    | false =>
      cases digB (B q) with
      | true => rfl
      | false =>
        rw [cond_false, cond_false, cond_false, cond_false]
        unfold sgC
        cases hs : sgD B L q with
        | false =>
          obtain ⟨g1, g2, g3, g4, g5, g6⟩ := sgK_r (v := B q)
          rw [cond_false, cond_false]
          unfold cK
          rw [if_neg g4, if_neg g5]
        | true =>
          rw [cond_true, cond_true]
          unfold sgD at hs
          rw [Bool.and_eq_true, Bool.or_eq_true, decide_eq_true_eq, decide_eq_true_eq] at hs
          rcases hs.1 with z | z <;> rw [z] <;> rfl
  · rw [if_neg g, if_neg g]
    rfl
theorem tkR_c (B : Nat → Nat) (L q : Nat) : tkR B L q = knd B L q ∨ (tkR B L q = 58 ∧ knd B L q = 3) := by
  unfold tkR knd
  by_cases g : q < L
  · rw [if_pos g, if_pos g]
    cases letB (B q) with
    | true => exact Or.inl rfl
    | false =>
      cases digB (B q) with
      | true => exact Or.inl rfl
      | false =>
        rw [cond_false, cond_false, cond_false, cond_false]
        cases hs : sgD B L q with
        | true => exact Or.inl rfl
        | false =>
          rw [cond_false, cond_false]
          unfold sgB sgK
          by_cases z : B q = 58
          · right
            rw [z]
            decide
          · left
            by_cases y : B q = 35 ∨ 40 ≤ B q ∧ B q ≤ 43 ∨ B q = 45 ∨ B q = 47 ∨ 59 ≤ B q ∧ B q ≤ 62
            · rw [if_pos y]
              have : (decide (B q = 35) || ((decide (40 ≤ B q) && decide (B q ≤ 43)) || (decide (B q = 45) || (decide (B q = 47) || (decide (58 ≤ B q) && decide (B q ≤ 62)))))) = true := by
                simp only [Bool.or_eq_true, Bool.and_eq_true, decide_eq_true_eq]
                omega
              rw [this]
              rfl
            · rw [if_neg y]
              have : (decide (B q = 35) || ((decide (40 ≤ B q) && decide (B q ≤ 43)) || (decide (B q = 45) || (decide (B q = 47) || (decide (58 ≤ B q) && decide (B q ≤ 62)))))) = false := by
                rw [Bool.eq_false_iff]
                simp only [ne_eq, Bool.or_eq_true, Bool.and_eq_true, decide_eq_true_eq]
                omega
              rw [this]
              rfl
  · rw [if_neg g, if_neg g]
    exact Or.inl rfl
theorem knd_1 {B : Nat → Nat} {L q : Nat} (h : knd B L q = 1) : q < L ∧ letB (B q) = false ∧ digB (B q) = true := by
  unfold knd at h
  by_cases g : q < L
  · rw [if_pos g] at h
    cases hl : letB (B q) with
    | true => rw [hl, cond_true] at h; omega
    | false =>
      cases hd : digB (B q) with
      | true => exact ⟨g, rfl, rfl⟩
      | false =>
        rw [hl, hd, cond_false, cond_false] at h
        have := sgK_r (v := B q)
        cases hs : sgD B L q with
        | false => rw [hs, cond_false] at h; omega
        | true => rw [hs, cond_true] at h; split at h <;> omega
  · rw [if_neg g] at h
    omega
theorem knd_2 {B : Nat → Nat} {L q : Nat} (h : knd B L q = 2) : q < L ∧ letB (B q) = true := by
  unfold knd at h
  by_cases g : q < L
  · rw [if_pos g] at h
    cases hl : letB (B q) with
    | true => exact ⟨g, rfl⟩
    | false =>
      rw [hl, cond_false] at h
      cases hd : digB (B q) with
      | true => rw [hd, cond_true] at h; omega
      | false =>
        rw [hd, cond_false] at h
        have := sgK_r (v := B q)
        cases hs : sgD B L q with
        | false => rw [hs, cond_false] at h; omega
        | true => rw [hs, cond_true] at h; split at h <;> omega
  · rw [if_neg g] at h
    omega
theorem knd_lt {B : Nat → Nat} {L q : Nat} : knd B L q < 256 := by
  unfold knd
  have := sgK_r (v := B q)
  split
  · cases letB (B q) with
    | true => rw [cond_true]; omega
    | false =>
      cases digB (B q) with
      | true => rw [cond_false, cond_true]; omega
      | false =>
        cases sgD B L q with
        | false => exact this.2.2.2.2.2
        | true => rw [cond_false, cond_false, cond_true]; split <;> omega
  · omega
/-- both before the token i; then at it -/
def CT0 (h : DT) (B : Nat → Nat) (L i : Nat) : Prop := CB h B L ∧ gF h 38 9 = nI (tS B L i)
def KT0 (h : DT) (B : Nat → Nat) (L i : Nat) : Prop := KB h B L ∧ gF h 72 7 = nI (tS B L i)
def CT (h : DT) (B : Nat → Nat) (L i : Nat) : Prop := CT0 h B L (i + 1) ∧ gF h 38 8 = nI (tkn B L i).2.2 ∧ gF h 38 7 = nI (cK (tkn B L i).1) ∧ ((tkn B L i).1 = 1 → gF h 38 10 = nI (tkn B L i).2.1)
def KT (h : DT) (B : Nat → Nat) (L i : Nat) : Prop := KT0 h B L (i + 1) ∧ gF h 72 8 = nI (tkn B L i).2.2 ∧ (∃ k, gF h 72 9 = nI k ∧ k < 256 ∧ (k = (tkn B L i).1 ∨ (k = 58 ∧ (tkn B L i).1 = 3))) ∧
  ((tkn B L i).1 = 1 → ∃ v, gF h 72 10 = nI v ∧ v ≤ 2000000 ∧ (v < 10000 → (tkn B L i).2.1 = v) ∧ (10000 ≤ v → (tkn B L i).2.1 = 10000)) ∧
  ((tkn B L i).1 = 2 → gG h 72 11 = lW (pkN 0 (wdT B L (tQ B L i))))
theorem CT.cg {h h' : DT} {B : Nat → Nat} {L i : Nat} (H : CT h B L i) (e : ∀ z, z = 0 ∨ 7 ≤ z → gF h' 38 z = gF h 38 z) (e2 : gA h' 39 = gA h 39) : CT h' B L i := by
  obtain ⟨⟨a1, a2⟩, a3, a4, a5⟩ := H
  exact ⟨⟨a1.cg (e 0 (by omega)) e2, by rw [e 9 (by omega)]; exact a2⟩, by rw [e 8 (by omega)]; exact a3, by rw [e 7 (by omega)]; exact a4, fun z => by rw [e 10 (by omega)]; exact a5 z⟩
theorem KT.cg {h h' : DT} {B : Nat → Nat} {L i : Nat} (H : KT h B L i) (e : ∀ z, z = 4 ∨ (7 ≤ z ∧ z ≤ 10) → gF h' 72 z = gF h 72 z) (e2 : gA h' 76 = gA h 76) (e3 : gG h' 72 11 = gG h 72 11) : KT h' B L i := by
  obtain ⟨⟨a1, a2⟩, a3, a4, a5, a6⟩ := H
  exact ⟨⟨a1.cg (e 4 (by omega)) e2, by rw [e 7 (by omega)]; exact a2⟩, by rw [e 8 (by omega)]; exact a3, by rw [e 9 (by omega)]; exact a4, fun z => by rw [e 10 (by omega)]; exact a5 z, fun z => by rw [e3]; exact a6 z⟩
theorem nmK_le {B : Nat → Nat} {L : Nat} : ∀ (c p v : Nat), v ≤ 1000000 → nmK B L c p v ≤ 1000000
  | 0, _, v, h => h
  | c + 1, p, v, h => by
    unfold nmK
    cases hb : decide (p < L) && digB (B p) with
    | false => exact h
    | true =>
      rw [cond_true]
      rw [Bool.and_eq_true] at hb
      obtain ⟨g1, g2⟩ := dig_ge hb.2
      refine nmK_le c (p + 1) _ ?_
      split <;> omega
section TT
variable (X : XS) (d t : Nat) (tx tu gu : Option Nat) (tl : List SC)
theorem x_nxt (ht : t = 52 ∨ t = 57 ∨ t = 62 ∨ t = 67) {B : Nat → Nat} {L i : Nat} (h : DT) (H : CT0 h B L i) : ∃ h', cal X (d + 3) 50 [vP (some 38)] (SK (some t) tu gu tl, h) = some (none, (SK (some t) tu gu tl, h')) ∧ CT h' B L i ∧ (∀ z, z < 7 → gF h' 38 z = gF h 38 z) ∧ smX (fun c => c = 38) h h' := by
  obtain ⟨h', k1, k2, k3, k4, k5, k6, k7⟩ := x_adv X d t tu gu tl ht h H.1 (tS_L B L i) H.2
  refine ⟨h', k1, ⟨⟨H.1.cg (k6 0 (by omega)) (smA k7 (by omega)), k4⟩, k2, by rw [k3, tkK_c]; rfl, fun z => ?_⟩, k6, k7⟩
  obtain ⟨g1, g2, g3⟩ := knd_1 z
  have hk : tkK B L (tQ B L i) = 1 := by
    rw [tkK_c, show knd B L (tQ B L i) = 1 from z]
    rfl
  rw [k5 hk g2 g3]
  show nI (nmC B L (L - tQ B L i) (tQ B L i) 0) = nI (vlT B L (tQ B L i))
  unfold vlT
  rw [g2, cond_false]
theorem k_nxt {B : Nat → Nat} {L i : Nat} (h : DT) (H : KT0 h B L i) : ∃ h', cal X (d + 2) 183 [vP (some 72)] (SK tx tu gu tl, h) = some (none, (SK tx tu gu tl, h')) ∧ KT h' B L i ∧ (∀ z, z < 7 ∨ 11 ≤ z → gF h' 72 z = gF h 72 z) ∧ smX (fun c => c = 72) h h' := by
  obtain ⟨h', k1, k2, k3, k4, k5, k6, k7, k8⟩ := k_adv X d tx tu gu tl h H.1 (tS_L B L i) H.2
  refine ⟨h', k1, ⟨⟨H.1.cg (k7 4 (by omega)) (smA k8 (by omega)), k4⟩, k2, ⟨tkR B L (tQ B L i), k3, ?_, tkR_c B L (tQ B L i)⟩, fun z => ?_, fun z => ?_⟩, k7, k8⟩
  · have := knd_lt (B := B) (L := L) (q := tQ B L i)
    rcases tkR_c B L (tQ B L i) with y | y <;> omega
  · obtain ⟨g1, g2, g3⟩ := knd_1 z
    refine ⟨_, k5 g1 g2 g3, ?_, ?_⟩
    · have := nmK_le (B := B) (L := L) (L - tQ B L i) (tQ B L i) 0 (by omega)
      show nmK B L (L - tQ B L i) (tQ B L i) 0 ≤ 2000000
      omega
    · have e : (tkn B L i).2.1 = nmC B L (L - tQ B L i) (tQ B L i) 0 := by
        show vlT B L (tQ B L i) = _
        unfold vlT
        rw [g2, cond_false]
      rw [e]
      exact nm_rel (B := B) (L := L) (L - tQ B L i) (tQ B L i) 0 0 (fun _ => rfl) (fun z => by omega)
  · obtain ⟨g1, g2⟩ := knd_2 z
    rw [k6 g1 g2]
    exact wdL_N (fun p hp => (H.1.2.2 p hp).2) (L - tQ B L i) (tQ B L i) 0 (Or.inl (by omega))
end TT
