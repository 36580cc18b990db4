/-! NAMES AND NUMBERS that the grammar gives -/
def NP (lw : Nat) (r : PR) : Prop := ∀ j e, r = .inr (j, e) → NOk lw e
theorem NOk_app {lw : Nat} {a b : Cd} (h : NOk lw a) (g : NOk lw b) : NOk lw (a ++ b) := fun q hq => by
  rcases List.mem_append.mp hq with z | z
  · exact h q z
  · exact g q z
theorem NOk_1 {lw o : Nat} (h : o < 1000) (h1 : o ≠ 1) : NOk lw [(o, 0)] := fun q hq => by
  rcases List.mem_cons.mp hq with rfl | z
  · exact ⟨⟨h, by show 0 ≤ 9999; omega, fun z => absurd z h1⟩, fun z => absurd z h1⟩
  · cases z
theorem NP_b {lw : Nat} {r : PR} {k : Nat → Cd → PR} (h : NP lw r) (hk : ∀ j e, NOk lw e → NP lw (k j e)) : NP lw (pB r k) := by
  cases r with
  | inl q =>
    intro j e z
    cases z
  | inr q => exact hk q.1 q.2 (h q.1 q.2 rfl)
theorem NP_r {lw j : Nat} {e : Cd} (h : NOk lw e) : NP lw (.inr (j, e)) := fun j' e' z => by
  have := Sum.inr.inj z
  injection this with _ z2
  rw [← z2]
  exact h
theorem NP_l {lw : Nat} {q : Nat × Nat} : NP lw (.inl q) := fun j e z => by cases z
theorem NP_chn {lw : Nat} {it : Nat → PR} {op : Nat → Nat} (hit : ∀ i, NP lw (it i)) (hop : ∀ i, op i < 1000 ∧ op i ≠ 1) : ∀ (f i : Nat) (c : Cd), NOk lw c → NP lw (chn it op f i c)
  | 0, i, c, h => NP_r h
  | f + 1, i, c, h => by
    unfold chn
    split
    · exact NP_r h
    · exact NP_b (hit _) fun j e he => NP_chn hit hop f j _ (NOk_app (NOk_app h he) (NOk_1 (hop i).1 (hop i).2))
theorem op_prd (τ : Tk) (i : Nat) : gPrd τ i < 1000 ∧ gPrd τ i ≠ 1 := by
  unfold gPrd
  split
  · omega
  · split <;> omega
theorem op_sum (τ : Tk) (i : Nat) : gSum τ i < 1000 ∧ gSum τ i ≠ 1 := by
  unfold gSum
  split
  · omega
  · split <;> omega
theorem op_and (τ : Tk) (i : Nat) : gAnd τ i < 1000 ∧ gAnd τ i ≠ 1 := by
  unfold gAnd
  split <;> omega
theorem op_or (τ : Tk) (i : Nat) : gOr τ i < 1000 ∧ gOr τ i ≠ 1 := by
  unfold gOr
  split <;> omega
theorem op_cmp (τ : Tk) (i : Nat) : gCmp τ i < 1000 ∧ gCmp τ i ≠ 1 := by
  rcases gCmp_cs (τ := τ) (i := i) with ⟨z, _⟩ | ⟨z, _⟩ | ⟨z, _⟩ | ⟨z, _⟩ | ⟨z, _⟩ | ⟨z, _⟩ | ⟨z, _⟩ <;> rw [z] <;> decide
theorem NP_prd {τ : Tk} {lw : Nat} {it : Nat → PR} (h : ∀ i, NP lw (it i)) (i : Nat) : NP lw (prdP τ it i) := NP_b (h i) fun j e he => NP_chn h (op_prd τ) 300 j e he
theorem NP_sum {τ : Tk} {lw : Nat} {it : Nat → PR} (h : ∀ i, NP lw (it i)) (i : Nat) : NP lw (sumP τ it i) := NP_b (NP_prd h i) fun j e he => NP_chn (NP_prd h) (op_sum τ) 300 j e he
theorem NP_bth {τ : Tk} {lw : Nat} {it : Nat → PR} (h : ∀ i, NP lw (it i)) (i : Nat) : NP lw (bthP τ it i) := NP_b (h i) fun j e he => NP_chn h (op_and τ) 300 j e he
theorem NP_eit {τ : Tk} {lw : Nat} {it : Nat → PR} (h : ∀ i, NP lw (it i)) (i : Nat) : NP lw (eitP τ it i) := NP_b (NP_bth h i) fun j e he => NP_chn (NP_bth h) (op_or τ) 300 j e he
def SubN (lw : Nat) (sub : Option Lv) : Prop := match sub with
  | none => True
  | some s => (∀ i, NP lw (s.1 i)) ∧ ∀ i, NP lw (s.2 i)
theorem NP_op {lw i : Nat} {sub : Option Lv} {k : Lv → PR} (hS : SubN lw sub) (hk : ∀ s, (∀ i, NP lw (s.1 i)) → (∀ i, NP lw (s.2 i)) → NP lw (k s)) : NP lw (opF sub i k) := by
  cases sub with
  | none => exact NP_l
  | some s => exact hk s hS.1 hS.2
theorem NP_one {τ : Tk} {lw : Nat} {sub : Option Lv} (hS : SubN lw sub) (i : Nat) : NP lw (oneF τ lw sub i) := by
  unfold oneF
  by_cases g1 : (τ i).1 = 1
  · rw [if_pos g1]
    by_cases y : 9999 < (τ i).2.1
    · rw [if_pos y]; exact NP_l
    · rw [if_neg y]
      refine NP_r fun q hq => ?_
      rcases List.mem_cons.mp hq with rfl | z
      · exact ⟨⟨by show 0 < 1000; omega, by show (τ i).2.1 ≤ 9999; omega, fun z => by cases z⟩, fun z => by cases z⟩
      · cases z
  rw [if_neg g1]
  by_cases g2 : (τ i).1 = 40
  · rw [if_pos g2]
    refine NP_op hS fun s h1 h2 => ?_
    unfold parF
    refine NP_b (NP_sum h1 _) fun j e he => ?_
    split
    · exact NP_r he
    · exact NP_l
  rw [if_neg g2]
  by_cases g3 : (τ i).1 = 45
  · rw [if_pos g3]
    refine NP_op hS fun s h1 h2 => ?_
    unfold negF
    exact NP_b (h1 _) fun j e he => NP_r (NOk_app he (NOk_1 (by omega) (by omega)))
  rw [if_neg g3]
  by_cases g4 : isW τ i 9 = true
  · rw [if_pos g4]
    refine NP_op hS fun s h1 h2 => ?_
    unfold stpF
    refine NP_b (h1 _) fun j e he => ?_
    split
    · exact NP_b (h1 _) fun j2 e2 he2 => NP_r (NOk_app (NOk_app he he2) (NOk_1 (by omega) (by omega)))
    · exact NP_l
  rw [if_neg g4]
  by_cases g5 : isW τ i 11 = true
  · rw [if_pos g5]
    refine NP_op hS fun s h1 h2 => ?_
    unfold seaF
    exact NP_b (h1 _) fun j e he => NP_r (NOk_app he (NOk_1 (by omega) (by omega)))
  rw [if_neg g5]
  by_cases g6 : isW τ i 12 = true
  · rw [if_pos g6]
    refine NP_op hS fun s h1 h2 => ?_
    unfold choF
    refine NP_b (NP_eit h2 _) fun j e he => ?_
    split
    · refine NP_b (NP_sum h1 _) fun j2 e2 he2 => ?_
      split
      · refine NP_b (NP_sum h1 _) fun j3 e3 he3 => ?_
        split
        · exact NP_r (NOk_app (NOk_app (NOk_app he he2) he3) (NOk_1 (by omega) (by omega)))
        · exact NP_l
      · exact NP_l
    · exact NP_l
  rw [if_neg g6]
  by_cases g7 : (τ i).1 = 2 ∧ gNam (τ i).2.1 < 9
  · rw [if_pos g7]
    by_cases y : gOf lw (gNam (τ i).2.1) = true
    · rw [if_pos y]
      refine NP_r fun q hq => ?_
      rcases List.mem_cons.mp hq with rfl | z
      · exact ⟨⟨by show 1 < 1000; omega, by show gNam (τ i).2.1 ≤ 9999; omega, fun _ => g7.2⟩, fun _ => y⟩
      · cases z
    · rw [if_neg y]; exact NP_l
  rw [if_neg g7]
  exact NP_l
theorem NP_ask {τ : Tk} {lw : Nat} {sub : Option Lv} {one : Nat → PR} (hS : SubN lw sub) (h1 : ∀ i, NP lw (one i)) (i : Nat) : NP lw (askF τ sub one i) := by
  unfold askF
  by_cases g : isW τ i 13 = true
  · rw [if_pos g]
    exact NP_op hS fun s _ h2 => NP_b (h2 _) fun j e he => NP_r (NOk_app he (NOk_1 (by omega) (by omega)))
  · rw [if_neg g]
    unfold cmpF
    refine NP_b (NP_sum h1 _) fun j e he => ?_
    split
    · exact NP_l
    · exact NP_b (NP_sum h1 _) fun j2 e2 he2 => NP_r (NOk_app (NOk_app he he2) (NOk_1 (op_cmp τ j).1 (op_cmp τ j).2))
theorem NP_lv {τ : Tk} {lw : Nat} : ∀ D, (∀ i, NP lw ((lvP τ lw D).1 i)) ∧ ∀ i, NP lw ((lvP τ lw D).2 i) := by
  intro D
  induction D with
  | zero => exact ⟨fun i => NP_one (sub := none) trivial i, fun i => NP_ask (sub := none) trivial (fun i => NP_one (sub := none) trivial i) i⟩
  | succ D ih => exact ⟨fun i => NP_one (sub := some (lvP τ lw D)) ih i, fun i => NP_ask (sub := some (lvP τ lw D)) ih (fun i => NP_one (sub := some (lvP τ lw D)) ih i) i⟩
def TNk (T : TXT) : Prop := (∀ e, T.2.1 = some e → NOk 0 e) ∧ ∀ e, T.2.2 = some e → NOk 1 e
theorem TNk_la {τ : Tk} {i lw : Nat} {T : TXT} {q : Nat × TXT} (hlw : lw = 0 ∨ lw = 1) (hT : TNk T) (h : laP τ i lw T = .inr q) : TNk q.2 := by
  obtain ⟨j, e, e1, _, rfl⟩ := laP_r h
  have hN := NP_sum (τ := τ) (NP_lv (τ := τ) (lw := lw) 8).1 i j e e1
  rcases hlw with rfl | rfl
  · exact ⟨fun e' z => by
      have : some e = some e' := z
      rw [← Option.some.inj this]
      exact hN, hT.2⟩
  · exact ⟨hT.1, fun e' z => by
      have : some e = some e' := z
      rw [← Option.some.inj this]
      exact hN⟩
theorem TNk_cl {τ : Tk} {i : Nat} {T : TXT} {q : Nat × TXT} (hT : TNk T) (h : clP τ i T = .inr q) : TNk q.2 := by
  rcases (clP_r h).2 with ⟨_, _, h⟩ | ⟨_, _, h⟩ | ⟨_, h⟩
  · exact TNk_la (Or.inl rfl) hT h
  · exact TNk_la (Or.inr rfl) hT h
  · obtain ⟨v, v2, _, _, hq⟩ := deP_r h
    rw [hq]
    exact hT
theorem TNk_tx {τ : Tk} : ∀ (f i : Nat) (T : TXT) (q : Nat × TXT), TNk T → txP τ f i T = .inr q → TNk q.2
  | 0, i, T, q, hT, h => by
    have := Sum.inr.inj h
    rw [← this]
    exact hT
  | f + 1, i, T, q, hT, h => by
    unfold txP at h
    split at h
    · have := Sum.inr.inj h
      rw [← this]
      exact hT
    · cases hc : clP τ i T with
      | inl z => rw [hc] at h; cases h
      | inr z =>
        rw [hc] at h
        exact TNk_tx f z.1 z.2 q (TNk_cl hT hc) h
