/-! THE REFERENCE'S PILE: what it holds -/
def cntO : List Nat → Nat
  | [] => 0
  | p :: K => (if isN p = 1 ∨ 40 ≤ p then 1 else 0) + cntO K
theorem isN_1 (p : Nat) : isN p = 0 ∨ isN p = 1 := by
  unfold isN
  split
  · exact Or.inr rfl
  · exact Or.inl rfl
theorem rnk_40 {p : Nat} (h : 1 ≤ rnk p) : p < 40 := by
  unfold rnk at h
  by_cases g : 40 ≤ p
  · rw [if_pos g] at h; omega
  · omega
theorem cntO_le : ∀ K : List Nat, cntO K ≤ K.length
  | [] => Nat.le_refl _
  | p :: K => by
    have := cntO_le K
    show (if isN p = 1 ∨ 40 ≤ p then 1 else 0) + cntO K ≤ K.length + 1
    split <;> omega
/-- what is left of a pile -/
theorem stl_inv {r : Nat} (hr : 1 ≤ r) : ∀ (K : List Nat) (c : Cd), (stl r K (cntO K) c).2.1 = cntO (stl r K (cntO K) c).1 ∧ (stl r K (cntO K) c).2.2.length + (stl r K (cntO K) c).1.length = c.length + K.length ∧ (stl r K (cntO K) c).1.length - cntO (stl r K (cntO K) c).1 ≤ K.length - cntO K ∧ (stl r K (cntO K) c).1.length ≤ K.length ∧ ∀ p, p ∈ (stl r K (cntO K) c).1 → p ∈ K
  | [], c => ⟨rfl, rfl, Nat.le_refl _, Nat.le_refl _, fun _ h => h⟩
  | p :: K, c => by
    unfold stl
    by_cases g : r ≤ rnk p
    · rw [if_pos g]
      have h40 := rnk_40 (p := p) (by omega)
      have e : cntO (p :: K) - isN p = cntO K := by
        show (if isN p = 1 ∨ 40 ≤ p then 1 else 0) + cntO K - isN p = cntO K
        rcases isN_1 p with h | h
        · rw [h, if_neg (by omega)]; omega
        · rw [h, if_pos (by omega)]; omega
      rw [e]
      obtain ⟨a1, a2, a3, a4, a5⟩ := stl_inv hr K (c ++ [(p, 0)])
      have := cntO_le K
      have e2 : K.length - cntO K ≤ (p :: K).length - cntO (p :: K) := by
        show K.length - cntO K ≤ K.length + 1 - ((if isN p = 1 ∨ 40 ≤ p then 1 else 0) + cntO K)
        split <;> omega
      refine ⟨a1, ?_, Nat.le_trans a3 e2, ?_, fun q hq => List.mem_cons_of_mem _ (a5 q hq)⟩
      · rw [a2]; simp; omega
      · rw [List.length_cons]; omega
    · rw [if_neg g]
      exact ⟨rfl, rfl, Nat.le_refl _, Nat.le_refl _, fun _ h => h⟩
/-- bounds of a state -/
def JJ (L i0 : Nat) (s : St) : Prop := s.2.2.1 = cntO s.2.1 ∧ s.2.2.1 ≤ 8 ∧ 2 * (s.2.1.length - cntO s.2.1) + (bif s.2.2.2.1 then 1 else 0) + i0 ≤ s.1 ∧ s.2.2.2.2.length + s.2.1.length + i0 ≤ s.1 ∧ (∀ p ∈ s.2.1, p < 1000) ∧ s.1 ≤ L
theorem stl_41 {r : Nat} {K : List Nat} {c : Cd} {o : Nat} (h : (stl r K o c).1.head? = some 41) : ∃ K', (stl r K o c).1 = 41 :: K' := by
  cases e : (stl r K o c).1 with
  | nil => rw [e] at h; cases h
  | cons p K' =>
    rw [e] at h
    injection h with h
    exact ⟨K', by rw [h]⟩
theorem cntO_cons (p : Nat) (K : List Nat) : cntO (p :: K) = (if isN p = 1 ∨ 40 ≤ p then 1 else 0) + cntO K := rfl
theorem JJ_end {τ : Tk} {L i0 i o : Nat} {K : List Nat} {c : Cd} (ho : o = cntO K) (h8 : o ≤ 8) (hb : 2 * (K.length - cntO K) + 1 + i0 ≤ i) (hc : c.length + K.length + i0 ≤ i) (hp : ∀ p ∈ K, p < 1000) (hi : i ≤ L) (hE : ∀ j, L ≤ j → (τ j).1 = 0) {s : St} (h : rEnd τ i K o c = .inl s) : JJ L i0 s := by
  subst ho
  unfold rEnd rE2 at h
  obtain ⟨a1, a2, a3, a4, a5⟩ := stl_inv (r := 7) (by omega) K c
  have hcl := cntO_le (stl 7 K (cntO K) c).1
  have hcK := cntO_le K
  have ho8 : (stl 7 K (cntO K) c).2.1 ≤ cntO K := by
    have : ∀ (K : List Nat) (o : Nat) (c : Cd), (stl 7 K o c).2.1 ≤ o := by
      intro K
      induction K with
      | nil => intro o c; exact Nat.le_refl _
      | cons p K ih =>
        intro o c
        unfold stl
        split
        · exact Nat.le_trans (ih _ _) (by omega)
        · exact Nat.le_refl _
    exact this K _ c
  by_cases g : (stl 7 K (cntO K) c).1.head? = some 41
  · rw [if_pos g] at h
    obtain ⟨K', hK'⟩ := stl_41 g
    by_cases y : isW τ i 10 = true
    · rw [if_pos y] at h
      injection h with h
      rw [← h]
      have hiL : i < L := by
        by_cases q : i < L
        · exact q
        · have := hE i (by omega)
          rw [(isW_c y).1] at this
          omega
      rw [hK'] at a1 a2 a3 a4 a5 hcl ⊢
      rw [cntO_cons, if_pos (by omega), List.length_cons] at a3 hcl
      rw [cntO_cons, if_pos (by omega)] at a1
      rw [List.length_cons] at a2
      refine ⟨?_, by show (stl 7 K (cntO K) c).2.1 ≤ 8; omega, ?_, ?_, fun p hp' => ?_, by show i + 1 ≤ L; omega⟩
      · show (stl 7 K (cntO K) c).2.1 = cntO (4 :: K')
        rw [cntO_cons, if_pos (by decide)]
        exact a1
      · show 2 * ((4 :: K').length - cntO (4 :: K')) + 0 + i0 ≤ i + 1
        rw [cntO_cons, if_pos (by decide), List.length_cons]
        omega
      · show (stl 7 K (cntO K) c).2.2.length + (4 :: K').length + i0 ≤ i + 1
        rw [List.length_cons]
        omega
      · rcases List.mem_cons.mp hp' with rfl | hp'
        · omega
        · exact hp p (a5 p (List.mem_cons_of_mem _ hp'))
    · rw [if_neg y] at h
      cases h
  · rw [if_neg g] at h
    injection h with h
    rw [← h]
    refine ⟨a1, by show (stl 7 K (cntO K) c).2.1 ≤ 8; omega, ?_, ?_, fun p hp' => hp p (a5 p hp'), hi⟩
    · show 2 * ((stl 7 K (cntO K) c).1.length - cntO (stl 7 K (cntO K) c).1) + 1 + i0 ≤ i
      omega
    · show (stl 7 K (cntO K) c).2.2.length + (stl 7 K (cntO K) c).1.length + i0 ≤ i
      omega
theorem btw_i {τ : Tk} {i : Nat} {K : List Nat} (h : btw τ i K ≠ 0) : (τ i).1 ≠ 0 ∧ btw τ i K < 40 ∧ isN (btw τ i K) = 0 ∧ 1 ≤ rnk (btw τ i K) := by
  unfold btw at h ⊢
  by_cases g1 : gSum τ i ≠ 0
  · rw [if_pos g1]
    rcases gSum_n g1 with ⟨a, b⟩ | ⟨a, b⟩ <;> rw [a, b] <;> decide
  rw [if_neg g1] at h ⊢
  by_cases g2 : gPrd τ i ≠ 0
  · rw [if_pos g2]
    rcases gPrd_n g2 with ⟨a, b⟩ | ⟨a, b⟩ <;> rw [a, b] <;> decide
  rw [if_neg g2] at h ⊢
  by_cases g3 : opn K ≠ 42
  · rw [if_pos g3] at h; exact absurd rfl h
  rw [if_neg g3] at h ⊢
  by_cases g4 : cmpd K = false
  · rw [if_pos g4] at h ⊢
    rcases gCmp_cs (τ := τ) (i := i) with ⟨z, _⟩ | ⟨a, b⟩ | ⟨a, b⟩ | ⟨a, b⟩ | ⟨a, b⟩ | ⟨a, b⟩ | ⟨a, b⟩
    · exact absurd z h
    all_goals (rw [a, b]; decide)
  rw [if_neg g4] at h ⊢
  by_cases g5 : gAnd τ i ≠ 0
  · rw [if_pos g5]
    obtain ⟨a, b⟩ := gAnd_n g5
    rw [b, (isW_c a).1]
    decide
  rw [if_neg g5] at h ⊢
  obtain ⟨a, b⟩ := gOr_n h
  rw [b, (isW_c a).1]
  decide
theorem prt_i {τ : Tk} {i : Nat} {K : List Nat} (h : prt τ i K ≠ 99) : (τ i).1 ≠ 0 ∧ 40 ≤ opn K ∧ (prt τ i K = 0 ∨ prt τ i K = 43 ∨ prt τ i K = 44) := by
  unfold prt at h ⊢
  by_cases g1 : opn K = 40
  · rw [if_pos g1] at h ⊢
    by_cases y : (τ i).1 = 41
    · rw [if_pos y]; omega
    · rw [if_neg y] at h; omega
  rw [if_neg g1] at h ⊢
  by_cases g2 : opn K = 42
  · rw [if_pos g2] at h ⊢
    by_cases y : isW τ i 16 = true ∧ cmpd K = true
    · rw [if_pos y]; have := (isW_c y.1).1; omega
    · rw [if_neg y] at h; omega
  rw [if_neg g2] at h ⊢
  by_cases g3 : opn K = 43
  · rw [if_pos g3] at h ⊢
    by_cases y : isW τ i 17 = true
    · rw [if_pos y]; have := (isW_c y).1; omega
    · rw [if_neg y] at h; omega
  rw [if_neg g3] at h ⊢
  by_cases g4 : opn K = 44
  · rw [if_pos g4] at h ⊢
    by_cases y : isW τ i 18 = true
    · rw [if_pos y]; have := (isW_c y).1; omega
    · rw [if_neg y] at h; omega
  rw [if_neg g4] at h
  omega
/-- behind what is settled to the open one, the open one lies above -/
theorem stl_opn : ∀ (K : List Nat) (o : Nat) (c : Cd), 40 ≤ opn K → ∃ K', (stl 1 K o c).1 = opn K :: K'
  | [], o, c, h => by
    have : opn [] = 0 := rfl
    omega
  | p :: K, o, c, h => by
    unfold stl opn
    unfold opn at h
    by_cases g : 40 ≤ p
    · have : rnk p = 0 := by unfold rnk; rw [if_pos g]
      rw [if_pos g, if_neg (by omega)]
      exact ⟨K, rfl⟩
    · rw [if_neg g] at h ⊢
      have : 1 ≤ rnk p := by
        unfold rnk
        rw [if_neg g]
        split
        · omega
        · split
          · omega
          · split
            · omega
            · split
              · omega
              · split
                · omega
                · split <;> omega
      rw [if_pos this]
      exact stl_opn K _ _ h
theorem JJ_st {τ : Tk} {L lw i0 : Nat} (hE : ∀ j, L ≤ j → (τ j).1 = 0) {s s' : St} (H : JJ L i0 s) (h : rStep τ lw s = .inl s') : JJ L i0 s' := by
  obtain ⟨i, K, o, w, c⟩ := s
  obtain ⟨h1, h2, h3, h4, h5, h6⟩ := H
  change o = cntO K at h1
  change o ≤ 8 at h2
  change 2 * (K.length - cntO K) + (bif w then 1 else 0) + i0 ≤ i at h3
  change c.length + K.length + i0 ≤ i at h4
  change ∀ p ∈ K, p < 1000 at h5
  change i ≤ L at h6
  have iL : (τ i).1 ≠ 0 → i < L := fun z => by
    by_cases q : i < L
    · exact q
    · exact absurd (hE i (by omega)) z
  have hcK := cntO_le K
  cases w with
  | false =>
    change rBeg τ lw i K o c = .inl s' at h
    change 2 * (K.length - cntO K) + 0 + i0 ≤ i at h3
    have opnC : ∀ p, p < 1000 → (isN p = 1 ∨ 40 ≤ p) → (τ i).1 ≠ 0 → rOpn i p K o c = .inl s' → JJ L i0 s' := fun p hp hq hz hr => by
      unfold rOpn at hr
      by_cases g : o = 8
      · rw [if_pos g] at hr; cases hr
      · rw [if_neg g] at hr
        injection hr with hr
        rw [← hr]
        have := iL hz
        refine ⟨?_, by show o + 1 ≤ 8; omega, ?_, ?_, fun q hq' => ?_, by show i + 1 ≤ L; omega⟩
        · show o + 1 = cntO (p :: K)
          rw [cntO_cons, if_pos hq]; omega
        · show 2 * ((p :: K).length - cntO (p :: K)) + 0 + i0 ≤ i + 1
          rw [cntO_cons, if_pos hq, List.length_cons]; omega
        · show c.length + (p :: K).length + i0 ≤ i + 1
          rw [List.length_cons]; omega
        · rcases List.mem_cons.mp hq' with rfl | hq'
          · exact hp
          · exact h5 q hq'
    have endC : ∀ q : Nat × Nat, (τ i).1 ≠ 0 → rEnd τ (i + 1) K o (c ++ [q]) = .inl s' → JJ L i0 s' := fun q hz hr => by
      have := iL hz
      exact JJ_end h1 h2 (by omega) (by rw [List.length_append]; simp; omega) h5 (by omega) hE hr
    unfold rBeg at h
    by_cases g1 : (τ i).1 = 1
    · rw [if_pos g1] at h
      by_cases y : 9999 < (τ i).2.1
      · rw [if_pos y] at h; cases h
      · rw [if_neg y] at h
        exact endC _ (by omega) h
    rw [if_neg g1] at h
    by_cases g2 : (τ i).1 = 2 ∧ gNam (τ i).2.1 < 9
    · rw [if_pos g2] at h
      by_cases y : gOf lw (gNam (τ i).2.1) = true
      · rw [if_pos y] at h
        exact endC _ (by omega) h
      · rw [if_neg y] at h; cases h
    rw [if_neg g2] at h
    by_cases g3 : (τ i).1 = 40
    · rw [if_pos g3] at h; exact opnC 40 (by omega) (by omega) (by omega) h
    rw [if_neg g3] at h
    by_cases g4 : (τ i).1 = 45
    · rw [if_pos g4] at h; exact opnC 5 (by omega) (by decide) (by omega) h
    rw [if_neg g4] at h
    by_cases g5 : isW τ i 9 = true
    · rw [if_pos g5] at h; exact opnC 41 (by omega) (by omega) (by rw [(isW_c g5).1]; decide) h
    rw [if_neg g5] at h
    by_cases g6 : isW τ i 11 = true
    · rw [if_pos g6] at h; exact opnC 2 (by omega) (by decide) (by rw [(isW_c g6).1]; decide) h
    rw [if_neg g6] at h
    by_cases g7 : isW τ i 12 = true
    · rw [if_pos g7] at h; exact opnC 42 (by omega) (by omega) (by rw [(isW_c g7).1]; decide) h
    rw [if_neg g7] at h
    by_cases g8 : isW τ i 13 = true ∧ askA K = true
    · rw [if_pos g8] at h; exact opnC 20 (by omega) (by decide) (by rw [(isW_c g8.1).1]; decide) h
    rw [if_neg g8] at h
    cases h
  | true =>
    change rBeh τ i K o c = .inl s' at h
    change 2 * (K.length - cntO K) + 1 + i0 ≤ i at h3
    subst h1
    unfold rBeh at h
    by_cases g : btw τ i K ≠ 0
    · rw [if_pos g] at h
      obtain ⟨b1, b2, b3, b4⟩ := btw_i g
      have := iL b1
      revert h
      generalize hr : (if rnk (btw τ i K) = 4 then 5 else rnk (btw τ i K)) = r
      intro h
      obtain ⟨a1, a2, a3, a4, a5⟩ := stl_inv (r := r) (by rw [← hr]; split <;> omega) K c
      have hcl := cntO_le (stl r K (cntO K) c).1
      have ho8 : (stl r K (cntO K) c).2.1 ≤ cntO K := by
        have : ∀ (K : List Nat) (o : Nat) (c : Cd), (stl r K o c).2.1 ≤ o := by
          intro K
          induction K with
          | nil => intro o c; exact Nat.le_refl _
          | cons p K ih =>
            intro o c
            unfold stl
            split
            · exact Nat.le_trans (ih _ _) (by omega)
            · exact Nat.le_refl _
        exact this K _ c
      injection h with h
      rw [← h]
      refine ⟨?_, by show (stl r K (cntO K) c).2.1 ≤ 8; omega, ?_, ?_, fun q hq' => ?_, by show i + 1 ≤ L; omega⟩
      · show (stl r K (cntO K) c).2.1 = cntO (btw τ i K :: (stl r K (cntO K) c).1)
        rw [cntO_cons, if_neg (by omega), Nat.zero_add]
        exact a1
      · show 2 * ((btw τ i K :: (stl r K (cntO K) c).1).length - cntO (btw τ i K :: (stl r K (cntO K) c).1)) + 0 + i0 ≤ i + 1
        rw [cntO_cons, if_neg (by omega), List.length_cons]
        omega
      · show (stl r K (cntO K) c).2.2.length + (btw τ i K :: (stl r K (cntO K) c).1).length + i0 ≤ i + 1
        rw [List.length_cons]
        omega
      · rcases List.mem_cons.mp hq' with rfl | hq'
        · omega
        · exact h5 q (a5 q hq')
    · rw [if_neg g] at h
      by_cases g2 : prt τ i K = 99
      · rw [if_pos g2] at h
        split at h <;> cases h
      · rw [if_neg g2] at h
        obtain ⟨p1, p2, p3⟩ := prt_i g2
        have := iL p1
        obtain ⟨a1, a2, a3, a4, a5⟩ := stl_inv (r := 1) (by omega) K c
        obtain ⟨K', hK'⟩ := stl_opn K (cntO K) c p2
        have hcl := cntO_le (stl 1 K (cntO K) c).1
        have ho8 : (stl 1 K (cntO K) c).2.1 ≤ cntO K := by
          have : ∀ (K : List Nat) (o : Nat) (c : Cd), (stl 1 K o c).2.1 ≤ o := by
            intro K
            induction K with
            | nil => intro o c; exact Nat.le_refl _
            | cons p K ih =>
              intro o c
              unfold stl
              split
              · exact Nat.le_trans (ih _ _) (by omega)
              · exact Nat.le_refl _
          exact this K _ c
        rw [hK'] at a1 a2 a3 a5 hcl
        rw [cntO_cons, if_pos (by omega)] at a1 a3 hcl
        rw [List.length_cons] at a2 a3 hcl
        have hp' : ∀ p ∈ K', p < 1000 := fun p hp => h5 p (a5 p (List.mem_cons_of_mem _ hp))
        by_cases g3 : prt τ i K = 0
        · rw [if_pos g3, hK'] at h
          refine JJ_end (K := K') (o := (stl 1 K (cntO K) c).2.1 - 1) (by omega) (by omega) (by omega) ?_ hp' (by omega) hE h
          split
          · rw [List.length_append]; simp; omega
          · omega
        · rw [if_neg g3, hK'] at h
          injection h with h
          rw [← h]
          have p40 : 40 ≤ prt τ i K := by omega
          refine ⟨?_, by show (stl 1 K (cntO K) c).2.1 ≤ 8; omega, ?_, ?_, fun q hq' => ?_, by show i + 1 ≤ L; omega⟩
          · show (stl 1 K (cntO K) c).2.1 = cntO (prt τ i K :: K')
            rw [cntO_cons, if_pos (by omega)]
            exact a1
          · show 2 * ((prt τ i K :: K').length - cntO (prt τ i K :: K')) + 0 + i0 ≤ i + 1
            rw [cntO_cons, if_pos (by omega), List.length_cons]
            omega
          · show (stl 1 K (cntO K) c).2.2.length + (prt τ i K :: K').length + i0 ≤ i + 1
            rw [List.length_cons]
            omega
          · rcases List.mem_cons.mp hq' with rfl | hq'
            · omega
            · exact hp' q hq'
