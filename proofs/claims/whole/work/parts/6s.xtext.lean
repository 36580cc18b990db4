/-! THE CLASS'S READING: a text -/
theorem smP_len {τ : Tk} {i : Nat} {T : TXT} {q : Nat × TXT} (h : smP τ i T = .inr q) : q.2 = T ∧ q.1 = i + 1 := by
  unfold smP at h
  split at h
  · injection h with h
    rw [← h]
    exact ⟨rfl, rfl⟩
  · cases h
theorem fgP_r {τ : Tk} {i lo hi : Nat} {k : Nat → CR} {q : Nat × TXT} (h : fgP τ i lo hi k = .inr q) : ∃ v, lo ≤ v ∧ v ≤ hi ∧ k v = .inr q := by
  unfold fgP at h
  split at h
  · split at h
    · next g => exact ⟨_, g.1, g.2, h⟩
    · cases h
  · cases h
theorem laP_r {τ : Tk} {i lw : Nat} {T : TXT} {q : Nat × TXT} (h : laP τ i lw T = .inr q) : ∃ j e, sumP τ (lvP τ lw 8).1 i = .inr (j, e) ∧ (τ j).1 = 59 ∧ q = (j + 1, lwT T lw e) := by
  unfold laP at h
  cases hr : sumP τ (lvP τ lw 8).1 i with
  | inl z => rw [hr] at h; cases h
  | inr z =>
    rw [hr] at h
    refine ⟨z.1, z.2, rfl, ?_⟩
    change smP τ z.1 (lwT T lw z.2) = .inr q at h
    unfold smP at h
    split at h
    · next g => exact ⟨g, (Sum.inr.inj h).symm⟩
    · cases h
theorem deP_r {τ : Tk} {i k : Nat} {T : TXT} {q : Nat × TXT} (h : deP τ i k T = .inr q) : ∃ v v2, v ≤ hiK k ∧ v2 ≤ 9 ∧ q.2 = (T.1 ++ [(k - 1, v, v2)], T.2) := by
  unfold deP at h
  obtain ⟨v, v1, v2, h⟩ := fgP_r h
  split at h
  · split at h
    · obtain ⟨u, u1, u2, h⟩ := fgP_r h
      refine ⟨v, u, v2, ?_, (smP_len h).1⟩
      split at u2 <;> omega
    · cases h
  · exact ⟨v, 0, v2, by omega, (smP_len h).1⟩
theorem clP_r {τ : Tk} {i : Nat} {T : TXT} {q : Nat × TXT} (h : clP τ i T = .inr q) : T.1.length < 24 ∧ ((kdT τ i = 1 ∧ T.2.1 = none ∧ laP τ (i + 1) 0 T = .inr q) ∨ (kdT τ i = 2 ∧ T.2.2 = none ∧ laP τ (i + 1) 1 T = .inr q) ∨ (3 ≤ kdT τ i ∧ deP τ (i + 1) (kdT τ i) T = .inr q)) := by
  unfold clP at h
  by_cases g0 : kdT τ i = 0
  · rw [if_pos g0] at h; cases h
  rw [if_neg g0] at h
  by_cases g1 : (kdT τ i = 1 ∧ T.2.1.isSome = true) ∨ (kdT τ i = 2 ∧ T.2.2.isSome = true)
  · rw [if_pos g1] at h; cases h
  rw [if_neg g1] at h
  by_cases g2 : 24 ≤ T.1.length
  · rw [if_pos g2] at h; cases h
  rw [if_neg g2] at h
  refine ⟨by omega, ?_⟩
  by_cases g3 : kdT τ i = 1
  · rw [if_pos g3] at h
    refine Or.inl ⟨g3, ?_, h⟩
    cases e : T.2.1 with
    | none => rfl
    | some c => exact absurd (Or.inl ⟨g3, by rw [e]; rfl⟩) g1
  rw [if_neg g3] at h
  by_cases g4 : kdT τ i = 2
  · rw [if_pos g4] at h
    refine Or.inr (Or.inl ⟨g4, ?_, h⟩)
    cases e : T.2.2 with
    | none => rfl
    | some c => exact absurd (Or.inr ⟨g4, by rw [e]; rfl⟩) g1
  rw [if_neg g4] at h
  exact Or.inr (Or.inr ⟨by omega, h⟩)
theorem clP_len {τ : Tk} {i : Nat} {T : TXT} {q : Nat × TXT} (h : clP τ i T = .inr q) : q.2.1.length = T.1.length + 1 ∧ T.1.length < 24 := by
  obtain ⟨h0, h⟩ := clP_r h
  refine ⟨?_, h0⟩
  rcases h with ⟨_, _, h⟩ | ⟨_, _, h⟩ | ⟨_, h⟩
  · obtain ⟨j, e, _, _, hq⟩ := laP_r h
    rw [hq]
    show (T.1 ++ [(0, 0, 0)]).length = _
    rw [List.length_append]
    rfl
  · obtain ⟨j, e, _, _, hq⟩ := laP_r h
    rw [hq]
    show (T.1 ++ [(1, 0, 0)]).length = _
    rw [List.length_append]
    rfl
  · obtain ⟨v, v2, _, _, hq⟩ := deP_r h
    rw [hq]
    show (T.1 ++ [(_, v, v2)]).length = _
    rw [List.length_append]
    rfl
def T0 : TXT := ([], none, none)
section TE
variable (X : XS) (d t : Nat) (tx tu gu : Option Nat) (tl : List SC)
theorem x_ilp (ht : isT4 t) {B : Nat → Nat} {L : Nat} (hL : L ≤ 300) : ∀ (k f : Nat) (h : DT) (i s : Nat) (C : Nat → Int) (T : TXT), T.1.length + k = 24 → k + 2 ≤ f → CT h B L i → i ≤ L → XTx h t T s C → s ≤ tS B L i → ClO t tu gu tl B L (m_X4_readInto X (d + 65) f 38 [(0, vP (some 38)), (2, vI (nI T.1.length))] [] (SK (some t) tu gu tl, h)) h (txP (tkn B L) (k + 1) i T) := by
  intro k
  induction k with
  | zero =>
    intro f h i s C T hk hf H hi hX hs
    obtain ⟨f, rfl⟩ : ∃ g, f = g + 1 := ⟨f - 1, by omega⟩
    rw [e_X4_readInto_38, show (24 : Int32) = nI 24 from rfl, if_neg (fun z => by have := (nI_ltI (a := 24) (b := T.1.length) (by omega) (by omega)).mp z; omega), H.2.2.1]
    unfold txP
    by_cases g : (tkn B L i).1 = 0
    · rw [if_pos (show nI (cK (tkn B L i).1) = 0 from (cK_n (m := 0) tkn_k (by omega) (by omega) (by omega)).mpr g), if_pos g]
      exact ⟨h, s, C, rfl, H, hX, hs, hi, smX.rf _ h, fun _ _ => rfl⟩
    · rw [if_neg (show ¬ nI (cK (tkn B L i).1) = 0 from fun z => g ((cK_n (m := 0) tkn_k (by omega) (by omega) (by omega)).mp z)), if_neg g]
      have hR := x_clause X d t tu gu tl ht hL h H hX hs
      cases hr : clP (tkn B L) i T with
      | inl q =>
        rw [hr] at hR
        obtain ⟨h2, j1, j2⟩ := hR
        rw [j1, bI_s, if_pos rfl]
        exact ⟨h2, rfl, j2⟩
      | inr q => exact absurd (clP_len hr).2 (by omega)
  | succ k ih =>
    intro f h i s C T hk hf H hi hX hs
    obtain ⟨f, rfl⟩ : ∃ g, f = g + 1 := ⟨f - 1, by omega⟩
    rw [e_X4_readInto_38, show (24 : Int32) = nI 24 from rfl, if_neg (fun z => by have := (nI_ltI (a := 24) (b := T.1.length) (by omega) (by omega)).mp z; omega), H.2.2.1]
    unfold txP
    by_cases g : (tkn B L i).1 = 0
    · rw [if_pos (show nI (cK (tkn B L i).1) = 0 from (cK_n (m := 0) tkn_k (by omega) (by omega) (by omega)).mpr g), if_pos g]
      exact ⟨h, s, C, rfl, H, hX, hs, hi, smX.rf _ h, fun _ _ => rfl⟩
    · rw [if_neg (show ¬ nI (cK (tkn B L i).1) = 0 from fun z => g ((cK_n (m := 0) tkn_k (by omega) (by omega) (by omega)).mp z)), if_neg g]
      have hR := x_clause X d t tu gu tl ht hL h H hX hs
      cases hr : clP (tkn B L) i T with
      | inl q =>
        rw [hr] at hR
        obtain ⟨h2, j1, j2⟩ := hR
        rw [j1, bI_s, if_pos rfl]
        exact ⟨h2, rfl, j2⟩
      | inr q =>
        rw [hr] at hR
        obtain ⟨h2, s2, C2, j1, j2, j3, j4, j5, j6, j7⟩ := hR
        have hl := (clP_len hr).1
        rw [j1, bI_s, if_neg one0, nI_1, ← hl]
        exact (ih f h2 q.1 s2 C2 q.2 (by omega) (by omega) j2 j5 j3 j4).pre j6 j7
theorem x_into (ht : isT4 t) {B : Nat → Nat} {L : Nat} (h : DT) (H : CB h B L) : ∃ h0, zT t h h0 ∧ gF h0 38 1 = 1 ∧ gF h0 38 2 = 0 ∧ gF h0 38 3 = -1 ∧ gF h0 38 0 = gF h 38 0 ∧ ClO t tu gu tl B L (cal X (d + 66) 26 [vP (some 38), vP (some t)] (SK tx tu gu tl, h)) h0 (txP (tkn B L) 25 0 T0) := by
  have hL := H.2.1
  have ht' := ht
  unfold isT4 at ht'
  generalize hg : sF (sF (sF (sF (sF (sF (sF (sF h t 0 0) t 1 0) t 2 (-1)) t 3 (-1)) 38 1 1) 38 2 0) 38 3 (-1)) 38 9 0 = h1
  have st : cal X (d + 66) 26 [vP (some 38), vP (some t)] (SK tx tu gu tl, h) = bV (cal X (d + 65) 50 [vP (some 38)] (SK (some t) tu gu tl, h1)) fun H1 => m_X4_readInto X (d + 65) 999998 38 [(0, vP (some 38)), (2, vI 0)] [] H1 := by
    rw [c_X4_readInto, e_X4_readInto_0 (ht := ht), c_X7_clear, e_X7_clear_0 (ht := ht), bV_s, e_X4_readInto_12, hg]
  have z1 : zT t h h1 := by
    rw [← hg]
    exact smX.tr (smX.tr (smX.tr (smX.tr (smX.tr (smX.tr (smX.tr (smX_sF (by omega)) (smX_sF (by omega))) (smX_sF (by omega))) (smX_sF (by omega))) (smX_sF (by omega))) (smX_sF (by omega))) (smX_sF (by omega))) (smX_sF (by omega))
  have f38 : ∀ z, gF h1 38 z = if z = 9 then 0 else if z = 3 then -1 else if z = 2 then 0 else if z = 1 then 1 else gF h 38 z := fun z => by
    rw [← hg]
    simp only [gF_sF]
    have n : ∀ m, ¬ (38 = t ∧ z = m) := fun m y => by omega
    simp only [n, if_false, true_and]
  have ft : ∀ z, gF h1 t z = if z = 3 then -1 else if z = 2 then -1 else if z = 1 then 0 else if z = 0 then 0 else gF h t z := fun z => by
    rw [← hg]
    simp only [gF_sF]
    have n : ∀ m, ¬ (t = 38 ∧ z = m) := fun m y => by omega
    simp only [n, if_false, true_and]
  have c1 : CT0 h1 B L 0 := ⟨H.cg (by rw [f38]; rfl) (smA z1 (by omega)), by rw [f38]; rfl⟩
  obtain ⟨h2, a1, a2, a3, a4⟩ := x_nxt X (d + 62) t tu gu tl ht h1 c1
  have et : gF h2 t = gF h1 t := smF a4 (by omega)
  refine ⟨h2, z1.tr (zT_38 a4), by rw [a3 1 (by omega), f38]; rfl, by rw [a3 2 (by omega), f38]; rfl, by rw [a3 3 (by omega), f38]; rfl, by rw [a3 0 (by omega), f38]; rfl, ?_⟩
  rw [st, a1, bV_s]
  refine x_ilp X d t tu gu tl ht hL 24 999998 h2 0 0 (fun _ => 0) T0 rfl (by omega) a2 (by omega) ⟨by decide, ?_, fun i hi => absurd hi (by simp [T0]), ⟨?_, by omega, fun x hx => absurd hx (by omega)⟩, ?_, ?_⟩ (by omega)
  · rw [et, ft]; rfl
  · rw [et, ft]; rfl
  · show gF h2 t (2 + 0) = -1
    rw [et, ft]; rfl
  · show gF h2 t (2 + 1) = -1
    rw [et, ft]; rfl
end TE
