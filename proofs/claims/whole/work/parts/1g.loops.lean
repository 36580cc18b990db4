/-! LOOPS: a row is copied; a counter goes up -/
theorem dt_ext {a b : DT} (h1 : ∀ n k, gF a n k = gF b n k) (h2 : ∀ n k, gG a n k = gG b n k) (h3 : ∀ n k, gA a n k = gA b n k) (h4 : ∀ n k, gB a n k = gB b n k) : a = b := by
  obtain ⟨a1, a2, a3, a4⟩ := a
  obtain ⟨b1, b2, b3, b4⟩ := b
  have e1 : a1 = b1 := funext fun n => funext fun k => h1 n k
  have e2 : a2 = b2 := funext fun n => funext fun k => h2 n k
  have e3 : a3 = b3 := funext fun n => funext fun k => h3 n k
  have e4 : a4 = b4 := funext fun n => funext fun k => h4 n k
  rw [e1, e2, e3, e4]
theorem yA_0 (h : DT) (a b sp dp : Nat) : yA h a b sp dp 0 = h := by
  refine dt_ext (fun n k => rfl) (fun n k => rfl) (fun n k => ?_) (fun n k => rfl)
  rw [gA_yA]
  by_cases hn : n = b
  · rw [if_pos hn, if_neg (by omega), hn]
  · rw [if_neg hn]
theorem yA_step {h : DT} {a b sp dp k : Nat} (hov : a ≠ b ∨ dp ≤ sp) : yA (sA h b dp (gA h a sp)) a b (sp + 1) (dp + 1) k = yA h a b sp dp (k + 1) := by
  refine dt_ext (fun n j => rfl) (fun n j => rfl) (fun n j => ?_) (fun n j => rfl)
  rw [gA_yA, gA_yA]
  by_cases hn : n = b
  · subst hn
    rw [if_pos rfl, if_pos rfl]
    by_cases h1 : dp + 1 ≤ j ∧ j < dp + 1 + k
    · rw [if_pos h1, if_pos (by omega), gA_sA, if_neg (by omega)]
      congr 1
      omega
    · rw [if_neg h1, gA_sA]
      by_cases h2 : j = dp
      · subst h2
        rw [if_pos ⟨rfl, rfl⟩, if_pos (by omega)]
        congr 1
        omega
      · rw [if_neg (fun q => h2 q.2), if_neg (by omega)]
  · rw [if_neg hn, if_neg hn, gA_sA, if_neg (fun q => hn q.1)]
/-- a loop that copies a row, from the place i on -/
theorem cploop {F : Nat → Int32 → DT → RR} {G : Nat → DT → RR} {src dst sp dp N g0 : Nat} {r : Option AV × HP} (hx : ∀ f h, F (f + 1) (nI N) h = G f h) (hs : ∀ f i h, i < N → F (f + 1) (nI i) h = F f (nI (i + 1)) (sA h dst (dp + i) (gA h src (sp + i)))) (hov : src ≠ dst ∨ dp ≤ sp) :
    ∀ (k i f : Nat) (h : DT), i + k = N → g0 + k + 1 ≤ f → (∀ f, g0 ≤ f → G f (yA h src dst (sp + i) (dp + i) k) = some r) → F f (nI i) h = some r
  | 0, i, f, h, hi, hf, hG => by
    obtain rfl : i = N := by omega
    obtain ⟨f, rfl⟩ : ∃ f', f = f' + 1 := ⟨f - 1, by omega⟩
    rw [hx]
    have := hG f (by omega)
    rw [yA_0] at this
    exact this
  | k + 1, i, f, h, hi, hf, hG => by
    obtain ⟨f, rfl⟩ : ∃ f', f = f' + 1 := ⟨f - 1, by omega⟩
    rw [hs f i h (by omega)]
    refine cploop (g0 := g0) hx hs hov k (i + 1) f _ (by omega) (by omega) fun f' hf' => ?_
    have e := yA_step (h := h) (a := src) (b := dst) (sp := sp + i) (dp := dp + i) (k := k) (by rcases hov with q | q; exact Or.inl q; exact Or.inr (by omega))
    rw [show sp + (i + 1) = sp + i + 1 by omega, show dp + (i + 1) = dp + i + 1 by omega, e]
    exact hG f' hf'
