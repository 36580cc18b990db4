/-! PAGE: the class -/
def sX (i : Nat) (h h' : DT) : Prop := smX (fun c => c = 44 ∨ c = 45 ∨ c = 46) h h' ∧ ∀ j, j ≠ i → gA h' 44 j = gA h 44 j ∧ gA h' 45 j = gA h 45 j ∧ gA h' 46 j = gA h 46 j
theorem sX.rf (i : Nat) (h : DT) : sX i h h := ⟨smX.rf _ h, fun _ _ => ⟨rfl, rfl, rfl⟩⟩
theorem sX.tr {i : Nat} {a b c : DT} (p : sX i a b) (q : sX i b c) : sX i a c := ⟨p.1.tr q.1, fun j hj => ⟨(q.2 j hj).1.trans (p.2 j hj).1, (q.2 j hj).2.1.trans (p.2 j hj).2.1, (q.2 j hj).2.2.trans (p.2 j hj).2.2⟩⟩
theorem sX_s (i : Nat) (h : DT) (a b c : Int32) : sX i h (sA (sA (sA h 44 i a) 45 i b) 46 i c) := by
  refine ⟨((smX_sA (by omega)).tr (smX_sA (by omega))).tr (smX_sA (by omega)), fun j hj => ⟨?_, ?_, ?_⟩⟩
  all_goals rw [gA_sA, if_neg (by omega), gA_sA, if_neg (by omega), gA_sA, if_neg (by omega)]
def XWd (h : DT) (v : Nat → Nat) (w : Nat) : Prop := ∀ j, j < w → gA h 11 j = nI (v j) ∧ v j ≤ 20
def XTb (h : DT) (w : Nat) (T : Nat → PT) (i : Nat) : Prop := ∀ e, i ≤ e → e ≤ w → ∀ c l e', T e = some (c, l, e') → gA h 44 e = nI c ∧ gA h 45 e = nI l ∧ (e < w → gA h 46 e = nI e')
section PX
variable (X : XS) (d : Nat) (tx tu gu : Option Nat) (tl : List SC)
theorem x_chl {v : Nat → Nat} {W w i : Nat} {T : Nat → PT} (hw : w ≤ 10) (hW : W ≤ 60) (hi : i < w) (hT : ∀ e, i < e → e ≤ w → ∃ c l e', T e = some (c, l, e') ∧ c ≤ 36000 ∧ l ≤ 10) : ∀ (c e s f : Nat) (b : PT) (h : DT), e + c = w → i ≤ e → s ≤ W + 1 → 3 * c + 1 ≤ f → gF h 43 3 = nI w → XWd h v w → XTb h w T (i + 1) → (b = none → e = i) → (∀ c0 l0 e0, b = some (c0, l0, e0) → i < e ∧ c0 ≤ 40000 ∧ l0 ≤ 20 ∧ gA h 44 i = nI c0 ∧ gA h 45 i = nI l0 ∧ gA h 46 i = nI e0) → ∃ h', m_X3_chooseLine X d f 10 [(0, vP (some 43)), (1, vP (some 9)), (3, vI (nI i)), (4, vI (nI (W + 1 - s))), (5, vI (nI (e + 1)))] [] (SK tx tu gu tl, h) = some (none, (SK tx tu gu tl, h')) ∧ sX i h h' ∧ ∀ c0 l0 e0, chI v W w T c e s b = some (c0, l0, e0) → gA h' 44 i = nI c0 ∧ gA h' 45 i = nI l0 ∧ gA h' 46 i = nI e0
  | 0, e, s, f, b, h, he, hie, hs, hf, h3, hv, hX, hb0, hb => by
    obtain ⟨f, rfl⟩ : ∃ g, f = g + 1 := ⟨f - 1, by omega⟩
    refine ⟨h, ?_, sX.rf i h, fun c0 l0 e0 hq => ⟨(hb _ _ _ hq).2.2.2.1, (hb _ _ _ hq).2.2.2.2.1, (hb _ _ _ hq).2.2.2.2.2⟩⟩
    rw [e_X3_chooseLine_10, h3, if_pos ((nI_ltI (by omega) (by omega)).mpr (by omega))]
  | c + 1, e, s, f, b, h, he, hie, hs, hf, h3, hv, hX, hb0, hb => by
    obtain ⟨f, rfl⟩ : ∃ g, f = g + 3 := ⟨f - 3, by omega⟩
    obtain ⟨wv, wl⟩ := hv e (by omega)
    have e1 : nI (e + 1) - 1 = nI e := subI (a := e + 1) (b := 1) (by omega)
    rw [e_X3_chooseLine_10, h3, if_neg (fun g => absurd ((nI_ltI (by omega) (by omega)).mp g) (by omega)), e1, inbI (by omega) (by omega), wv, nI_1]
    unfold chI
    by_cases g : s + v e ≤ W
    · obtain ⟨c1, l1, ee, hT1, hc1, hl1⟩ := hT (e + 1) (by omega) (by omega)
      obtain ⟨x1, x2, -⟩ := hX (e + 1) (by omega) (by omega) _ _ _ hT1
      have hq := sqR_le (v := v) (w := w) (s := s) (e := e) hW
      have eρ : W + 1 - s - (v e + 1) = W + 1 - (s + v e + 1) := by omega
      rw [if_pos g, subI (by omega), if_pos (nI_nn (by omega)), inbI (by omega) (by omega), x1, hT1, eρ]
      have sel : (if nI (e + 1) = nI w then m_X3_chooseLine X d (f + 2) 68 [(0, vP (some 43)), (1, vP (some 9)), (3, vI (nI i)), (4, vI (nI (W + 1 - (s + v e + 1)))), (5, vI (nI (e + 1)))] [vI 0, vI (nI c1)] (SK tx tu gu tl, h) else m_X3_chooseLine X d (f + 2) 68 [(0, vP (some 43)), (1, vP (some 9)), (3, vI (nI i)), (4, vI (nI (W + 1 - (s + v e + 1)))), (5, vI (nI (e + 1)))] [vI (nI (W + 1 - (s + v e + 1)) * nI (W + 1 - (s + v e + 1))), vI (nI c1)] (SK tx tu gu tl, h)) = m_X3_chooseLine X d (f + 2) 68 [(0, vP (some 43)), (1, vP (some 9)), (3, vI (nI i)), (4, vI (nI (W + 1 - (s + v e + 1)))), (5, vI (nI (e + 1)))] [vI (nI (sqR v W w s e)), vI (nI c1)] (SK tx tu gu tl, h) := by
        unfold sqR
        by_cases z : e + 1 = w
        · rw [if_pos (congrArg nI z), if_pos z]
          rfl
        · rw [if_neg (fun q => z ((nI_eq (by omega) (by omega)).mp q)), if_neg z, mulI, show W + 1 - (s + v e + 1) = W - (s + v e) by omega]
      have SET : ∀ F, 3 * c + 1 ≤ F → ∃ h', m_X3_chooseLine X d (F + 1) 123 [(0, vP (some 43)), (1, vP (some 9)), (3, vI (nI i)), (4, vI (nI (W + 1 - (s + v e + 1)))), (5, vI (nI (e + 1))), (6, vI (nI (c1 + sqR v W w s e))), (7, vI (nI (l1 + 1)))] [] (SK tx tu gu tl, h) = some (none, (SK tx tu gu tl, h')) ∧ sX i h h' ∧ ∀ c0 l0 e0, chI v W w T c (e + 1) (s + v e + 1) (some (c1 + sqR v W w s e, l1 + 1, e + 1)) = some (c0, l0, e0) → gA h' 44 i = nI c0 ∧ gA h' 45 i = nI l0 ∧ gA h' 46 i = nI e0 := by
        intro F hF
        have sx := sX_s i h (nI (c1 + sqR v W w s e)) (nI (l1 + 1)) (nI (e + 1))
        obtain ⟨h', k1, k2, k3⟩ := x_chl hw hW hi hT c (e + 1) (s + v e + 1) F (some (c1 + sqR v W w s e, l1 + 1, e + 1)) (sA (sA (sA h 44 i (nI (c1 + sqR v W w s e))) 45 i (nI (l1 + 1))) 46 i (nI (e + 1))) (by omega) (by omega) (by omega) hF h3 (fun j hj => by
          rw [smA sx.1 (by omega)]
          exact hv j hj) (fun j h1 h2 c l e' hq => by
          rw [(sx.2 j (by omega)).1, (sx.2 j (by omega)).2.1, (sx.2 j (by omega)).2.2]
          exact hX j h1 h2 c l e' hq) (fun z => by cases z) (fun c0 l0 e0 z => by
          cases z
          refine ⟨by omega, by omega, by omega, ?_, ?_, ?_⟩
          · rw [gA_sA, if_neg (by omega), gA_sA, if_neg (by omega), gA_sA, if_pos ⟨rfl, rfl⟩]
          · rw [gA_sA, if_neg (by omega), gA_sA, if_pos ⟨rfl, rfl⟩]
          · rw [gA_sA, if_pos ⟨rfl, rfl⟩])
        refine ⟨h', ?_, sx.tr k2, k3⟩
        rw [e_X3_chooseLine_123, inbI (by omega) (by omega), inbI (by omega) (by omega), inbI (by omega) (by omega), nI_1]
        exact k1
      rw [sel, e_X3_chooseLine_68, inbI (by omega) (by omega), x2, nI_1, nI_1, addI]
      cases b with
      | none =>
        have hei := hb0 rfl
        rw [if_pos (by rw [hei])]
        exact SET f (by omega)
      | some b =>
        obtain ⟨c0, l0, e0⟩ := b
        obtain ⟨q1, q2, q3, q4, q5, q6⟩ := hb c0 l0 e0 rfl
        have KEEP : ∀ F, 3 * c + 1 ≤ F → ∃ h', m_X3_chooseLine X d F 10 [(0, vP (some 43)), (1, vP (some 9)), (3, vI (nI i)), (4, vI (nI (W + 1 - (s + v e + 1)))), (5, vI (nI (e + 1 + 1)))] [] (SK tx tu gu tl, h) = some (none, (SK tx tu gu tl, h')) ∧ sX i h h' ∧ ∀ c0' l0' e0', chI v W w T c (e + 1) (s + v e + 1) (some (c0, l0, e0)) = some (c0', l0', e0') → gA h' 44 i = nI c0' ∧ gA h' 45 i = nI l0' ∧ gA h' 46 i = nI e0' := fun F hF =>
          x_chl hw hW hi hT c (e + 1) (s + v e + 1) F (some (c0, l0, e0)) h (by omega) (by omega) (by omega) hF h3 hv hX (fun z => by cases z) (fun c0' l0' e0' z => by
            cases z
            exact ⟨by omega, q2, q3, q4, q5, q6⟩)
        rw [if_neg (fun z => absurd ((nI_eq (by omega) (by omega)).mp z) (by omega)), inbI (by omega) (by omega), q4]
        unfold bet
        simp only
        by_cases g1 : c1 + sqR v W w s e < c0
        · rw [if_pos ((nI_ltI (by omega) (by omega)).mpr g1), if_pos (Or.inl g1)]
          exact SET f (by omega)
        · rw [if_neg (fun z => g1 ((nI_ltI (by omega) (by omega)).mp z)), inbI (by omega) (by omega), q4]
          by_cases g2 : c1 + sqR v W w s e = c0
          · rw [if_pos (congrArg nI g2), inbI (by omega) (by omega), q5]
            by_cases g3 : l0 ≤ l1 + 1
            · rw [if_pos ((nI_leI (by omega) (by omega)).mpr g3), if_neg (by omega), nI_1]
              exact KEEP (f + 1) (by omega)
            · rw [if_neg (fun z => g3 ((nI_leI (by omega) (by omega)).mp z)), if_pos (Or.inr ⟨g2, by omega⟩)]
              exact SET f (by omega)
          · rw [if_neg (fun z => g2 ((nI_eq (by omega) (by omega)).mp z)), if_neg (by omega), nI_1]
            exact KEEP (f + 1) (by omega)
    · rw [if_neg g, if_neg (nsub (by omega) (by omega))]
      refine ⟨h, rfl, sX.rf i h, fun c0 l0 e0 hq => ⟨(hb _ _ _ hq).2.2.2.1, (hb _ _ _ hq).2.2.2.2.1, (hb _ _ _ hq).2.2.2.2.2⟩⟩
end PX
