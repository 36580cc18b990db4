/-! NARROWEST -/
def gI (v : Nat → Nat) (W : Nat) : Nat → Nat → Nat → Nat → Nat
  | 0, _, L, _ => L
  | c + 1, x, L, r => if v x + 1 ≤ r then gI v W c (x + 1) L (r - (v x + 1)) else gI v W c (x + 1) (L + 1) (W - v x)
theorem gI_le (v : Nat → Nat) (W : Nat) : ∀ (c x L r : Nat), gI v W c x L r ≤ L + c
  | 0, x, L, r => Nat.le_refl _
  | c + 1, x, L, r => by
    unfold gI
    by_cases g : v x + 1 ≤ r
    · rw [if_pos g]; have := gI_le v W c (x + 1) L (r - (v x + 1)); omega
    · rw [if_neg g]; have := gI_le v W c (x + 1) (L + 1) (W - v x); omega
theorem gI_one (v : Nat → Nat) (W : Nat) : ∀ (c x L r : Nat), sv v x c + c ≤ r → gI v W c x L r = L
  | 0, x, L, r, _ => rfl
  | c + 1, x, L, r, h => by
    have : sv v x (c + 1) = v x + sv v (x + 1) c := rfl
    unfold gI
    rw [if_pos (by omega)]
    exact gI_one v W c (x + 1) L _ (by omega)
def fwN (v : Nat → Nat) (w W : Nat) : Nat := gI v W (w - 1) 1 1 (W - v 0)
def mxv (v : Nat → Nat) : Nat → Nat → Nat → Nat
  | 0, _, a => a
  | c + 1, x, a => mxv v c (x + 1) (if a < v x then v x else a)
theorem mxv_ok (v : Nat → Nat) : ∀ (c x a : Nat), a ≤ mxv v c x a ∧ (∀ j, x ≤ j → j < x + c → v j ≤ mxv v c x a) ∧ (mxv v c x a = a ∨ ∃ j, x ≤ j ∧ j < x + c ∧ v j = mxv v c x a)
  | 0, x, a => ⟨Nat.le_refl _, fun j h1 h2 => by omega, Or.inl rfl⟩
  | c + 1, x, a => by
    obtain ⟨h1, h2, h3⟩ := mxv_ok v c (x + 1) (if a < v x then v x else a)
    unfold mxv
    by_cases g : a < v x
    · rw [if_pos g] at h1 h2 h3 ⊢
      refine ⟨by omega, fun j q1 q2 => ?_, ?_⟩
      · by_cases z : j = x
        · subst z; exact h1
        · exact h2 j (by omega) (by omega)
      · rcases h3 with h3 | ⟨j, q1, q2, q3⟩
        · exact Or.inr ⟨x, by omega, by omega, h3.symm⟩
        · exact Or.inr ⟨j, by omega, by omega, q3⟩
    · rw [if_neg g] at h1 h2 h3 ⊢
      refine ⟨h1, fun j q1 q2 => ?_, ?_⟩
      · by_cases z : j = x
        · subst z; omega
        · exact h2 j (by omega) (by omega)
      · rcases h3 with h3 | ⟨j, q1, q2, q3⟩
        · exact Or.inl h3
        · exact Or.inr ⟨j, by omega, by omega, q3⟩
theorem sv_mem (v : Nat → Nat) : ∀ (c x j : Nat), x ≤ j → j < x + c → v j ≤ sv v x c
  | 0, x, j, h1, h2 => by omega
  | c + 1, x, j, h1, h2 => by
    show v j ≤ v x + sv v (x + 1) c
    by_cases z : j = x
    · subst z; omega
    · have := sv_mem v c (x + 1) j (by omega) (by omega)
      omega
theorem wide_cs (v : Nat → Nat) (W : Nat) : ∀ w, (∀ j, j < w → v j ≤ W) ∨ ∃ m, m < w ∧ W < v m ∧ ∀ j, j < m → v j ≤ W
  | 0 => Or.inl fun j hj => by omega
  | w + 1 => by
    rcases wide_cs v W w with h | ⟨m, h1, h2, h3⟩
    · by_cases g : v w ≤ W
      · refine Or.inl fun j hj => ?_
        by_cases z : j = w
        · subst z; exact g
        · exact h j (by omega)
      · exact Or.inr ⟨w, by omega, by omega, h⟩
    · exact Or.inr ⟨m, by omega, h2, h3⟩
theorem nle0 {w : Nat} (h : 1 ≤ w) (h' : w < 1000) : ¬ nI w ≤ (0 : Int32) := fun z => absurd ((nI_leI (a := w) (b := 0) (by omega) (by omega)).mp z) (by omega)
section NW
variable (X : XS) (d : Nat) (tx tu gu : Option Nat) (tl : List SC) (h : DT)
theorem x_few {v : Nat → Nat} {w W : Nat} (hw : w ≤ 10) (hw0 : 1 ≤ w) (hW : W ≤ 1000) (h9 : gF h 9 3 = nI w) (hv : XWd h v w) (hvW : ∀ j, j < w → v j ≤ W) : cal X (d + 1) 23 [vP (some 9), vI (nI W)] (SK tx tu gu tl, h) = some (some (vI (nI (fwN v w W))), (SK tx tu gu tl, h)) := by
  have lp : ∀ c x L r f, x + c = w → 1 ≤ L → L ≤ x → r ≤ W → c + 1 ≤ f → m_X3_fewestLines X d f 7 [(0, vP (some 9)), (1, vI (nI W)), (2, vI (nI L)), (3, vI (nI r)), (4, vI (nI x))] [] (SK tx tu gu tl, h) = some (some (vI (nI (gI v W c x L r))), (SK tx tu gu tl, h)) := by
    intro c
    induction c with
    | zero =>
      intro x L r f h1 h2 h3 h4 h5
      obtain ⟨f, rfl⟩ : ∃ g, f = g + 1 := ⟨f - 1, by omega⟩
      rw [e_X3_fewestLines_7, h9, if_pos (nI_le (by omega) (by omega))]
      rfl
    | succ c ih =>
      intro x L r f h1 h2 h3 h4 h5
      obtain ⟨f, rfl⟩ : ∃ g, f = g + 1 := ⟨f - 1, by omega⟩
      have hx := hvW x (by omega)
      obtain ⟨w1, w2⟩ := hv x (by omega)
      rw [e_X3_fewestLines_7, h9, if_neg (nI_ge (by omega) (by omega)), inbI (by omega) (by omega), if_neg (nI_ne0 (by omega) (by omega)), w1, nI_1]
      unfold gI
      by_cases g : v x + 1 ≤ r
      · rw [if_pos g, subI g, if_pos (nI_nn (by omega)), nI_1, ih (x + 1) L _ f (by omega) h2 (by omega) (by omega) (by omega)]
      · rw [if_neg g, if_neg (nsub (by omega) (by omega)), inbI (by omega) (by omega), w1, subI hx, nI_1, nI_1]
        exact ih (x + 1) (L + 1) _ f (by omega) (by omega) (by omega) (by omega) (by omega)
  have hx := hvW 0 (by omega)
  obtain ⟨w1, w2⟩ := hv 0 (by omega)
  rw [c_X3_fewestLines, e_X3_fewestLines_0, e_X3_fewestLines_7, h9, if_neg (nle0 (by omega) (by omega)), show (0 : Int32) = nI 0 from rfl, inbI (by omega) (by omega), if_pos rfl, inbI (by omega) (by omega), w1, subI hx, nI_1]
  exact lp (w - 1) 1 1 (W - v 0) _ (by omega) (by omega) (by omega) (by omega) (by omega)
theorem k_lby {v : Nat → Nat} {w W : Nat} (hw : w ≤ 10) (hW : W ≤ 1000) (hK : KWd h v w) (hvW : ∀ j, j < w → v j ≤ W) : ∀ (c x L a f : Nat), x + c = w → a < x → L ≤ x → 1 ≤ L → x - a - 1 + sv v a (x - a) ≤ W → 4 * c + 3 ≤ f → m_X11_linesBy X (d + 1) f 17 [(0, vP (some 72)), (1, vI (nI W)), (2, vI (nI (L - 1))), (3, vI (nI a)), (4, vI (nI x))] [] (SK tx tu gu tl, h) = some (some (vI (nI (gI v W c x L (W - (x - a - 1 + sv v a (x - a)))))), (SK tx tu gu tl, h))
  | 0, x, L, a, f, hx, ha, hL, hL1, hs, hf => by
    obtain ⟨f, rfl⟩ : ∃ g, f = g + 2 := ⟨f - 2, by omega⟩
    rw [e_X11_linesBy_17, hK.1, if_pos (nI_le (by omega) (by omega)), if_neg (fun z => absurd ((nI_eq (by omega) (by omega)).mp z) (by omega)), nI_1, e_X11_linesBy_4, hK.1, if_pos (nI_le (by omega) (by omega)), show L - 1 + 1 = L by omega]
    rfl
  | c + 1, x, L, a, f, hx, ha, hL, hL1, hs, hf => by
    obtain ⟨f, rfl⟩ : ∃ g, f = g + 3 := ⟨f - 3, by omega⟩
    have hvx := hvW x (by omega)
    have kw := k_width X d tx tu gu tl (i := a) (e := x + 1) h hw hK (by omega) (by omega)
    have ew : x + 1 - a - 1 + sv v a (x + 1 - a) = (x - a - 1 + sv v a (x - a)) + (v x + 1) := by
      rw [show x + 1 - a = (x - a) + 1 by omega, sv_sn, show a + (x - a) = x by omega]
      omega
    have ks := k_width X d tx tu gu tl (i := x) (e := x + 1) h hw hK (by omega) (by omega)
    have es : x + 1 - x - 1 + sv v x (x + 1 - x) = v x := by
      rw [show x + 1 - x = 1 by omega]
      show 1 - 1 + (v x + 0) = v x
      omega
    have sB := sv_le (v := v) (w := w) (fun j hj => (hK.2 j hj).2) (x - a) a (by omega)
    rw [e_X11_linesBy_17, hK.1, if_neg (nI_ge (by omega) (by omega)), nI_1, kw, bI_s]
    unfold gI
    by_cases g : v x + 1 ≤ W - (x - a - 1 + sv v a (x - a))
    · rw [if_pos g, if_neg (fun z => absurd ((nI_ltI (by omega) (by omega)).mp z) (by omega)), k_lby hw hW hK hvW c (x + 1) L a (f + 2) (by omega) (by omega) (by omega) hL1 (by omega) (by omega), ew]
      rw [show W - (x - a - 1 + sv v a (x - a) + (v x + 1)) = W - (x - a - 1 + sv v a (x - a)) - (v x + 1) by omega]
    · rw [if_neg g, if_pos ((nI_ltI (by omega) (by omega)).mpr (by omega)), if_neg (fun z => absurd ((nI_eq (by omega) (by omega)).mp z) (by omega)), nI_1, e_X11_linesBy_4, hK.1, if_neg (nI_ge (by omega) (by omega)), e_X11_linesBy_17, hK.1, if_neg (nI_ge (by omega) (by omega)), nI_1, ks, bI_s, es, if_neg (fun z => absurd ((nI_ltI (by omega) (by omega)).mp z) (by omega)), show L - 1 + 1 = L + 1 - 1 by omega, k_lby hw hW hK hvW c (x + 1) (L + 1) x f (by omega) (by omega) (by omega) (by omega) (by omega) (by omega), es]
theorem k_lbn {v : Nat → Nat} {w W m : Nat} (hw : w ≤ 10) (hW : W ≤ 1000) (hK : KWd h v w) (hm : m < w) (hmW : W < v m) (hvW : ∀ j, j < m → v j ≤ W) : ∀ (c x a f : Nat) (L : Int32), x + c = m → a ≤ x → 4 * c + 8 ≤ f → m_X11_linesBy X (d + 1) f 17 [(0, vP (some 72)), (1, vI (nI W)), (2, vI L), (3, vI (nI a)), (4, vI (nI x))] [] (SK tx tu gu tl, h) = some (some (vI (1000000)), (SK tx tu gu tl, h))
  | 0, x, a, f, L, hx, ha, hf => by
    obtain ⟨f, rfl⟩ : ∃ g, f = g + 3 := ⟨f - 3, by omega⟩
    obtain rfl : x = m := by omega
    have kw := k_width X d tx tu gu tl (i := a) (e := x + 1) h hw hK (by omega) (by omega)
    have ks := k_width X d tx tu gu tl (i := x) (e := x + 1) h hw hK (by omega) (by omega)
    have b1 := sv_mem v (x + 1 - a) a x (by omega) (by omega)
    have b2 := sv_mem v (x + 1 - x) x x (by omega) (by omega)
    have s1 := sv_le (v := v) (w := w) (fun j hj => (hK.2 j hj).2) (x + 1 - a) a (by omega)
    have s2 := sv_le (v := v) (w := w) (fun j hj => (hK.2 j hj).2) (x + 1 - x) x (by omega)
    rw [e_X11_linesBy_17, hK.1, if_neg (nI_ge (by omega) (by omega)), nI_1, kw, bI_s, if_pos ((nI_ltI (by omega) (by omega)).mpr (by omega))]
    by_cases z : x = a
    · rw [if_pos (congrArg nI z)]
    · rw [if_neg (fun q => z ((nI_eq (by omega) (by omega)).mp q)), e_X11_linesBy_4, hK.1, if_neg (nI_ge (by omega) (by omega)), e_X11_linesBy_17, hK.1, if_neg (nI_ge (by omega) (by omega)), nI_1, ks, bI_s, if_pos ((nI_ltI (by omega) (by omega)).mpr (by omega)), if_pos rfl]
  | c + 1, x, a, f, L, hx, ha, hf => by
    obtain ⟨f, rfl⟩ : ∃ g, f = g + 3 := ⟨f - 3, by omega⟩
    have hvx := hvW x (by omega)
    have kw := k_width X d tx tu gu tl (i := a) (e := x + 1) h hw hK (by omega) (by omega)
    have ks := k_width X d tx tu gu tl (i := x) (e := x + 1) h hw hK (by omega) (by omega)
    have es : x + 1 - x - 1 + sv v x (x + 1 - x) = v x := by
      rw [show x + 1 - x = 1 by omega]
      show 1 - 1 + (v x + 0) = v x
      omega
    have s1 := sv_le (v := v) (w := w) (fun j hj => (hK.2 j hj).2) (x + 1 - a) a (by omega)
    rw [e_X11_linesBy_17, hK.1, if_neg (nI_ge (by omega) (by omega)), nI_1, kw, bI_s]
    by_cases g : W < x + 1 - a - 1 + sv v a (x + 1 - a)
    · by_cases z : x = a
      · subst z
        omega
      · rw [if_pos ((nI_ltI (by omega) (by omega)).mpr g), if_neg (fun q => z ((nI_eq (by omega) (by omega)).mp q)), e_X11_linesBy_4, hK.1, if_neg (nI_ge (by omega) (by omega)), e_X11_linesBy_17, hK.1, if_neg (nI_ge (by omega) (by omega)), nI_1, ks, bI_s, es, if_neg (fun z => absurd ((nI_ltI (by omega) (by omega)).mp z) (by omega))]
        exact k_lbn hw hW hK hm hmW hvW c (x + 1) x f _ (by omega) (by omega) (by omega)
    · rw [if_neg (fun z => g ((nI_ltI (by omega) (by omega)).mp z))]
      exact k_lbn hw hW hK hm hmW hvW c (x + 1) a (f + 2) L (by omega) (by omega) (by omega)
theorem k_lin {v : Nat → Nat} {w W : Nat} (hw : w ≤ 10) (hw0 : 1 ≤ w) (hW : W ≤ 1000) (hK : KWd h v w) (hvW : ∀ j, j < w → v j ≤ W) : cal X (d + 2) 276 [vP (some 72), vI (nI W)] (SK tx tu gu tl, h) = some (some (vI (nI (fwN v w W))), (SK tx tu gu tl, h)) := by
  have hv0 := hvW 0 (by omega)
  have kw := k_width X d tx tu gu tl (i := 0) (e := 0 + 1) h hw hK (by omega) (by omega)
  have es : 0 + 1 - 0 - 1 + sv v 0 (0 + 1 - 0) = v 0 := by
    show 0 + (v 0 + 0) = v 0
    omega
  rw [es] at kw
  rw [c_X11_linesBy, e_X11_linesBy_0, e_X11_linesBy_4, hK.1, if_neg (nle0 (by omega) (by omega)), e_X11_linesBy_17, hK.1, if_neg (nle0 (by omega) (by omega)), show (0 : Int32) = nI 0 from rfl, nI_1, kw, bI_s, if_neg (fun z => absurd ((nI_ltI (by omega) (by omega)).mp z) (by omega))]
  refine (k_lby X d tx tu gu tl h hw hW hK hvW (w - 1) 1 1 0 _ (by omega) (by omega) (by omega) (by omega) (show 1 - 0 - 1 + sv v 0 (1 - 0) ≤ W from ?_) (by omega)).trans ?_
  · show 0 + (v 0 + 0) ≤ W
    omega
  · unfold fwN
    rw [show 1 - 0 - 1 + sv v 0 (1 - 0) = v 0 from es]
theorem k_linw {v : Nat → Nat} {w W m : Nat} (hw : w ≤ 10) (hW : W ≤ 1000) (hK : KWd h v w) (hm : m < w) (hmW : W < v m) (hvW : ∀ j, j < m → v j ≤ W) : cal X (d + 2) 276 [vP (some 72), vI (nI W)] (SK tx tu gu tl, h) = some (some (vI (1000000)), (SK tx tu gu tl, h)) := by
  rw [c_X11_linesBy, e_X11_linesBy_0, e_X11_linesBy_4, hK.1, if_neg (nle0 (by omega) (by omega))]
  exact k_lbn X d tx tu gu tl h hw hW hK hm hmW hvW m 0 0 _ _ (by omega) (by omega) (by omega)
theorem x_lw {v : Nat → Nat} {w : Nat} (hw : w ≤ 10) (h9 : gF h 9 3 = nI w) (hv : XWd h v w) (y : Int32) : ∀ (c x a s f : Nat), x + c = w → a ≤ 20 → s ≤ 21 * x → m_X3_leastWidth X (d + 1) (f + c + 1) 8 [(1, vP (some 9)), (2, vI y), (3, vI (nI a)), (4, vI (nI s - 1)), (5, vI (nI x))] [] (SK tx tu gu tl, h) = m_X3_leastWidth X (d + 1) f 52 [(1, vP (some 9)), (2, vI y), (4, vI (nI (s + (sv v x c + c)) - 1)), (5, vI (nI (mxv v c x a)))] [] (SK tx tu gu tl, h)
  | 0, x, a, s, f, hx, ha, hs => by
    rw [e_X3_leastWidth_8, h9, if_pos (nI_le (by omega) (by omega))]
    rfl
  | c + 1, x, a, s, f, hx, ha, hs => by
    obtain ⟨w1, w2⟩ := hv x (by omega)
    have e1 : nI s - 1 + nI (v x + 1) = nI (s + v x + 1) - 1 := by
      rw [zI_nI, zI_nI, zI_nI, show (1 : Int32) = zI 1 from rfl, zI_sub, zI_add, zI_sub]
      congr 1
      omega
    have e2 : (if nI a < nI (v x) then nI (v x) else nI a) = nI (if a < v x then v x else a) := by
      by_cases g : a < v x
      · rw [if_pos ((nI_ltI (by omega) (by omega)).mpr g), if_pos g]
      · rw [if_neg (fun z => g ((nI_ltI (by omega) (by omega)).mp z)), if_neg g]
    rw [show f + (c + 1) + 1 = f + c + 1 + 1 by omega, e_X3_leastWidth_8, h9, if_neg (nI_ge (by omega) (by omega)), inbI (by omega) (by omega), inbI (by omega) (by omega), w1, nI_1, e1, e2, nI_1, x_lw hw h9 hv y c (x + 1) _ _ f (by omega) (by split <;> omega) (by omega)]
    rw [show s + v x + 1 + (sv v (x + 1) c + c) = s + (sv v x (c + 1) + (c + 1)) by show _ = s + (v x + sv v (x + 1) c + (c + 1)); omega]
    rfl
theorem nw_lp {v : Nat → Nat} {w y : Nat} (hw : w ≤ 10) (hw0 : 1 ≤ w) (h9 : gF h 9 3 = nI w) (hv : XWd h v w) (hK : KWd h v w) (hy : 1 ≤ y ∧ y ≤ 10) (tot : Nat) (ht : tot = sv v 0 w + w - 1) (ht2 : tot ≤ 300) : ∀ (c W f f' : Nat), W + c = tot → (∀ j, j < w → v j ≤ W) → c + 1 ≤ f → c + 1 ≤ f' → ∃ R, m_X3_leastWidth X (d + 1) f 52 [(1, vP (some 9)), (2, vI (nI y)), (4, vI (nI tot)), (5, vI (nI W))] [] (SK tx tu gu tl, h) = some (some (vI (nI R)), (SK tx tu gu tl, h)) ∧ m_X11_narrowest X (d + 2) f' 23 [(0, vP (some 72)), (1, vI (nI y)), (2, vI (nI W))] [] (SK tx tu gu tl, h) = some (some (vI (nI R)), (SK tx tu gu tl, h))
  | 0, W, f, f', hW, hvW, hf, hf' => by
    obtain ⟨f, rfl⟩ : ∃ g, f = g + 1 := ⟨f - 1, by omega⟩
    obtain ⟨f', rfl⟩ : ∃ g, f' = g + 1 := ⟨f' - 1, by omega⟩
    obtain rfl : W = tot := by omega
    have hl := k_lin X d tx tu gu tl h hw hw0 (by omega) hK hvW
    have h1 : fwN v w W = 1 := by
      refine gI_one v W (w - 1) 1 1 _ ?_
      have : sv v 0 w = v 0 + sv v 1 (w - 1) := by
        obtain ⟨u, rfl⟩ : ∃ u, w = u + 1 := ⟨w - 1, by omega⟩
        rfl
      omega
    rw [h1] at hl
    refine ⟨W, ?_, ?_⟩
    · rw [e_X3_leastWidth_52, if_pos (nI_le (by omega) (by omega))]
    · rw [e_X11_narrowest_23, hl, bI_s, if_pos (nI_le (by omega) (by omega))]
  | c + 1, W, f, f', hW, hvW, hf, hf' => by
    obtain ⟨f, rfl⟩ : ∃ g, f = g + 1 := ⟨f - 1, by omega⟩
    obtain ⟨f', rfl⟩ : ∃ g, f' = g + 1 := ⟨f' - 1, by omega⟩
    have hl := k_lin X d tx tu gu tl h hw hw0 (by omega) hK hvW
    have hx := x_few X d tx tu gu tl h hw hw0 (W := W) (by omega) h9 hv hvW
    have hb := gI_le v W (w - 1) 1 1 (W - v 0)
    rw [e_X3_leastWidth_52, if_neg (nI_ge (by omega) (by omega)), hx, bI_s, e_X11_narrowest_23, hl, bI_s]
    have hb' : fwN v w W ≤ 11 := by unfold fwN; omega
    by_cases g : fwN v w W ≤ y
    · refine ⟨W, ?_, ?_⟩
      · rw [if_neg (fun z => absurd ((nI_ltI (by omega) (by omega)).mp z) (by omega))]
      · rw [if_pos (nI_le (by omega) (by omega))]
    · rw [if_pos ((nI_ltI (by omega) (by omega)).mpr (by omega)), if_neg (nI_ge (by omega) (by omega)), nI_1]
      exact nw_lp hw hw0 h9 hv hK hy tot ht ht2 c (W + 1) f f' (by omega) (fun j hj => Nat.le_succ_of_le (hvW j hj)) (by omega) (by omega)
theorem nw_sk {v : Nat → Nat} {w y M : Nat} (hw : w ≤ 10) (hK : KWd h v w) (hy : y ≤ 10) (hM : M ≤ 20) (hj : ∃ j, j < w ∧ v j = M) : ∀ (c W f : Nat), W + c = M → m_X11_narrowest X (d + 2) (f + c) 23 [(0, vP (some 72)), (1, vI (nI y)), (2, vI (nI W))] [] (SK tx tu gu tl, h) = m_X11_narrowest X (d + 2) f 23 [(0, vP (some 72)), (1, vI (nI y)), (2, vI (nI M))] [] (SK tx tu gu tl, h)
  | 0, W, f, hW => by
    obtain rfl : W = M := by omega
    rfl
  | c + 1, W, f, hW => by
    have hl : cal X (d + 2) 276 [vP (some 72), vI (nI W)] (SK tx tu gu tl, h) = some (some (vI (1000000)), (SK tx tu gu tl, h)) := by
      rcases wide_cs v W w with q | ⟨m, q1, q2, q3⟩
      · obtain ⟨j, j1, j2⟩ := hj
        have := q j j1
        omega
      · exact k_linw X d tx tu gu tl h hw (by omega) hK q1 q2 q3
    rw [show f + (c + 1) = f + c + 1 by omega, e_X11_narrowest_23, hl, bI_s, if_neg (show ¬ (1000000 : Int32) ≤ nI y from fun z => absurd ((nI_leI (a := 1000000) (b := y) (by omega) (by omega)).mp z) (by omega)), nI_1]
    exact nw_sk hw hK hy hM hj c (W + 1) f (by omega)
theorem op_narrowest {n t k : Nat} (H : RA h (gA h 73) n t k) (x : Int32) : OpA X tx tu gu tl h n t k 127 [vP (some 0), vI x] 277 [vP (some 72), vI x] := by
  obtain ⟨v, w, hw, h9, xW, kW, hv1⟩ := H.wd
  rcases rg_cs x 1 10 (by omega) with ⟨y, y1, y2, rfl, hd⟩ | hd
  · replace hd : (decide (1 ≤ nI y) && decide (nI y ≤ 10)) = true := hd
    by_cases hw0 : w = 0
    · subst hw0
      refine OpA_id (v := vI (-1)) H ?_ ?_
      · rw [c_X10_narrowest, e_X10_narrowest_0, x_within, hd, bz_t, bI_s, e_X10_narrowest_7, if_neg one0, h9, if_pos (show nI 0 = 0 from rfl)]
      · rw [c_X11_narrowest, e_X11_narrowest_0, k_isIn, hd, bz_t, bI_s, e_X11_narrowest_7, if_neg one0, kW.1, if_pos (show nI 0 = 0 from rfl)]
    · obtain ⟨m1, m2, m3⟩ := mxv_ok v w 0 0
      have hj : ∃ j, j < w ∧ v j = mxv v w 0 0 := by
        rcases m3 with m3 | ⟨j, q1, q2, q3⟩
        · have := m2 0 (by omega) (by omega)
          have := hv1 0 (by omega)
          omega
        · exact ⟨j, by omega, q3⟩
      have hM : mxv v w 0 0 ≤ 20 ∧ 1 ≤ mxv v w 0 0 := by
        obtain ⟨j, j1, j2⟩ := hj
        rw [← j2]
        exact ⟨(kW.2 j j1).2, hv1 j j1⟩
      have hT : mxv v w 0 0 ≤ sv v 0 w + w - 1 := by
        obtain ⟨j, j1, j2⟩ := hj
        have := sv_mem v w 0 j (by omega) (by omega)
        omega
      have hS := sv_le (v := v) (w := w) (fun j hj => (kW.2 j hj).2) w 0 (by omega)
      obtain ⟨R, r1, r2⟩ := nw_lp X 97 tx tu gu tl h (v := v) (w := w) (y := y) hw (by omega) h9 xW kW ⟨y1, y2⟩ (sv v 0 w + w - 1) rfl (by omega) (sv v 0 w + w - 1 - mxv v w 0 0) (mxv v w 0 0) (999999 - w - 1) (999998 - (mxv v w 0 0 - 1)) (by omega) (fun j hj => m2 j (by omega) (by omega)) (by omega) (by omega)
      refine OpA_id (v := vI (nI R)) H ?_ ?_
      · rw [c_X10_narrowest, e_X10_narrowest_0, x_within, hd, bz_t, bI_s, e_X10_narrowest_7, if_neg one0, h9, if_neg (nI_ne0 (by omega) (by omega)), c_X3_leastWidth, e_X3_leastWidth_0]
        have := x_lw X 97 tx tu gu tl h hw h9 xW (nI y) w 0 0 0 (999999 - w - 1) (by omega) (by omega) (by omega)
        rw [show 999999 - w - 1 + w + 1 = 999999 by omega, show nI (0 + (sv v 0 w + w)) - 1 = nI (sv v 0 w + w - 1) by rw [Nat.zero_add]; exact subI (a := sv v 0 w + w) (b := 1) (by omega), r1] at this
        rw [show m_X3_leastWidth X 98 999999 8 [(1, vP (some 9)), (2, vI (nI y)), (3, vI 0), (4, vI (-1)), (5, vI 0)] [] (SK tx tu gu tl, h) = some (some (vI (nI R)), (SK tx tu gu tl, h)) from this, bI_s]
      · rw [c_X11_narrowest, e_X11_narrowest_0, k_isIn, hd, bz_t, bI_s, e_X11_narrowest_7, if_neg one0, kW.1, if_neg (nI_ne0 (by omega) (by omega))]
        have := nw_sk X 97 tx tu gu tl h (v := v) (w := w) (y := y) hw kW y2 hM.1 hj (mxv v w 0 0 - 1) 1 (999998 - (mxv v w 0 0 - 1)) (by omega)
        rw [show 999998 - (mxv v w 0 0 - 1) + (mxv v w 0 0 - 1) = 999998 by omega, r2] at this
        exact this
  · replace hd : (decide (1 ≤ x) && decide (x ≤ 10)) = false := hd
    refine OpA_id (v := vI (-1)) H ?_ ?_
    · rw [c_X10_narrowest, e_X10_narrowest_0, x_within, hd, bz_f, bI_s, e_X10_narrowest_7, if_pos rfl]
    · rw [c_X11_narrowest, e_X11_narrowest_0, k_isIn, hd, bz_f, bI_s, e_X11_narrowest_7, if_pos rfl]
end NW
