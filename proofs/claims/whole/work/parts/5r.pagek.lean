/-! PAGE: the class's breaking, the reference's laying -/
def sv (v : Nat → Nat) : Nat → Nat → Nat
  | _, 0 => 0
  | x, c + 1 => v x + sv v (x + 1) c
theorem sv_sn (v : Nat → Nat) : ∀ (c x : Nat), sv v x (c + 1) = sv v x c + v (x + c)
  | 0, x => by show v x + 0 = 0 + v x; omega
  | c + 1, x => by
    show v x + sv v (x + 1) (c + 1) = (v x + sv v (x + 1) c) + v (x + (c + 1))
    rw [sv_sn v c (x + 1), show x + 1 + c = x + (c + 1) by omega]
    omega
def KWd (h : DT) (v : Nat → Nat) (w : Nat) : Prop := gA h 73 4 = nI w ∧ ∀ j, j < w → gA h 73 (38 + j) = nI (v j) ∧ v j ≤ 20
theorem sv_le {v : Nat → Nat} {w : Nat} (hv : ∀ j, j < w → v j ≤ 20) : ∀ (c x : Nat), x + c ≤ w → sv v x c ≤ 20 * c
  | 0, x, _ => Nat.le_refl _
  | c + 1, x, hx => by
    have h1 := sv_le hv c (x + 1) (by omega)
    have h2 := hv x (by omega)
    show v x + sv v (x + 1) c ≤ _
    omega
def KCl (h : DT) (w e : Nat) (t : PT) : Prop := match t with
  | none => gA h 88 e = nI 1000000
  | some (c, l, e') => gA h 88 e = nI c ∧ gA h 89 e = nI l ∧ (e < w → gA h 90 e = nI (e' - e))
def KTb (h : DT) (w : Nat) (T : Nat → PT) (i : Nat) : Prop := ∀ e, i ≤ e → e ≤ w → KCl h w e (T e)
def sK (i : Nat) (h h' : DT) : Prop := smX (fun c => c = 88 ∨ c = 89 ∨ c = 90) h h' ∧ ∀ j, j ≠ i → gA h' 88 j = gA h 88 j ∧ gA h' 89 j = gA h 89 j ∧ gA h' 90 j = gA h 90 j
theorem sK.rf (i : Nat) (h : DT) : sK i h h := ⟨smX.rf _ h, fun _ _ => ⟨rfl, rfl, rfl⟩⟩
theorem sK.tr {i : Nat} {a b c : DT} (p : sK i a b) (q : sK i b c) : sK i a c := ⟨p.1.tr q.1, fun j hj => ⟨(q.2 j hj).1.trans (p.2 j hj).1, (q.2 j hj).2.1.trans (p.2 j hj).2.1, (q.2 j hj).2.2.trans (p.2 j hj).2.2⟩⟩
theorem sK_s (i : Nat) (h : DT) (a b c : Int32) : sK i h (sA (sA (sA h 88 i a) 89 i b) 90 i c) := by
  refine ⟨((smX_sA (by omega)).tr (smX_sA (by omega))).tr (smX_sA (by omega)), fun j hj => ⟨?_, ?_, ?_⟩⟩
  all_goals rw [gA_sA, if_neg (by omega), gA_sA, if_neg (by omega), gA_sA, if_neg (by omega)]
theorem sK_g (i : Nat) (h : DT) (a b c : Int32) : gA (sA (sA (sA h 88 i a) 89 i b) 90 i c) 88 i = a ∧ gA (sA (sA (sA h 88 i a) 89 i b) 90 i c) 89 i = b ∧ gA (sA (sA (sA h 88 i a) 89 i b) 90 i c) 90 i = c := by
  refine ⟨?_, ?_, ?_⟩
  · rw [gA_sA, if_neg (by omega), gA_sA, if_neg (by omega), gA_sA, if_pos ⟨rfl, rfl⟩]
  · rw [gA_sA, if_neg (by omega), gA_sA, if_pos ⟨rfl, rfl⟩]
  · rw [gA_sA, if_pos ⟨rfl, rfl⟩]
theorem KCl.cg {h h' : DT} {w e : Nat} {t : PT} (H : KCl h w e t) (q : gA h' 88 e = gA h 88 e ∧ gA h' 89 e = gA h 89 e ∧ gA h' 90 e = gA h 90 e) : KCl h' w e t := by
  unfold KCl
  rw [q.1, q.2.1, q.2.2]
  exact H
section PK
variable (X : XS) (d : Nat) (tx tu gu : Option Nat) (tl : List SC)
theorem x_brl {v : Nat → Nat} {W w : Nat} {T : Nat → PT} (hw : w ≤ 10) (hW : W ≤ 60) (H : TOk v W w T) (hvW : ∀ j, j < w → v j ≤ W) : ∀ (m f : Nat) (h : DT), m ≤ w → m + 1 ≤ f → gF h 43 3 = nI w → XWd h v w → XTb h w T m → ∃ h', m_X3_breakLines X (d + 1) f 63 [(0, vP (some 43)), (1, vP (some 9)), (2, vI (nI W)), (3, vI (nI m - 1))] [] (SK tx tu gu tl, h) = some (some (vI (1)), (SK tx tu gu tl, h')) ∧ smX (fun c => c = 44 ∨ c = 45 ∨ c = 46) h h' ∧ XTb h' w T 0
  | 0, f, h, hm, hf, h3, hv, hX => by
    obtain ⟨f, rfl⟩ : ∃ g, f = g + 1 := ⟨f - 1, by omega⟩
    refine ⟨h, ?_, smX.rf _ h, hX⟩
    rw [e_X3_breakLines_63, if_pos (show nI 0 - 1 < 0 by decide)]
  | m + 1, f, h, hm, hf, h3, hv, hX => by
    obtain ⟨f, rfl⟩ : ∃ g, f = g + 1 := ⟨f - 1, by omega⟩
    have e1 : nI (m + 1) - 1 = nI m := subI (a := m + 1) (b := 1) (by omega)
    have e2 : nI m + (-1) = nI m - 1 := (Int32.sub_eq_add_neg _ _).symm
    obtain ⟨h1, k1, k2, k3⟩ := x_chl X d tx tu gu tl (v := v) (W := W) (w := w) (i := m) (T := T) hw hW (by omega) (fun e g1 g2 => by
      obtain ⟨q, hq⟩ := H.s hvW (w - e) e (by omega)
      have := H.b hW (w - e) e (by omega) q hq
      exact ⟨q.1, q.2.1, q.2.2, hq, by omega, by omega⟩) (w - m) m 0 999999 none h (by omega) (by omega) (by omega) (by omega) h3 hv hX (fun _ => rfl) (fun _ _ _ z => by cases z)
    have hX1 : XTb h1 w T m := by
      intro e g1 g2 c l e' hq
      by_cases z : e = m
      · subst z
        rw [H.2 e (by omega)] at hq
        have := k3 _ _ _ hq
        exact ⟨this.1, this.2.1, fun _ => this.2.2⟩
      · rw [(k2.2 e z).1, (k2.2 e z).2.1, (k2.2 e z).2.2]
        exact hX e (by omega) g2 c l e' hq
    obtain ⟨h2, j1, j2, j3⟩ := x_brl hw hW H hvW m f h1 (by omega) (by omega) (by rw [smF k2.1 (by omega)]; exact h3) (fun j hj => by rw [smA k2.1 (by omega)]; exact hv j hj) hX1
    refine ⟨h2, ?_, k2.1.tr j2, j3⟩
    rw [e_X3_breakLines_63, e1, if_neg (show ¬ nI m < 0 from fun g => absurd ((nI_ltI (a := m) (b := 0) (by omega) (by omega)).mp g) (by omega)), c_X3_chooseLine, e_X3_chooseLine_0, nI_1, nI_1, e2]
    rw [show nI (W + 1) = nI (W + 1 - 0) from rfl, k1, bV_s]
    exact j1
theorem x_break {v : Nat → Nat} {W w : Nat} {T : Nat → PT} (hw : w ≤ 10) (hW : W ≤ 60) (H : TOk v W w T) (h : DT) (h9 : gF h 9 3 = nI w) (hv : XWd h v w) : ∃ h1, cal X (d + 2) 19 [vP (some 43), vP (some 9), vI (nI W)] (SK tx tu gu tl, h) = some (some (vI (bzB (T 0).isSome)), (SK tx tu gu tl, h1)) ∧ XZ h h1 ∧ ((T 0).isSome = true → XTb h1 w T 0) := by
  have lp : ∀ c j f (h : DT), j + c = w → c + 30 ≤ f → (∀ i, i < j → v i ≤ W) → gF h 43 3 = nI w → XWd h v w → ∃ h1, m_X3_breakLines X (d + 1) f 10 [(0, vP (some 43)), (1, vP (some 9)), (2, vI (nI W)), (3, vI (nI j))] [] (SK tx tu gu tl, h) = some (some (vI (bzB (T 0).isSome)), (SK tx tu gu tl, h1)) ∧ XZ h h1 ∧ ((T 0).isSome = true → XTb h1 w T 0) := by
    intro c
    induction c with
    | zero =>
      intro j f h hj hf hvW h3 hv
      obtain ⟨f, rfl⟩ : ∃ g, f = g + 1 := ⟨f - 1, by omega⟩
      have sx : smX (fun c => c = 44 ∨ c = 45 ∨ c = 46) h (sA (sA h 44 w 0) 45 w 0) := (smX_sA (by omega)).tr (smX_sA (by omega))
      obtain ⟨h1, k1, k2, k3⟩ := x_brl X d tx tu gu tl hw hW H (fun i hi => hvW i (by omega)) w f (sA (sA h 44 w 0) 45 w 0) (by omega) (by omega) h3 (fun j hj => by rw [smA sx (by omega)]; exact hv j hj) (fun e g1 g2 c l e' hq => by
        obtain rfl : e = w := by omega
        rw [H.1] at hq
        cases hq
        refine ⟨?_, ?_, fun z => by omega⟩
        · rw [gA_sA, if_neg (by omega), gA_sA, if_pos ⟨rfl, rfl⟩]
          rfl
        · rw [gA_sA, if_pos ⟨rfl, rfl⟩]
          rfl)
      obtain ⟨q, hq⟩ := H.s (fun i hi => hvW i (by omega)) w 0 (by omega)
      refine ⟨h1, ?_, (sx.tr k2).mo (fun c hc => by omega), fun _ => k3⟩
      rw [e_X3_breakLines_10, h3, if_pos (nI_le (by omega) (by omega)), inbI (by omega) (by omega), inbI (by omega) (by omega), hq]
      exact k1
    | succ c ih =>
      intro j f h hj hf hvW h3 hv
      obtain ⟨f, rfl⟩ : ∃ g, f = g + 1 := ⟨f - 1, by omega⟩
      obtain ⟨w1, w2⟩ := hv j (by omega)
      by_cases g : v j ≤ W
      · obtain ⟨h1, k1, k2, k3⟩ := ih (j + 1) f h (by omega) (by omega) (fun i hi => by
          by_cases z : i = j
          · subst z; exact g
          · exact hvW i (by omega)) h3 hv
        refine ⟨h1, ?_, k2, k3⟩
        rw [e_X3_breakLines_10, h3, if_neg (nI_ge (by omega) (by omega)), inbI (by omega) (by omega), w1, if_pos ((nI_leI (by omega) (by omega)).mpr g), nI_1]
        exact k1
      · have hn := H.n (m := j) (by omega) (by omega) j 0 (by omega)
        refine ⟨h, ?_, smX.rf _ h, fun z => by rw [hn] at z; cases z⟩
        rw [e_X3_breakLines_10, h3, if_neg (nI_ge (by omega) (by omega)), inbI (by omega) (by omega), w1, if_neg (fun z => g ((nI_leI (by omega) (by omega)).mp z)), hn]
        rfl
  have s0 : smX (fun c => 43 ≤ c ∧ c ≤ 51) h (sF h 43 3 (gF h 9 3)) := smX_sF (by omega)
  obtain ⟨h1, k1, k2, k3⟩ := lp w 0 999999 (sF h 43 3 (gF h 9 3)) (by omega) (by omega) (fun i hi => by omega) (by rw [gF_sF, if_pos ⟨rfl, rfl⟩]; exact h9) (fun j hj => by rw [smA s0 (by omega)]; exact hv j hj)
  refine ⟨h1, ?_, s0.tr k2, k3⟩
  rw [c_X3_breakLines, e_X3_breakLines_0]
  exact k1
theorem k_width {v : Nat → Nat} {w i e : Nat} (h : DT) (hw : w ≤ 10) (hK : KWd h v w) (hi : i < e) (he : e ≤ w) : cal X (d + 1) 272 [vP (some 72), vI (nI i), vI (nI e)] (SK tx tu gu tl, h) = some (some (vI (nI (e - i - 1 + sv v i (e - i)))), (SK tx tu gu tl, h)) := by
  have lp : ∀ c x a f, x + c = e → c + 1 ≤ f → m_X11_widthOf X d f 9 [(0, vP (some 72)), (2, vI (nI e)), (3, vI (nI a)), (4, vI (nI x))] [] (SK tx tu gu tl, h) = some (some (vI (nI (a + sv v x c))), (SK tx tu gu tl, h)) := by
    intro c
    induction c with
    | zero =>
      intro x a f h1 h2
      obtain ⟨f, rfl⟩ : ∃ g, f = g + 1 := ⟨f - 1, by omega⟩
      rw [e_X11_widthOf_9, if_pos (nI_le (by omega) (by omega))]
      rfl
    | succ c ih =>
      intro x a f h1 h2
      obtain ⟨f, rfl⟩ : ∃ g, f = g + 1 := ⟨f - 1, by omega⟩
      rw [e_X11_widthOf_9, if_neg (nI_ge (by omega) (by omega)), litI 38, addI, inbI (by omega) (by omega), (hK.2 x (by omega)).1, addI, nI_1, ih (x + 1) _ f (by omega) (by omega), Nat.add_assoc]
      rfl
  have e1 : nI e - nI i - 1 = nI (e - i - 1) := by
    rw [subI (by omega)]
    exact subI (a := e - i) (b := 1) (by omega)
  rw [c_X11_widthOf, e_X11_widthOf_0, e1]
  exact lp (e - i) i (e - i - 1) 999999 (by omega) (by omega)
end PK
