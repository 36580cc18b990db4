/-! PAGE, LINE -/
section PO
variable (X : XS) (d : Nat) (tx tu gu : Option Nat) (tl : List SC)
theorem k_chl {v : Nat → Nat} {W w i : Nat} {T : Nat → PT} (hw : w ≤ 10) (hW : W ≤ 60) (hTw : T w = some (0, 0, w)) (hT : ∀ e, i < e → e ≤ w → ∀ c l e', T e = some (c, l, e') → c ≤ 36000 ∧ l ≤ 10) (F : Nat) : ∀ (c e s f : Nat) (b : PT) (h : DT), e + c = w → i ≤ e → s = sv v i (e - i) + (e - i) → s ≤ W + 1 → F + 6 * c + 1 ≤ f → KWd h v w → KTb h w T (i + 1) → KCl h w i b → (∀ c0 l0 e0, b = some (c0, l0, e0) → c0 ≤ 40000 ∧ l0 ≤ 20) → ∃ f' h', m_X11_layPage X (d + 1) f 50 [(0, vP (some 72)), (1, vI (nI W)), (2, vI (nI w)), (3, vI (nI i)), (4, vI (nI (e + 1)))] [] (SK tx tu gu tl, h) = m_X11_layPage X (d + 1) f' 9 [(0, vP (some 72)), (1, vI (nI W)), (2, vI (nI w)), (3, vI (nI i + (-1)))] [] (SK tx tu gu tl, h') ∧ F ≤ f' ∧ sK i h h' ∧ KCl h' w i (chI v W w T c e s b)
  | 0, e, s, f, b, h, he, hie, hss, hs, hf, hK, hX, hc, hb => by
    obtain ⟨f, rfl⟩ : ∃ g, f = g + 1 := ⟨f - 1, by omega⟩
    refine ⟨f, h, ?_, by omega, sK.rf i h, hc⟩
    rw [e_X11_layPage_50, if_pos ((nI_ltI (by omega) (by omega)).mpr (by omega))]
  | c + 1, e, s, f, b, h, he, hie, hss, hs, hf, hK, hX, hc, hb => by
    obtain ⟨f, rfl⟩ : ∃ g, f = g + 5 := ⟨f - 5, by omega⟩
    have wl := (hK.2 e (by omega)).2
    have hwd : e + 1 - i - 1 + sv v i (e + 1 - i) = s + v e := by
      rw [show e + 1 - i = (e - i) + 1 by omega, sv_sn, show i + (e - i) = e by omega]
      omega
    have kw := k_width X d tx tu gu tl (i := i) (e := e + 1) h hw hK (by omega) (by omega)
    rw [hwd] at kw
    rw [e_X11_layPage_50, if_neg (fun g => absurd ((nI_ltI (by omega) (by omega)).mp g) (by omega)), kw, bI_s, e_X11_layPage_63]
    unfold chI
    by_cases g : s + v e ≤ W
    · have hs1 : s + v e + 1 = sv v i (e + 1 - i) + (e + 1 - i) := by omega
      have KEEP : ∀ G, F + 6 * c + 1 ≤ G → ∃ f' h', m_X11_layPage X (d + 1) G 50 [(0, vP (some 72)), (1, vI (nI W)), (2, vI (nI w)), (3, vI (nI i)), (4, vI (nI (e + 1 + 1)))] [] (SK tx tu gu tl, h) = m_X11_layPage X (d + 1) f' 9 [(0, vP (some 72)), (1, vI (nI W)), (2, vI (nI w)), (3, vI (nI i + (-1)))] [] (SK tx tu gu tl, h') ∧ F ≤ f' ∧ sK i h h' ∧ KCl h' w i (chI v W w T c (e + 1) (s + v e + 1) b) := fun G hG => k_chl hw hW hTw hT F c (e + 1) (s + v e + 1) G b h (by omega) (by omega) hs1 (by omega) hG hK hX hc hb
      have kc := hX (e + 1) (by omega) (by omega)
      rw [if_pos g, if_neg (fun z => absurd ((nI_ltI (by omega) (by omega)).mp z) (by omega)), inbI (by omega) (by omega), nI_1]
      cases hT1 : T (e + 1) with
      | none =>
        rw [hT1] at kc
        rw [show gA h 88 (e + 1) = nI 1000000 from kc, if_pos (show nI 1000000 = 1000000 from rfl)]
        exact KEEP (f + 3) (by omega)
      | some t =>
        obtain ⟨c1, l1, ee⟩ := t
        rw [hT1] at kc
        obtain ⟨x1, x2, -⟩ := kc
        obtain ⟨hc1, hl1⟩ := hT (e + 1) (by omega) (by omega) _ _ _ hT1
        have hq := sqR_le (v := v) (w := w) (s := s) (e := e) hW
        have sel : m_X11_layPage X (d + 1) (f + 3) 91 [(0, vP (some 72)), (1, vI (nI W)), (2, vI (nI w)), (3, vI (nI i)), (4, vI (nI (e + 1)))] [vI (nI (s + v e)), vI (nI W)] (SK tx tu gu tl, h) = m_X11_layPage X (d + 1) (f + 2) 117 [(0, vP (some 72)), (1, vI (nI W)), (2, vI (nI w)), (3, vI (nI i)), (4, vI (nI (e + 1)))] [vI (nI (c1 + sqR v W w s e))] (SK tx tu gu tl, h) := by
          rw [e_X11_layPage_91]
          unfold sqR
          by_cases z : e + 1 = w
          · have : c1 = 0 := by
              rw [z, hTw] at hT1
              cases hT1
              rfl
            rw [if_pos (congrArg nI z), if_pos z, this]
            rfl
          · rw [if_neg (fun q => z ((nI_eq (by omega) (by omega)).mp q)), if_neg z, inbI (by omega) (by omega), x1, subI (by omega), mulI, addI]
        have SET : ∀ G, F + 6 * c + 1 ≤ G → ∃ f' h', m_X11_layPage X (d + 1) (G + 1) 162 [(0, vP (some 72)), (1, vI (nI W)), (2, vI (nI w)), (3, vI (nI i)), (4, vI (nI (e + 1))), (6, vI (nI (c1 + sqR v W w s e)))] [] (SK tx tu gu tl, h) = m_X11_layPage X (d + 1) f' 9 [(0, vP (some 72)), (1, vI (nI W)), (2, vI (nI w)), (3, vI (nI i + (-1)))] [] (SK tx tu gu tl, h') ∧ F ≤ f' ∧ sK i h h' ∧ KCl h' w i (chI v W w T c (e + 1) (s + v e + 1) (some (c1 + sqR v W w s e, l1 + 1, e + 1))) := by
          intro G hG
          have sx := sK_s i h (nI (c1 + sqR v W w s e)) (nI (l1 + 1)) (nI (e + 1 - i))
          obtain ⟨f', h', k1, k2, k3, k4⟩ := k_chl hw hW hTw hT F c (e + 1) (s + v e + 1) G (some (c1 + sqR v W w s e, l1 + 1, e + 1)) (sA (sA (sA h 88 i (nI (c1 + sqR v W w s e))) 89 i (nI (l1 + 1))) 90 i (nI (e + 1 - i))) (by omega) (by omega) hs1 (by omega) hG (by
            unfold KWd
            rw [smA sx.1 (by omega)]
            exact hK) (fun j h1 h2 => (hX j h1 h2).cg (sx.2 j (by omega))) ⟨(sK_g i h _ _ _).1, (sK_g i h _ _ _).2.1, fun _ => (sK_g i h _ _ _).2.2⟩ (fun c0 l0 e0 z => by
            cases z
            exact ⟨by omega, by omega⟩)
          refine ⟨f', h', ?_, k2, sx.tr k3, k4⟩
          rw [e_X11_layPage_162, inbI (by omega) (by omega), inbI (by omega) (by omega), inbI (by omega) (by omega), inbI (by omega) (by omega), nI_1, x2, nI_1, subI (by omega)]
          exact k1
        rw [x1, if_neg (show ¬ nI c1 = 1000000 from fun z => absurd ((nI_eq (a := c1) (b := 1000000) (by omega) (by omega)).mp z) (by omega)), kw, bI_s, sel, e_X11_layPage_117, inbI (by omega) (by omega)]
        cases b with
        | none =>
          rw [show gA h 88 i = nI 1000000 from hc, if_neg (fun z => absurd ((nI_ltI (by omega) (by omega)).mp z) (by omega)), inbI (by omega) (by omega), show gA h 88 i = nI 1000000 from hc, if_neg (fun z => absurd ((nI_eq (by omega) (by omega)).mp z) (by omega))]
          exact SET f (by omega)
        | some b =>
          obtain ⟨c0, l0, e0⟩ := b
          obtain ⟨q1, q2⟩ := hb c0 l0 e0 rfl
          obtain ⟨q4, q5, q6⟩ := id hc
          unfold bet
          simp only
          rw [q4]
          by_cases g1 : c0 < c1 + sqR v W w s e
          · rw [if_pos ((nI_ltI (by omega) (by omega)).mpr g1), if_neg (by omega), nI_1]
            exact KEEP (f + 1) (by omega)
          · rw [if_neg (fun z => g1 ((nI_ltI (by omega) (by omega)).mp z)), inbI (by omega) (by omega), q4]
            by_cases g2 : c1 + sqR v W w s e = c0
            · rw [if_pos (congrArg nI g2), inbI (by omega) (by omega), inbI (by omega) (by omega), x2, q5, nI_1]
              by_cases g3 : l1 + 1 < l0
              · rw [if_pos ((nI_ltI (by omega) (by omega)).mpr g3), if_pos (Or.inr ⟨g2, g3⟩)]
                exact SET f (by omega)
              · rw [if_neg (fun z => g3 ((nI_ltI (by omega) (by omega)).mp z)), if_neg (by omega), nI_1]
                exact KEEP (f + 1) (by omega)
            · rw [if_neg (fun z => g2 ((nI_eq (by omega) (by omega)).mp z)), if_pos (Or.inl (by omega))]
              exact SET f (by omega)
    · rw [if_neg g, if_pos ((nI_ltI (by omega) (by omega)).mpr (by omega))]
      exact ⟨f + 3, h, rfl, by omega, sK.rf i h, hc⟩
theorem k_lay {v : Nat → Nat} {W w : Nat} {T : Nat → PT} (hw : w ≤ 10) (hW : W ≤ 60) (H : TOk v W w T) : ∀ (m f : Nat) (h : DT), m ≤ w + 1 → 100 * m + 1 ≤ f → KWd h v w → KTb h w T m → ∃ h', m_X11_layPage X (d + 1) f 9 [(0, vP (some 72)), (1, vI (nI W)), (2, vI (nI w)), (3, vI (nI m - 1))] [] (SK tx tu gu tl, h) = some (none, (SK tx tu gu tl, h')) ∧ smX (fun c => c = 88 ∨ c = 89 ∨ c = 90) h h' ∧ KTb h' w T 0
  | 0, f, h, hm, hf, hK, hX => by
    obtain ⟨f, rfl⟩ : ∃ g, f = g + 1 := ⟨f - 1, by omega⟩
    refine ⟨h, ?_, smX.rf _ h, hX⟩
    rw [e_X11_layPage_9, if_pos (show nI 0 - 1 < 0 by decide)]
  | m + 1, f, h, hm, hf, hK, hX => by
    obtain ⟨f, rfl⟩ : ∃ g, f = g + 2 := ⟨f - 2, by omega⟩
    have e1 : nI (m + 1) - 1 = nI m := subI (a := m + 1) (b := 1) (by omega)
    have e2 : nI m + (-1) = nI m - 1 := (Int32.sub_eq_add_neg _ _).symm
    have hTb : ∀ e, m < e → e ≤ w → ∀ c l e', T e = some (c, l, e') → c ≤ 36000 ∧ l ≤ 10 := fun e g1 g2 c l e' hq => by
      have := H.b hW (w - e) e (by omega) _ hq
      simp only at this
      exact ⟨by omega, by omega⟩
    have go : ∀ (a : Int32) (b : PT), KCl (sA (sA (sA h 88 m a) 89 m 0) 90 m 0) w m b → (∀ c0 l0 e0, b = some (c0, l0, e0) → c0 ≤ 40000 ∧ l0 ≤ 20) → chI v W w T (w - m) m 0 b = T m → ∃ h', m_X11_layPage X (d + 1) (f + 1) 30 [(0, vP (some 72)), (1, vI (nI W)), (2, vI (nI w)), (3, vI (nI m))] [vI a, vI (nI m), vP (some 88)] (SK tx tu gu tl, h) = some (none, (SK tx tu gu tl, h')) ∧ smX (fun c => c = 88 ∨ c = 89 ∨ c = 90) h h' ∧ KTb h' w T 0 := by
      intro a b hc hb hch
      have sx := sK_s m h a 0 0
      obtain ⟨f', h1, k1, k2, k3, k4⟩ := k_chl X d tx tu gu tl (v := v) (W := W) (w := w) (i := m) (T := T) hw hW H.1 hTb (100 * m + 1) (w - m) m 0 f b (sA (sA (sA h 88 m a) 89 m 0) 90 m 0) (by omega) (by omega) (by rw [Nat.sub_self]; rfl) (by omega) (by omega) (by
        unfold KWd
        rw [smA sx.1 (by omega)]
        exact hK) (fun j h1 h2 => (hX j h1 h2).cg (sx.2 j (by omega))) hc hb
      rw [hch] at k4
      obtain ⟨h2, j1, j2, j3⟩ := k_lay hw hW H m f' h1 (by omega) (by omega) (by
        unfold KWd
        rw [smA (sx.tr k3).1 (by omega)]
        exact hK) (fun j h1 h2 => by
        by_cases z : j = m
        · subst z; exact k4
        · exact (hX j (by omega) h2).cg ((sx.tr k3).2 j z))
      refine ⟨h2, ?_, (sx.tr k3).1.tr j2, j3⟩
      rw [e_X11_layPage_30, inbI (by omega) (by omega), inbI (by omega) (by omega), inbI (by omega) (by omega), nI_1, k1, e2]
      exact j1
    rw [e_X11_layPage_9, e1, if_neg (show ¬ nI m < 0 from fun g => absurd ((nI_ltI (a := m) (b := 0) (by omega) (by omega)).mp g) (by omega))]
    by_cases z : m = w
    · rw [if_pos (congrArg nI z)]
      refine go 0 (some (0, 0, w)) ⟨(sK_g m h _ _ _).1, (sK_g m h _ _ _).2.1, fun q => by omega⟩ (fun c0 l0 e0 q => by cases q; exact ⟨by omega, by omega⟩) ?_
      rw [z, Nat.sub_self, H.1]
      rfl
    · rw [if_neg (fun q => z ((nI_eq (by omega) (by omega)).mp q))]
      exact go 1000000 none (sK_g m h _ _ _).1 (fun c0 l0 e0 q => by cases q) (H.2 m (by omega)).symm
theorem k_layPage {v : Nat → Nat} {W w : Nat} {T : Nat → PT} (hw : w ≤ 10) (hW : W ≤ 60) (H : TOk v W w T) (h : DT) (hK : KWd h v w) : ∃ h', cal X (d + 2) 273 [vP (some 72), vI (nI W)] (SK tx tu gu tl, h) = some (none, (SK tx tu gu tl, h')) ∧ KZ h h' ∧ KTb h' w T 0 := by
  obtain ⟨h1, k1, k2, k3⟩ := k_lay X d tx tu gu tl hw hW H (w + 1) 999999 h (by omega) (by omega) hK (fun e g1 g2 => by omega)
  refine ⟨h1, ?_, k2.mo (fun c hc => by omega), k3⟩
  rw [show nI (w + 1) - 1 = nI w from subI (a := w + 1) (b := 1) (by omega)] at k1
  rw [c_X11_layPage, e_X11_layPage_0, hK.1]
  exact k1
end PO
