/-! THE CLASS'S READING: what is asked; all levels -/
section AK
variable (X : XS) (d t : Nat) (tu gu : Option Nat) (tl : List SC)
theorem x_ask (ht : isT4 t) {B : Nat → Nat} {L lw o w : Nat} {sub : Option Lv} {one : Nat → PR} (hL : L ≤ 300) (ho : o < 100) (hS : SubC X t tu gu tl B L lw (d + 4) o w sub) (h1 : Rdr X t tu gu tl B L lw (d + 4) 34 o (sumP (tkn B L) one) (fun C a b e => VS C a b (w + 7) e)) : Rdr X t tu gu tl B L lw (d + 5) 40 o (askF (tkn B L) sub one) (fun C a b e => BS C a b (w + 8) e) := by
  intro h i s C H hC hs h6
  rw [c_X4_readAsk, e_X4_readAsk_0 (ht := ht), x_isW X (d + 3) t tu gu tl ht (by omega) h H, bI_s, e_X4_readAsk_6 (ht := ht)]
  unfold askF
  by_cases w13 : isW (tkn B L) i 13 = true
  · rw [w13, bz_t, if_neg one0, if_pos rfl]
    refine x_opn X d t tu gu tl ht ho hS (by rw [(isW_c w13).1]; decide) h H (fun h1 => by rw [e_X4_readAsk_14 (ht := ht), if_pos rfl]) (fun sv h1 hsb ho8 hi c1 c2 c3 => ?_)
    subst hsb
    have f1 := zFs_38 ht c2 c3
    have t1 := tS_st (B := B) (L := L) (i := i) (by rw [(isW_c w13).1]; decide)
    rw [e_X4_readAsk_14 (ht := ht), if_neg one0, nI_1]
    have hR := hS.2.2.2.1 h1 (i + 1) s C c1 (hC.cg ht c2) (by omega) (by rw [c3 6 (by omega)]; exact h6)
    cases hr : sv.2 (i + 1) with
    | inl q =>
      rw [hr] at hR
      obtain ⟨h2, j1, j2, j3, j4⟩ := hR
      rw [j1, bI_s, e_X4_readAsk_24 (ht := ht), if_pos rfl]
      exact ⟨h2, rfl, j2, j3, f1.fr j4⟩
    | inr q =>
      rw [hr] at hR
      obtain ⟨h2, s2, C2, j1, j2, j3, j4, j5, j6, j7, j8, j9⟩ := hR
      have b1 := BS_lt j5
      have tL := tS_L B L q.1
      obtain ⟨h3, a1, a2, a3, a4, a5⟩ := x_put X (d + 2) t tu gu tl ht h2 j3 (v := 14) (by omega) (by omega) (by omega)
      rw [j1, bI_s, e_X4_readAsk_24 (ht := ht), if_neg one0, show (14 : Int32) = zI 14 from rfl, a1, bI_s, if_neg one0]
      exact ⟨h3, s2 + 1, _, rfl, j2.em a4 a5, a2, fun x hx => by rw [upC_n (by omega)]; exact j4 x hx, (BS_not (j5.cg fun x _ h2 => upC_n (by omega)) (upC_s _ _ _)).mo (by omega), by show i < q.1; omega, j7, by show s2 + 1 + tS B L i ≤ s + tS B L q.1; omega, (f1.tr j9).tr a3⟩
  rw [Bool.eq_false_iff.mpr w13, bz_f, if_pos rfl, if_neg (show ¬ (false = true) by decide)]
  unfold cmpF
  have hR := h1 h i s C H hC hs h6
  cases hr : sumP (tkn B L) one i with
  | inl q =>
    rw [hr] at hR
    obtain ⟨h2, j1, j2, j3, j4⟩ := hR
    rw [j1, bI_s, e_X4_readAsk_47 (ht := ht), if_pos rfl]
    exact ⟨h2, rfl, j2, j3, j4⟩
  | inr q =>
    rw [hr] at hR
    obtain ⟨h2, s2, C2, j1, j2, j3, j4, j5, j6, j7, j8, j9⟩ := hR
    have b1 := VS_lt j5
    rw [j1, bI_s, e_X4_readAsk_47 (ht := ht), if_neg one0, x_cmpn X (d + 3) t tu gu tl ht h2 j2, bI_s, e_X4_readAsk_56 (ht := ht)]
    show RdO t tu gu tl B L _ h i s C (if gCmp (tkn B L) q.1 = 0 then _ else _) _
    by_cases g : gCmp (tkn B L) q.1 = 0
    · obtain ⟨h3, k1, k2, k3, k4⟩ := x_fail X (d + 3) t tu gu tl ht h2 1 j2.2.1
      rw [g, if_pos (by rfl), if_pos rfl, show (1 : Int32) = nI 1 from rfl, k1, bI_s, if_pos (Or.inl rfl)]
      exact ⟨h3, rfl, k2, k3, j9.fr k4⟩
    · have gc : 10 ≤ gCmp (tkn B L) q.1 ∧ gCmp (tkn B L) q.1 < 16 ∧ (tkn B L q.1).1 ≠ 0 := by
        rcases gCmp_cs (τ := tkn B L) (i := q.1) with ⟨z, _⟩ | ⟨z, y⟩ | ⟨z, y⟩ | ⟨z, y⟩ | ⟨z, y⟩ | ⟨z, y⟩ | ⟨z, y⟩
        · exact absurd z g
        all_goals omega
      have hq := tkn_i gc.2.2
      have t2 := tS_st gc.2.2
      obtain ⟨h3, k1, k2, k3, k4⟩ := x_nxt X (d + 1) t tu gu tl ht h2 j2.1
      have f3 := j9.tr (zFs_38 ht k4 k3)
      rw [if_neg (fun z => by have := (nI_eq (a := gCmp (tkn B L) q.1 - 2) (b := 0) (by omega) (by omega)).mp z; omega), if_neg g, k1, bV_s, e_X4_readAsk_71 (ht := ht)]
      have hR := h1 h3 (q.1 + 1) s2 C2 k2 (j3.cg ht k4) (by omega) (by rw [f3.2.2 6 (by omega)]; exact h6)
      cases hr2 : sumP (tkn B L) one (q.1 + 1) with
      | inl q2 =>
        rw [hr2] at hR
        obtain ⟨h4, m1, m2, m3, m4⟩ := hR
        rw [m1, bI_s, e_X4_readAsk_76 (ht := ht), if_pos rfl]
        exact ⟨h4, rfl, m2, m3, f3.fr m4⟩
      | inr q2 =>
        rw [hr2] at hR
        obtain ⟨h4, s4, C4, m1, m2, m3, m4, m5, m6, m7, m8, m9⟩ := hR
        have b2 := VS_lt m5
        have tL2 := tS_L B L q2.1
        obtain ⟨h5, a1, a2, a3, a4, a5⟩ := x_put X (d + 2) t tu gu tl ht h4 m3 (v := (gCmp (tkn B L) q.1 : Int) - 2) (by omega) (by omega) (by omega)
        have ev : nI (gCmp (tkn B L) q.1 - 2) = zI ((gCmp (tkn B L) q.1 : Int) - 2) := by
          rw [zI_nI]
          congr 1
          omega
        rw [m1, bI_s, e_X4_readAsk_76 (ht := ht), if_neg one0, ev, a1, bI_s, if_neg one0]
        refine ⟨h5, s4 + 1, _, rfl, m2.em a4 a5, a2, fun x hx => by rw [upC_n (by omega), m4 x (by omega)]; exact j4 x hx, ?_, by show i < q2.1; omega, m7, by show s4 + 1 + tS B L i ≤ s + tS B L q2.1; omega, (f3.tr m9).tr a3⟩
        exact BS_cmp2 ((j5.mo (Nat.le_succ _)).cg fun x _ h2 => by rw [upC_n (by omega), m4 x h2]) (m5.cg fun x _ h2 => upC_n (by omega)) gc.1 gc.2.1 (upC_s _ _ _)
theorem RdO.mo {t : Nat} {tu gu : Option Nat} {tl : List SC} {B : Nat → Nat} {L : Nat} {cl : RR} {h : DT} {i s : Nat} {C : Nat → Int} {pr : PR} {G G' : (Nat → Int) → Nat → Nat → Cd → Prop} (H : RdO t tu gu tl B L cl h i s C pr G) (hG : ∀ C a b e, G C a b e → G' C a b e) : RdO t tu gu tl B L cl h i s C pr G' := by
  cases pr with
  | inl q => exact H
  | inr q =>
    obtain ⟨h2, s2, C2, j1, j2, j3, j4, j5, j6⟩ := H
    exact ⟨h2, s2, C2, j1, j2, j3, j4, hG _ _ _ _ j5, j6⟩
theorem x_lv (ht : isT4 t) {B : Nat → Nat} {L lw : Nat} (hlw : lw = 0 ∨ lw = 1) (hL : L ≤ 300) : ∀ (D : Nat), (∀ d o, o + D = 8 → Rdr X t tu gu tl B L lw (d + 7 * D + 5) 36 o (lvP (tkn B L) lw D).1 (fun C a b e => VS C a b (5 * D + 5) e)) ∧ ∀ d o, o + D = 8 → Rdr X t tu gu tl B L lw (d + 7 * D + 8) 40 o (lvP (tkn B L) lw D).2 (fun C a b e => BS C a b (5 * D + 8) e) := by
  intro D
  induction D with
  | zero =>
    have h1 : ∀ d o, o + 0 = 8 → Rdr X t tu gu tl B L lw (d + 5) 36 o (oneF (tkn B L) lw none) (fun C a b e => VS C a b (0 + 5) e) := fun d o ho => x_one X d t tu gu tl ht hlw hL (by omega) (show 8 ≤ o by omega)
    refine ⟨fun d o ho => ?_, fun d o ho => ?_⟩
    · rw [show d + 7 * 0 + 5 = d + 5 by omega, show (lvP (tkn B L) lw 0).1 = oneF (tkn B L) lw none from rfl, show 5 * 0 + 5 = 0 + 5 by omega]
      exact h1 d o ho
    · have hs := x_sum X (d + 1) t tu gu tl ht hL (h1 d o ho)
      rw [show d + 1 + 6 = d + 3 + 4 by omega] at hs
      rw [show d + 7 * 0 + 8 = d + 3 + 5 by omega, show (lvP (tkn B L) lw 0).2 = askF (tkn B L) none (oneF (tkn B L) lw none) from rfl, show 5 * 0 + 8 = 0 + 8 by omega]
      exact x_ask X (d + 3) t tu gu tl ht (sub := none) (w := 0) hL (by omega) (show 8 ≤ o by omega) hs
  | succ D ih =>
    obtain ⟨i1, i2⟩ := ih
    have hsub : ∀ d o, o + (D + 1) = 8 → SubC X t tu gu tl B L lw (d + 7 * D + 11) o (5 * D + 5) (some (lvP (tkn B L) lw D)) := fun d o ho => by
      refine ⟨by omega, ?_, ?_, ?_, ?_⟩
      · have := i1 (d + 6) (o + 1) (by omega)
        rw [show d + 6 + 7 * D + 5 = d + 7 * D + 11 by omega] at this
        exact this
      · have := i1 (d + 4) (o + 1) (by omega)
        rw [show d + 4 + 7 * D + 5 = d + 7 * D + 5 + 4 by omega] at this
        have := x_sum X (d + 7 * D + 5) t tu gu tl ht hL this
        rw [show d + 7 * D + 5 + 6 = d + 7 * D + 11 by omega] at this
        exact this
      · have := i2 (d + 3) (o + 1) (by omega)
        rw [show d + 3 + 7 * D + 8 = d + 7 * D + 11 by omega] at this
        exact this
      · have a1 := i2 d (o + 1) (by omega)
        rw [show d + 7 * D + 8 = d + 7 * D + 4 + 4 by omega] at a1
        have a2 := x_eit X (d + 7 * D + 4) t tu gu tl ht hL a1
        have b1 := i1 (d + 3) (o + 1) (by omega)
        rw [show d + 3 + 7 * D + 5 = d + 7 * D + 4 + 4 by omega] at b1
        have b2 := x_sum X (d + 7 * D + 4) t tu gu tl ht hL b1
        rw [show d + 7 * D + 4 + 6 = d + 7 * D + 6 + 4 by omega] at a2 b2
        rw [show d + 7 * D + 11 = d + 7 * D + 6 + 5 by omega]
        exact x_cho X (d + 7 * D + 6) t tu gu tl ht hL a2 (fun h i s C H hC hs h6 => (b2 h i s C H hC hs h6).mo fun _ _ _ _ z => z.mo (by omega))
    have h1 : ∀ d o, o + (D + 1) = 8 → Rdr X t tu gu tl B L lw (d + 7 * D + 12) 36 o (lvP (tkn B L) lw (D + 1)).1 (fun C a b e => VS C a b (5 * D + 5 + 5) e) := fun d o ho => by
      have q := hsub d o ho
      rw [show d + 7 * D + 11 = d + 7 * D + 7 + 4 by omega] at q
      rw [show d + 7 * D + 12 = d + 7 * D + 7 + 5 by omega, show (lvP (tkn B L) lw (D + 1)).1 = oneF (tkn B L) lw (some (lvP (tkn B L) lw D)) from rfl]
      exact x_one X (d + 7 * D + 7) t tu gu tl ht hlw hL (by omega) q
    refine ⟨fun d o ho => ?_, fun d o ho => ?_⟩
    · rw [show d + 7 * (D + 1) + 5 = d + 7 * D + 12 by omega, show 5 * (D + 1) + 5 = 5 * D + 5 + 5 by omega]
      exact h1 d o ho
    · have b1 := h1 d o ho
      rw [show d + 7 * D + 12 = d + 7 * D + 8 + 4 by omega] at b1
      have b2 := x_sum X (d + 7 * D + 8) t tu gu tl ht hL b1
      rw [show d + 7 * D + 8 + 6 = d + 7 * D + 10 + 4 by omega] at b2
      have a2 := hsub (d + 3) o ho
      rw [show d + 3 + 7 * D + 11 = d + 7 * D + 10 + 4 by omega] at a2
      rw [show d + 7 * (D + 1) + 8 = d + 7 * D + 10 + 5 by omega, show 5 * (D + 1) + 8 = 5 * D + 5 + 8 by omega]
      rw [show (lvP (tkn B L) lw (D + 1)).2 = askF (tkn B L) (some (lvP (tkn B L) lw D)) (oneF (tkn B L) lw (some (lvP (tkn B L) lw D))) from rfl]
      exact x_ask X (d + 7 * D + 10) t tu gu tl ht hL (by omega) a2 b2
end AK
