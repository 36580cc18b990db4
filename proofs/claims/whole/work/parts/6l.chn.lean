/-! THE CLASS'S READING: chains -/
theorem CS.j3 {C : Nat → Int} {a b b' w : Nat} {D1 D2 D : EV → Int} (h1 : CS C a b (w + 1) D1) (h2 : CS C b b' w D2) (hj : ∀ (C' : Nat → Int) E, EB E → ∀ vs, C' b' = C b' → cSt C' E b' (D2 E :: D1 E :: vs) = some (b' + 1, D E :: vs)) : CS C a (b' + 1) (w + 1) D := by
  refine ⟨by have := h1.1; have := h2.1; omega, fun C' hC E hE vs hv => ?_⟩
  have g1 := h1.1
  have g2 := h2.1
  obtain ⟨m1, l1, e1⟩ := h1.2 C' (fun x p q => hC x p (by omega)) E hE vs (by omega)
  obtain ⟨m2, l2, e2⟩ := h2.2 C' (fun x p q => hC x (by omega) (by omega)) E hE (D1 E :: vs) (by simp; omega)
  refine ⟨m1 + (m2 + 1), by omega, ?_⟩
  rw [cIt_add m1 (m2 + 1) a b vs _ e1, cIt_add m2 1 b b' _ _ e2]
  exact cIt_1 (hj C' E hE vs (hC b' (by omega) (by omega)))
theorem VS_bin2 {C : Nat → Int} {a b b' w o : Nat} {e1 e2 : Cd} (h1 : VS C a b (w + 1) e1) (h2 : VS C b b' w e2) (ho : bi4 o) (hC : C b' = (o : Int) - 5) : VS C a (b' + 1) (w + 1) (e1 ++ e2 ++ [(o, 0)]) := by
  obtain ⟨D1, v1, s1⟩ := h1
  obtain ⟨D2, v2, s2⟩ := h2
  refine ⟨_, VC_bin v1 v2 ho, s1.j3 s2 fun C' E hE vs hb => ?_⟩
  have e := hb.trans hC
  rcases ho with rfl | rfl | rfl | rfl
  · rw [cSt_j (k := 1) e (by decide) (by decide) (by decide) (by decide), jnI_1, twoI_6, Option.map_some]
  · rw [cSt_j (k := 2) e (by decide) (by decide) (by decide) (by decide), jnI_2, twoI_7, Option.map_some]
  · rw [cSt_j (k := 3) e (by decide) (by decide) (by decide) (by decide), jnI_3, twoI_8, Option.map_some]
  · rw [cSt_j (k := 4) e (by decide) (by decide) (by decide) (by decide), jnI_4, twoI_9, Option.map_some, clp_id (tdiv_b _ (v1.2 E hE))]
theorem VS_stp2 {C : Nat → Int} {a b b' w : Nat} {e1 e2 : Cd} (h1 : VS C a b (w + 1) e1) (h2 : VS C b b' w e2) (hC : C b' = 6) : VS C a (b' + 1) (w + 1) (e1 ++ e2 ++ [(4, 0)]) := by
  obtain ⟨D1, v1, s1⟩ := h1
  obtain ⟨D2, v2, s2⟩ := h2
  refine ⟨_, VC_stp v1 v2, s1.j3 s2 fun C' E hE vs hb => ?_⟩
  rw [cSt_j (hb.trans hC) (by decide) (by decide) (by decide) (by decide)]
  rfl
theorem BS_bin2 {C : Nat → Int} {a b b' w o : Nat} {e1 e2 : Cd} (h1 : BS C a b (w + 1) e1) (h2 : BS C b b' w e2) (ho : o = 21 ∨ o = 22) (hC : C b' = (o : Int) - 6) : BS C a (b' + 1) (w + 1) (e1 ++ e2 ++ [(o, 0)]) := by
  obtain ⟨B1, v1, s1⟩ := h1
  obtain ⟨B2, v2, s2⟩ := h2
  refine ⟨_, BC_bin v1 v2 ho, s1.j3 s2 fun C' E hE vs hb => ?_⟩
  rw [cSt_j (hb.trans hC) (by omega) (by omega) (by omega) (by omega)]
  rcases ho with rfl | rfl
  · show (jnI 15 (bzI (B1 E)) (bzI (B2 E))).map _ = some (b' + 1, bzI (B1 E && B2 E) :: vs)
    cases B1 E <;> cases B2 E <;> rfl
  · show (jnI 16 (bzI (B1 E)) (bzI (B2 E))).map _ = some (b' + 1, bzI (B1 E || B2 E) :: vs)
    cases B1 E <;> cases B2 E <;> rfl
theorem upC_s (C : Nat → Int) (s : Nat) (v : Int) : upC C s v s = v := by unfold upC; rw [if_pos rfl]
theorem upC_n {C : Nat → Int} {s x : Nat} {v : Int} (h : x ≠ s) : upC C s v x = C x := by unfold upC; rw [if_neg h]
theorem tS_st {B : Nat → Nat} {L i : Nat} (h : (tkn B L i).1 ≠ 0) : tS B L i + 1 ≤ tS B L (i + 1) := by
  have h2 : tS B L i ≤ tQ B L i := skp_le _ _
  have hq : tQ B L i < L := by
    by_cases g : tQ B L i < L
    · exact g
    · exfalso
      apply h
      show knd B L (tQ B L i) = 0
      unfold knd
      rw [if_neg g]
  have h3 := (tkE_L (B := B) (tQ_L B L i)).2 hq
  show tS B L i + 1 ≤ tkE B L (tQ B L i)
  omega
theorem tS_w {B : Nat → Nat} {L i e : Nat} (he : e < 29) (h : isW (tkn B L) i e = true) : tS B L i + (txN e).length ≤ tS B L (i + 1) := by
  have h2 : tS B L i ≤ tQ B L i := skp_le _ _
  have k := (isW_c h).1
  obtain ⟨g1, g2⟩ := knd_2 k
  rw [isW_eq he k, decide_eq_true_eq] at h
  have h3 : wnd B L (L - tQ B L i) (tQ B L i) - tQ B L i = (txN e).length := by
    rw [← h]
    unfold wdT
    rw [bts_len]
  have w1 := wnd_ge (B := B) (L := L) (L - tQ B L i) (tQ B L i)
  have e1 : tS B L (i + 1) = wnd B L (L - tQ B L i) (tQ B L i) := by
    show tkE B L (tQ B L i) = _
    unfold tkE
    rw [if_pos g1, g2, cond_true]
  omega
/-- what a reading comes to -/
def RdO (t : Nat) (tu gu : Option Nat) (tl : List SC) (B : Nat → Nat) (L : Nat) (cl : RR) (h : DT) (i s : Nat) (C : Nat → Int) (pr : PR) (G : (Nat → Int) → Nat → Nat → Cd → Prop) : Prop := match pr with
  | .inl q => ∃ h', cl = some (some (vI 0), (SK (some t) tu gu tl, h')) ∧ gF h' 38 2 = nI q.1 ∧ gF h' 38 3 = nI (tkn B L q.2).2.2 ∧ zFr t h h'
  | .inr q => ∃ h' s' C', cl = some (some (vI 1), (SK (some t) tu gu tl, h')) ∧ CT h' B L q.1 ∧ CC h' t s' C' ∧ (∀ x, x < s → C' x = C x) ∧ G C' s s' q.2 ∧ i < q.1 ∧ q.1 ≤ L ∧ s' + tS B L i ≤ s + tS B L q.1 ∧ zFs t h h'
def Rdr (X : XS) (t : Nat) (tu gu : Option Nat) (tl : List SC) (B : Nat → Nat) (L lw dep y o : Nat) (it : Nat → PR) (G : (Nat → Int) → Nat → Nat → Cd → Prop) : Prop :=
  ∀ (h : DT) (i s : Nat) (C : Nat → Int), CT h B L i → CC h t s C → s ≤ tS B L i → gF h 38 6 = nI (1 - lw) → RdO t tu gu tl B L (cal X dep y [vP (some 38), vI (nI o)] (SK (some t) tu gu tl, h)) h i s C (it i) G
/-- a relation of pieces of code that looks at no other place -/
def Loc (G : (Nat → Int) → Nat → Nat → Cd → Prop) : Prop := ∀ C C' a b e, G C a b e → (∀ x, a ≤ x → x < b → C' x = C x) → G C' a b e
theorem VS_loc (w : Nat) : Loc (fun C a b e => VS C a b w e) := fun _ _ _ _ _ h e => h.cg e
theorem BS_loc (w : Nat) : Loc (fun C a b e => BS C a b w e) := fun _ _ _ _ _ h e => h.cg e
section CH
variable (X : XS) (d t : Nat) (tu gu : Option Nat) (tl : List SC)
theorem x_chn (ht : isT4 t) {B : Nat → Nat} {L lw y o κ : Nat} {it : Nat → PR} {op : Nat → Nat} {G G' : (Nat → Int) → Nat → Nat → Cd → Prop} {M : Nat → Nat → HP → RR} {M1 : Nat → Nat → Nat → HP → RR} {M2 : Nat → Nat → Nat → Int32 → HP → RR}
    (hop : ∀ i, op i ≠ 0 → (tkn B L i).1 ≠ 0 ∧ κ ≤ op i ∧ op i ≤ 1000)
    (hst : ∀ f n i h, n ≤ 300 → CT h B L i → op i = 0 ∨ n = 300 → M (f + 2) n (SK (some t) tu gu tl, h) = some (some (vI 1), (SK (some t) tu gu tl, h)))
    (hg1 : ∀ f n i h, n < 300 → CT h B L i → op i ≠ 0 → M (f + 2) n (SK (some t) tu gu tl, h) = bV (cal X (d + 4) 50 [vP (some 38)] (SK (some t) tu gu tl, h)) fun H => M1 f n i H)
    (hg2 : ∀ f n i h, M1 (f + 1) n i (SK (some t) tu gu tl, h) = bI (cal X (d + 4) y [vP (some 38), vI (nI o)] (SK (some t) tu gu tl, h)) fun r H => M2 f n i r H)
    (hg3 : ∀ f n i r h, op i ≠ 0 → M2 (f + 1) n i r (SK (some t) tu gu tl, h) = if r = 0 then some (some (vI 0), (SK (some t) tu gu tl, h)) else bV (cal X (d + 4) 85 [vP (some t), vI (zI ((op i : Int) - κ))] (SK (some t) tu gu tl, h)) fun H => M f (n + 1) H)
    (hit : Rdr X t tu gu tl B L lw (d + 4) y o it G) (hL : L ≤ 300) (hlo : Loc G') (hlg : Loc G)
    (hGG : ∀ C a s s' e0 e i, op i ≠ 0 → G' C a s e0 → G C s s' e → C s' = (op i : Int) - κ → G' C a (s' + 1) (e0 ++ e ++ [(op i, 0)])) (hba : ∀ C a b e, G C a b e → a < b)
    {h0 : DT} {i0 a : Nat} {C0 : Nat → Int} : ∀ (k n f : Nat) (h : DT) (i s : Nat) (C : Nat → Int) (e0 : Cd), n + k = 300 → 4 * k + 2 ≤ f → CT h B L i → i ≤ L → CC h t s C → s ≤ tS B L i → gF h 38 6 = nI (1 - lw) → i0 < i → a ≤ s → (∀ x, x < a → C x = C0 x) → G' C a s e0 → s + tS B L i0 ≤ a + tS B L i → zFs t h0 h →
      RdO t tu gu tl B L (M f n (SK (some t) tu gu tl, h)) h0 i0 a C0 (chn it op k i e0) G'
  | 0, n, f, h, i, s, C, e0, hn, hf, H, hi, hC, hs, h6, hi0, ha, hag, hG, hsz, hfs => by
    obtain ⟨f, rfl⟩ : ∃ g, f = g + 2 := ⟨f - 2, by omega⟩
    rw [hst f n i h (by omega) H (Or.inr (by omega))]
    exact ⟨h, s, C, rfl, H, hC, hag, hG, hi0, hi, hsz, hfs⟩
  | k + 1, n, f, h, i, s, C, e0, hn, hf, H, hi, hC, hs, h6, hi0, ha, hag, hG, hsz, hfs => by
    obtain ⟨f, rfl⟩ : ∃ g, f = g + 4 := ⟨f - 4, by omega⟩
    unfold chn
    by_cases g : op i = 0
    · rw [if_pos g, hst (f + 2) n i h (by omega) H (Or.inl g)]
      exact ⟨h, s, C, rfl, H, hC, hag, hG, hi0, hi, hsz, hfs⟩
    · obtain ⟨o1, o2, o3⟩ := hop i g
      have hiL := tkn_i o1
      have t1 := tS_st o1
      obtain ⟨h1, k1, k2, k3, k4⟩ := x_nxt X (d + 1) t tu gu tl ht h H.1
      have fs1 : zFs t h h1 := zFs_38 ht k4 k3
      rw [if_neg g, hg1 (f + 2) n i h (by omega) H g, k1, bV_s, hg2]
      have hR := hit h1 (i + 1) s C k2 (hC.cg ht k4) (by omega) (by rw [k3 6 (by omega)]; exact h6)
      cases hr : it (i + 1) with
      | inl q =>
        rw [hr] at hR
        obtain ⟨h2, j1, j2, j3, j4⟩ := hR
        rw [j1, bI_s, hg3 f n i 0 h2 g, if_pos rfl]
        exact ⟨h2, rfl, j2, j3, (hfs.tr fs1).fr j4⟩
      | inr q =>
        rw [hr] at hR
        obtain ⟨h2, s2, C2, j1, j2, j3, j4, j5, j6, j7, j8, j9⟩ := hR
        have hb := hba _ _ _ _ j5
        have tL := tS_L B L q.1
        obtain ⟨h3, e1, e2, e3, e4, e5⟩ := x_emit X (d + 3) t tu gu tl ht h2 j3 (v := (op i : Int) - κ) (by omega) (by omega) (by omega)
        rw [j1, bI_s, hg3 f n i 1 h2 g, if_neg one0, e1, bV_s]
        have ag : ∀ x, x < s2 → upC C2 s2 ((op i : Int) - κ) x = C2 x := fun x hx => upC_n (by omega)
        have hC3 : CT h3 B L q.1 := j2.cg (fun z _ => by rw [e4]) e5
        refine x_chn ht hop hst hg1 hg2 hg3 hit hL hlo hlg hGG hba k (n + 1) f h3 q.1 (s2 + 1) _ _ (by omega) (by omega) hC3 j7 e2 (by omega) ?_ (by omega) (by omega) (fun x hx => ?_) ?_ (by omega) (((hfs.tr fs1).tr j9).tr e3)
        · rw [e4, j9.2.2 6 (by omega), k3 6 (by omega)]
          exact h6
        · rw [ag x (by omega), j4 x (by omega)]
          exact hag x hx
        · exact hGG _ a s s2 e0 q.2 i g (hlo _ _ _ _ _ hG fun x h1 h2 => by rw [ag x (by omega), j4 x h2]) (hlg _ _ _ _ _ j5 fun x _ h2 => ag x h2) (upC_s _ _ _)
end CH
