/-! meant and listen, by both -/
def Late (tu gu : Option Nat) (tl : List SC) : Prop := (tu = none ∧ gu = none ∧ tl = []) ∨ (tu = some 95 ∧ gu = none ∧ tl = TuC 95) ∨ (tu = none ∧ gu = some 95 ∧ tl = GuC 95) ∨ (tu = some 95 ∧ gu = some 100 ∧ tl = TuC 95 ++ GuC 100) ∨ (tu = some 98 ∧ gu = some 95 ∧ tl = GuC 95 ++ TuC 98)
theorem Late.g {tu : Option Nat} {g : Nat} {tl : List SC} (H : Late tu (some g) tl) : GuA g tl := by
  rcases H with ⟨_, z, _⟩ | ⟨_, z, _⟩ | ⟨_, z, e⟩ | ⟨_, z, e⟩ | ⟨_, z, e⟩
  · cases z
  · cases z
  · injection z with z
    subst z
    exact Or.inl ⟨rfl, [], by rw [e, List.append_nil]⟩
  · injection z with z
    subst z
    exact Or.inr ⟨rfl, _, _, _, _, _, [], e⟩
  · injection z with z
    subst z
    exact Or.inl ⟨rfl, _, e⟩
theorem Late.t {gu : Option Nat} {b : Nat} {tl : List SC} (H : Late (some b) gu tl) : TuA b tl := by
  rcases H with ⟨z, _⟩ | ⟨z, _, e⟩ | ⟨z, _⟩ | ⟨z, _, e⟩ | ⟨z, _, e⟩
  · cases z
  · injection z with z
    subst z
    exact Or.inl ⟨rfl, [], by rw [e, List.append_nil]⟩
  · cases z
  · injection z with z
    subst z
    exact Or.inl ⟨rfl, _, e⟩
  · injection z with z
    subst z
    exact Or.inr ⟨rfl, _, _, _, [], e⟩
/-- cells of the one lie apart from those of the other -/
theorem Late.d {b g : Nat} {tl : List SC} (H : Late (some b) (some g) tl) : 95 ≤ b ∧ 95 ≤ g ∧ ∀ c, b ≤ c → c ≤ b + 4 → ¬ (g ≤ c ∧ c ≤ g + 2) := by
  rcases H with ⟨z, _⟩ | ⟨_, z, _⟩ | ⟨z, _⟩ | ⟨z, y, e⟩ | ⟨z, y, e⟩
  · cases z
  · cases z
  · cases z
  · injection z with z
    injection y with y
    subst z
    subst y
    exact ⟨by omega, by omega, fun c h1 h2 => by omega⟩
  · injection z with z
    injection y with y
    subst z
    subst y
    exact ⟨by omega, by omega, fun c h1 h2 => by omega⟩
theorem GuA.g95 {g : Nat} {tl : List SC} (hg : GuA g tl) : 95 ≤ g := by rcases hg with ⟨z, _⟩ | ⟨z, _⟩ <;> omega
theorem rul_tp {A : Nat → Int32} {t : Nat} (H : TxtOk A t) : TpA (rulP (A 2)) := by
  obtain ⟨_, h1, h2⟩ := H
  unfold rulP TpA
  rcases h2 with z | ⟨r, r1, r2⟩
  · rw [if_pos z]; exact Or.inl rfl
  · have : ¬ A 2 = -1 := by rw [r2]; exact nI_n1 (by omega)
    rw [if_neg this, r2, clI (by omega)]
    unfold txc
    obtain rfl | rfl | rfl | rfl : r = 0 ∨ r = 1 ∨ r = 2 ∨ r = 3 := by omega
    · exact Or.inr (Or.inl rfl)
    · exact Or.inr (Or.inr (Or.inl rfl))
    · exact Or.inr (Or.inr (Or.inr (Or.inl rfl)))
    · exact Or.inr (Or.inr (Or.inr (Or.inr rfl)))
theorem smX_zF {S : Nat → Prop} {h : DT} {n : Nat} (hn : S n) : smX S h (zF h n) := fun a ha => by
  have : a ≠ n := fun e => ha (e ▸ hn)
  refine ⟨?_, ?_, rfl, rfl⟩
  · funext b; simp [zF, up1, this]
  · funext b; simp [zF, up1, this]
theorem smX_zA {S : Nat → Prop} {h : DT} {n : Nat} (hn : S n) : smX S h (zA h n) := fun a ha => by
  have : a ≠ n := fun e => ha (e ▸ hn)
  refine ⟨rfl, rfl, ?_, ?_⟩
  · funext b; simp [zA, up1, this]
  · funext b; simp [zA, up1, this]
section MA
variable (X : XS) (d : Nat) (tx tu gu : Option Nat) (tl : List SC)
theorem x_gp {A : Nat → Int32} {n t k q err : Nat} {TT : Nat → TXT} (hLt : Late tu gu tl) (hQ : HrdOk A n q) (he : err ≤ 9) (h : DT) (H : CX A n t k TT h) : ∃ g tl' h', cal X (d + 8) 156 [vP (some 0), vI (nI err)] (SK tx tu gu tl, h) = some (some (vP (some g)), (SK tx tu (some g) tl', h')) ∧ Late tu (some g) tl' ∧ CX A n t k TT h' ∧ prA h' g (fL (fit (rulH (A 2) TT) A n err q) (100 * n) 0) ∧ smX (isGg g) h h' := by
  have htp := rul_tp H.1.t
  rcases id hLt with ⟨rfl, rfl, rfl⟩ | ⟨rfl, rfl, rfl⟩ | ⟨rfl, rfl, rfl⟩ | ⟨rfl, rfl, rfl⟩ | ⟨rfl, rfl, rfl⟩
  · have L2 : Late none (some 95) (GuC 95) := Or.inr (Or.inr (Or.inl ⟨rfl, rfl, rfl⟩))
    have hg := L2.g
    have s5 : smX (fun c => 95 ≤ c ∧ c ≤ 97) h (zA (zA (sF (zF h 95) 95 0 0) 96) 97) := smX.tr (smX.tr (smX.tr (smX_zF (by omega)) (smX_sF (by omega))) (smX_zA (by omega))) (smX_zA (by omega))
    have s0 : smX (isGg 95) h (zA (zA (sF (zF h 95) 95 0 0) 96) 97) := s5.mo fun c hc => by unfold isGg; omega
    have H0 := H.cg (s0.mo fun c => isGg_G (by omega)) (fun k hk => by rw [smA s5 (n := 41) (by omega)]; exact H.2.2.2.2 k hk)
    obtain ⟨h', k1, k2, k3, k4⟩ := x_gather X d tx none (some 95) (GuC 95) hg htp hQ he _ H0
    refine ⟨95, GuC 95, h', ?_, L2, k2, k3, s0.tr k4⟩
    rw [c_X10_gatherPairsn, e_X10_gatherPairsn_0, c_X0_initn, e_X0_initn_0, bV_s]
    show m_X10_gatherPairs X (d + 7) 999999 19 _ _ (SK tx none none (GuC 95), _) = _
    rw [e_X10_gatherPairs_19 (hg := hg), x_ruling X (d + 4) tx none (some 95) (GuC 95) _ H0.1.t H0.2.2.1, bP_s, e_X10_gatherPairsp_38 (hg := hg) (htp := htp), k1, bV_s, e_X10_gatherPairss_42 (hg := hg)]
  · have L2 : Late (some 95) (some 100) (TuC 95 ++ GuC 100) := Or.inr (Or.inr (Or.inr (Or.inl ⟨rfl, rfl, rfl⟩)))
    have hg := L2.g
    have s5 : smX (fun c => 100 ≤ c ∧ c ≤ 102) h (zA (zA (sF (zF h 100) 100 0 0) 101) 102) := smX.tr (smX.tr (smX.tr (smX_zF (by omega)) (smX_sF (by omega))) (smX_zA (by omega))) (smX_zA (by omega))
    have s0 : smX (isGg 100) h (zA (zA (sF (zF h 100) 100 0 0) 101) 102) := s5.mo fun c hc => by unfold isGg; omega
    have H0 := H.cg (s0.mo fun c => isGg_G (by omega)) (fun k hk => by rw [smA s5 (n := 41) (by omega)]; exact H.2.2.2.2 k hk)
    obtain ⟨h', k1, k2, k3, k4⟩ := x_gather X d tx (some 95) (some 100) (TuC 95 ++ GuC 100) hg htp hQ he _ H0
    refine ⟨100, TuC 95 ++ GuC 100, h', ?_, L2, k2, k3, s0.tr k4⟩
    show cal X (d + 8) 156 [vP (some 0), vI (nI err)] (SK tx (some 95) none [cO 9 [none, some 96, some 97, some 98, some 99], cN 0 5, cN 0 600, cN 0 600, cN 0 3840], h) = _
    rw [c_X10_gatherPairsm, e_X10_gatherPairsm_0, c_X0_initm, e_X0_initm_0, bV_s]
    show m_X10_gatherPairs X (d + 7) 999999 19 _ _ (SK tx (some 95) none (TuC 95 ++ GuC 100), _) = _
    rw [e_X10_gatherPairs_19 (hg := hg), x_ruling X (d + 4) tx (some 95) (some 100) (TuC 95 ++ GuC 100) _ H0.1.t H0.2.2.1, bP_s, e_X10_gatherPairsp_38 (hg := hg) (htp := htp), k1, bV_s, e_X10_gatherPairss_42 (hg := hg)]
  all_goals
    have hg := hLt.g
    obtain ⟨h', k1, k2, k3, k4⟩ := x_gather X d tx _ _ _ hg htp hQ he h H
    refine ⟨_, _, h', ?_, hLt, k2, k3, k4⟩
    rw [c_X10_gatherPairss, e_X10_gatherPairss_0 (hg := hg), x_ruling X (d + 4) tx _ _ _ _ H.1.t H.2.2.1, bP_s, e_X10_gatherPairsp_38 (hg := hg) (htp := htp), k1, bV_s, e_X10_gatherPairss_42 (hg := hg)]
theorem Rel.gk {h h1 h2 : DT} {n t k n' t' k' L g : Nat} {TT : Nat → TXT} (hA : RA h (gA h 73) n t k) (hI : IM h n' t' k') (ht : t' ≤ t) (hP : TP h L) (hF : FT h) (hL : LR h t TT) (hg : 95 ≤ g) (s1 : smX (isGg g) h h1) (n1 : NmA h1 41) (s2 : smX isH h1 h2) (n2 : NmA h2 78) : Rel h2 := by
  have eF : ∀ c, c < 95 → c ≠ 40 → c ≠ 41 → c ≠ 42 → c ≠ 78 → c ≠ 79 → c ≠ 80 → c ≠ 91 → gF h2 c = gF h c ∧ gA h2 c = gA h c := fun c a1 a2 a3 a4 a5 a6 a7 a8 => ⟨(smF s2 (by unfold isH; omega)).trans (smF s1 (by unfold isGg; omega)), (smA s2 (by unfold isH; omega)).trans (smA s1 (by unfold isGg; omega))⟩
  have e38 := (eF 38 (by omega) (by omega) (by omega) (by omega) (by omega) (by omega) (by omega) (by omega)).1
  have e39 := (eF 39 (by omega) (by omega) (by omega) (by omega) (by omega) (by omega) (by omega) (by omega)).2
  have e72 := (eF 72 (by omega) (by omega) (by omega) (by omega) (by omega) (by omega) (by omega) (by omega)).1
  have e76 := (eF 76 (by omega) (by omega) (by omega) (by omega) (by omega) (by omega) (by omega) (by omega)).2
  refine ⟨n, t, k, n', t', k', L, TT, ?_, hI.cg (fun c _ _ => eF c (by omega) (by omega) (by omega) (by omega) (by omega) (by omega) (by omega) (by omega)) (eF 74 (by omega) (by omega) (by omega) (by omega) (by omega) (by omega) (by omega) (by omega)).2, ht, ?_, ?_, fun j hj => ?_, fun z hz => ?_, n2, ?_⟩
  · rw [(eF 73 (by omega) (by omega) (by omega) (by omega) (by omega) (by omega) (by omega) (by omega)).2]
    exact ⟨hA.1, XA.cg hA.2 fun c _ _ => eF c (by omega) (by omega) (by omega) (by omega) (by omega) (by omega) (by omega) (by omega)⟩
  · unfold TP
    rw [e38, e39, e72, e76]
    exact hP
  · unfold FT
    rw [e38, e72]
    exact hF
  · exact (hL.1 j hj).cg (by have := hA.1.t.2.1; omega) ⟨(eF 75 (by omega) (by omega) (by omega) (by omega) (by omega) (by omega) (by omega) (by omega)).2, fun c _ _ => eF c (by omega) (by omega) (by omega) (by omega) (by omega) (by omega) (by omega) (by omega)⟩
  · rw [smA s2 (by unfold isH; omega)]
    exact n1 z hz
  · rw [e72]
    exact hL.2.2.2
/-- a call of both that may make Guess -/
def OpG (X : XS) (tx tu gu : Option Nat) (tl : List SC) (h : DT) (yx : Nat) (ax : List AV) (ym : Nat) (am : List AV) : Prop :=
  ∃ v gu' tl' h1 h2, cal X 100 yx ax (SK tx tu gu tl, h) = some (some v, (SK tx tu gu' tl', h1)) ∧ cal X 100 ym am (SK tx tu gu' tl', h1) = some (some v, (SK tx tu gu' tl', h2)) ∧ Late tu gu' tl' ∧ Rel h2 ∧ ∀ b, tu = some b → ∀ c, b ≤ c → c ≤ b + 4 → gF h2 c = gF h c ∧ gA h2 c = gA h c
theorem OpG_id {h : DT} {yx : Nat} {ax : List AV} {ym : Nat} {am : List AV} {v : AV} (hLt : Late tu gu tl) (H : Rel h) (e1 : cal X 100 yx ax (SK tx tu gu tl, h) = some (some v, (SK tx tu gu tl, h))) (e2 : cal X 100 ym am (SK tx tu gu tl, h) = some (some v, (SK tx tu gu tl, h))) : OpG X tx tu gu tl h yx ax ym am :=
  ⟨v, gu, tl, h, h, e1, e2, hLt, H, fun _ _ _ _ _ => ⟨rfl, rfl⟩⟩
theorem g_keep {tu : Option Nat} {g : Nat} {tl : List SC} {h h1 h2 : DT} (hLt : Late tu (some g) tl) (s1 : smX (isGg g) h h1) (s2 : smX isH h1 h2) : ∀ b, tu = some b → ∀ c, b ≤ c → c ≤ b + 4 → gF h2 c = gF h c ∧ gA h2 c = gA h c := fun b hb c h1 h2 => by
  subst hb
  obtain ⟨z1, z2, z3⟩ := hLt.d
  have := z3 c h1 h2
  exact ⟨(smF s2 (by unfold isH; omega)).trans (smF s1 (by unfold isGg; omega)), (smA s2 (by unfold isH; omega)).trans (smA s1 (by unfold isGg; omega))⟩
theorem CX_of {h : DT} {n t k : Nat} {TT : Nat → TXT} (hA : RA h (gA h 73) n t k) (hL : LR h t TT) : CX (gA h 73) n t k TT h := ⟨hA.1, hA.2.1, hA.2.2.2, hL.1, hL.2.1⟩
theorem KX_of {h h1 : DT} {n t k g : Nat} {TT : Nat → TXT} (hg : 95 ≤ g) (hA : RA h (gA h 73) n t k) (hL : LR h t TT) (s : smX (isGg g) h h1) : KX (gA h 73) n t k TT h1 := ⟨hA.1, smA s (by unfold isGg; omega), fun j hj => (hL.1 j hj).cg (by have := hA.1.t.2.1; omega) ⟨smA s (by unfold isGg; omega), fun c _ _ => ⟨smF s (by unfold isGg; omega), smA s (by unfold isGg; omega)⟩⟩, fun z hz => by rw [smA s (by unfold isGg; omega)]; exact hL.2.2.1 z hz⟩
theorem op_meant (hLt : Late tu gu tl) (h : DT) (H : Rel h) (x1 x2 : Int32) : OpG X tx tu gu tl h 129 [vP (some 0), vI x1, vI x2] 280 [vP (some 72), vI x1, vI x2] := by
  obtain ⟨n, t, k, n', t', k', L, TT, hA, hI, ht, hP, hF, hL⟩ := id H
  obtain ⟨q, hQ⟩ := hA.1.2.2.2.2.2.1
  have hn := hA.1.1.2.1
  rcases rg_cs x1 0 9 (by omega) with ⟨err, _, he, rfl, hd⟩ | hd
  · replace hd : (decide ((0 : Int32) ≤ nI err) && decide (nI err ≤ 9)) = true := hd
    obtain ⟨g, tl', h1, e1, e2, e3, e4, e5⟩ := x_gp X 91 tx tu gu tl hLt hQ he h (CX_of hA hL)
    have hg := e2.g
    have g95 := hg.g95
    have K1 := KX_of g95 hA hL e5
    have st : cal X 100 129 [vP (some 0), vI (nI err), vI x2] (SK tx tu gu tl, h) = m_X10_meant X 99 999998 17 [(2, vI x2)] [vP (some g)] (SK tx tu (some g) tl', h1) := by
      rw [c_X10_meantz, e_X10_meantz_0, x_within, hd, bz_t, bI_s, e_X10_meantz_7, if_neg one0, e1, bP_s]
    have fin : ∀ (wh : Bool), x2 = bzB wh → OpG X tx tu gu tl h 129 [vP (some 0), vI (nI err), vI x2] 280 [vP (some 72), vI (nI err), vI x2] := fun wh hx => by
      obtain ⟨h2, j1, j2, j3⟩ := k_meant0 X 91 tx tu (some g) tl' (wh := wh) hQ he h1 K1
      refine ⟨vI (mnI wh 0 (fL (fit (rulH (gA h 73 2) TT) (gA h 73) n err q) (100 * n) 0)), some g, tl', h1, h2, ?_, ?_, e2, Rel.gk hA hI ht hP hF hL g95 e5 e3.2.2.2.2 (j2.mo fun c => isK3_H) j1.2.2.2, g_keep e2 e5 (j2.mo fun c => isK3_H)⟩
      · rw [st, e_X10_meants_17 (hg := hg), hx]
        have ll := fL_len (fit (rulH (gA h 73 2) TT) (gA h 73) n err q) (100 * n) 0
        revert e4 ll
        generalize fL (fit (rulH (gA h 73 2) TT) (gA h 73) n err q) (100 * n) 0 = l
        intro e4 ll
        unfold mnI
        cases wh with
        | false =>
          rw [bz_f, if_pos rfl, e4.1, cond_false, Nat.zero_add]
        | true =>
          rw [bz_t, if_neg one0, if_pos rfl, e4.1, cond_true]
          cases l with
          | nil => rw [if_pos (by rfl), if_pos rfl]
          | cons p r =>
            rw [List.length_cons] at ll ⊢
            rw [if_neg (show ¬ nI (r.length + 1) = 0 from fun z => by have := (nI_eq (a := r.length + 1) (b := 0) (by omega) (by omega)).mp z; omega), if_neg (by simp), e4.2 0 (by simp)]
            rfl
      · rw [hx]
        exact j3
    by_cases z0 : x2 = 0
    · exact fin false z0
    · by_cases z1 : x2 = 1
      · exact fin true z1
      · have d2 : (decide ((0 : Int32) ≤ x2) && decide (x2 ≤ 1)) = false := by
          refine in_decf fun ⟨a, b⟩ => ?_
          obtain ⟨j, j1, j2⟩ := in_nI (m := 1) a b (by omega)
          obtain rfl | rfl : j = 0 ∨ j = 1 := by omega
          · exact z0 j2
          · exact z1 j2
        refine ⟨vI (-1), some g, tl', h1, h1, ?_, ?_, e2, Rel.gk hA hI ht hP hF hL g95 e5 e3.2.2.2.2 (smX.rf _ h1) K1.2.2.2, g_keep e2 e5 (smX.rf _ h1)⟩
        · rw [st, e_X10_meants_17 (hg := hg), if_neg z0, if_neg z1]
        · rw [c_X11_meant, e_X11_meant_0, k_isIn X 98 tx tu (some g) tl', hd, bz_t, bI_s, if_neg one0, k_isIn X 98 tx tu (some g) tl', d2, bz_f, bI_s, if_pos rfl]
  · replace hd : (decide ((0 : Int32) ≤ x1) && decide (x1 ≤ 9)) = false := hd
    refine OpG_id X tx tu gu tl (v := vI (-1)) hLt H ?_ ?_
    · rw [c_X10_meantz, e_X10_meantz_0, x_within, hd, bz_f, bI_s, e_X10_meantz_7, if_pos rfl]
    · rw [c_X11_meant, e_X11_meant_0, k_isIn X 98 tx tu gu tl, hd, bz_f, bI_s, if_pos rfl]
theorem mlS_b (fx : Nat → Nat) : ∀ (l : List Nat) (N : Nat → Nat) (m M : Nat), (∀ i, N i ≤ M) → m ≤ M → (mlS fx l (N, m)).2 ≤ M + l.length
  | [], N, m, M, h1, h2 => by show m ≤ M + 0; omega
  | p :: l, N, m, M, h1, h2 => by
    have := mlS_b fx l (upN N (fx p) (N (fx p) + 1)) (if m < N (fx p) + 1 then N (fx p) + 1 else m) (M + 1) (fun i => by
      unfold upN
      have := h1 i
      have := h1 (fx p)
      split <;> omega) (by have := h1 (fx p); split <;> omega)
    rw [List.length_cons]
    show (mlS fx l (upN N (fx p) (N (fx p) + 1), if m < N (fx p) + 1 then N (fx p) + 1 else m)).2 ≤ _
    omega
theorem x_llp {A : Nat → Int32} {n t k g : Nat} {TT : Nat → TXT} (hg : GuA g tl) {l : List Nat} (hl : l.length ≤ 500) (hln : ∀ p ∈ l, p < 100 * n) (V : Nat → Nat) (hV : ∀ p, p < n → (mlS (fxN (rulH (A 2) TT) A n p) l (fun _ => 0, 0)).2 = V p) (hVb : ∀ p, V p ≤ 500) : ∀ (c p few fewx : Nat) (best : Int32) (h : DT), p + c = n → ((best = -1 ∧ few = 1000000) ∨ (best ≠ -1 ∧ fewx = few)) → few ≤ 1000000 → CX A n t k TT h → prA h g l → ∃ h', (∀ f, 2 * c + 1 ≤ f → m_X10_listen X (d + 8) f 36 [(0, vP (some 0)), (2, vP (some g)), (3, vI best), (4, vI (nI fewx)), (5, vI (nI p))] [] (SK tx tu (some g) tl, h) = some (some (vI (lsI V c p best few)), (SK tx tu (some g) tl, h'))) ∧ CX A n t k TT h' ∧ smX (isGg g) h h'
  | 0, p, few, fewx, best, h, hp, hb, hf0, H, hP => by
    have hn := H.1.1.2.1
    refine ⟨h, fun f hf => ?_, H, smX.rf _ h⟩
    obtain ⟨f, rfl⟩ : ∃ g, f = g + 1 := ⟨f - 1, by omega⟩
    rw [e_X10_listens_36 (hg := hg), H.2.1.1, H.1.1.1, if_pos (nI_le (by omega) (by omega))]
    rfl
  | c + 1, p, few, fewx, best, h, hp, hb, hf0, H, hP => by
    have hn := H.1.1.2.1
    have htp := rul_tp H.1.t
    obtain ⟨h1, e1, e2, e3, e4⟩ := x_mostLeft X (d + 1) tx tu (some g) tl hg htp (ear := p) (by omega) hl hln h H hP
    rw [hV p (by omega)] at e1
    have vb := hVb p
    have np : nI p ≠ -1 := nI_n1 (by omega)
    have st : ∀ f, m_X10_listen X (d + 8) (f + 2) 36 [(0, vP (some 0)), (2, vP (some g)), (3, vI best), (4, vI (nI fewx)), (5, vI (nI p))] [] (SK tx tu (some g) tl, h) = if best = (-1) then m_X10_listen X (d + 8) f 36 [(0, vP (some 0)), (2, vP (some g)), (3, vI (nI p)), (4, vI (nI (V p))), (5, vI (nI (p + 1)))] [] (SK tx tu (some g) tl, h1) else if nI fewx ≤ nI (V p) then m_X10_listen X (d + 8) f 36 [(0, vP (some 0)), (2, vP (some g)), (3, vI best), (4, vI (nI fewx)), (5, vI (nI (p + 1)))] [] (SK tx tu (some g) tl, h1) else m_X10_listen X (d + 8) f 36 [(0, vP (some 0)), (2, vP (some g)), (3, vI (nI p)), (4, vI (nI (V p))), (5, vI (nI (p + 1)))] [] (SK tx tu (some g) tl, h1) := fun f => by
      rw [e_X10_listens_36 (hg := hg), H.2.1.1, H.1.1.1, if_neg (nI_ge (by omega) (by omega)), x_ruling X (d + 5) tx tu (some g) tl _ H.1.t H.2.2.1, bP_s, e_X10_listens_59 (hg := hg) (htp := htp), e1, bI_s, nI_1]
    unfold lsI
    by_cases y : V p < few
    · obtain ⟨h2, k1, k2, k3⟩ := x_llp hg hl hln V hV hVb c (p + 1) (V p) (V p) (nI p) h1 (by omega) (Or.inr ⟨np, rfl⟩) (by omega) e2 e3
      refine ⟨h2, fun f hf => ?_, k2, e4.tr k3⟩
      obtain ⟨f, rfl⟩ : ∃ g, f = g + 2 := ⟨f - 2, by omega⟩
      rw [st, if_pos y]
      rcases hb with ⟨b1, b2⟩ | ⟨b1, b2⟩
      · rw [if_pos b1]
        exact k1 f (by omega)
      · rw [if_neg b1, if_neg (nI_ge (by omega) (by omega))]
        exact k1 f (by omega)
    · rcases hb with ⟨b1, b2⟩ | ⟨b1, b2⟩
      · omega
      · obtain ⟨h2, k1, k2, k3⟩ := x_llp hg hl hln V hV hVb c (p + 1) few fewx best h1 (by omega) (Or.inr ⟨b1, b2⟩) hf0 e2 e3
        refine ⟨h2, fun f hf => ?_, k2, e4.tr k3⟩
        obtain ⟨f, rfl⟩ : ∃ g, f = g + 2 := ⟨f - 2, by omega⟩
        rw [st, if_neg y, if_neg b1, if_pos (nI_le (by omega) (by omega))]
        exact k1 f (by omega)
theorem op_listen (hLt : Late tu gu tl) (h : DT) (H : Rel h) (x1 : Int32) : OpG X tx tu gu tl h 130 [vP (some 0), vI x1] 282 [vP (some 72), vI x1] := by
  obtain ⟨n, t, k, n', t', k', L, TT, hA, hI, ht, hP, hF, hL⟩ := id H
  obtain ⟨q, hQ⟩ := hA.1.2.2.2.2.2.1
  have hn := hA.1.1.2.1
  rcases rg_cs x1 0 9 (by omega) with ⟨err, _, he, rfl, hd⟩ | hd
  · replace hd : (decide ((0 : Int32) ≤ nI err) && decide (nI err ≤ 9)) = true := hd
    obtain ⟨g, tl', h1, e1, e2, e3, e4, e5⟩ := x_gp X 91 tx tu gu tl hLt hQ he h (CX_of hA hL)
    have hg := e2.g
    have g95 := hg.g95
    have ll := fL_len (fit (rulH (gA h 73 2) TT) (gA h 73) n err q) (100 * n) 0
    have lm : ∀ p ∈ fL (fit (rulH (gA h 73 2) TT) (gA h 73) n err q) (100 * n) 0, p < 100 * n := fun p hp => by have := fL_mem _ _ _ _ hp; omega
    have st : cal X 100 130 [vP (some 0), vI (nI err)] (SK tx tu gu tl, h) = m_X10_listen X 99 999998 17 [(0, vP (some 0))] [vP (some g)] (SK tx tu (some g) tl', h1) := by
      rw [c_X10_listenz, e_X10_listenz_0, x_within, hd, bz_t, bI_s, e_X10_listenz_7, if_neg one0, e1, bP_s]
    by_cases g2 : 2 ≤ (fL (fit (rulH (gA h 73 2) TT) (gA h 73) n err q) (100 * n) 0).length
    · have vb : ∀ p, (mlS (fxN (rulH (gA h 73 2) TT) (gA h 73) n p) (fL (fit (rulH (gA h 73 2) TT) (gA h 73) n err q) (100 * n) 0) (fun _ => 0, 0)).2 ≤ 500 := fun p => by
        have := mlS_b (fxN (rulH (gA h 73 2) TT) (gA h 73) n p) (fL (fit (rulH (gA h 73 2) TT) (gA h 73) n err q) (100 * n) 0) (fun _ => 0) 0 0 (fun _ => Nat.le_refl _) (Nat.le_refl _)
        omega
      obtain ⟨h2, x1', x2', x3'⟩ := x_llp X 91 tx tu tl' hg (l := fL (fit (rulH (gA h 73 2) TT) (gA h 73) n err q) (100 * n) 0) (by omega) lm _ (fun p _ => rfl) vb n 0 1000000 0 (-1) h1 (by omega) (Or.inl ⟨rfl, rfl⟩) (Nat.le_refl _) e3 e4
      have s2 := e5.tr x3'
      have K2 := KX_of g95 hA hL s2
      obtain ⟨h3, j1, j2, j3⟩ := k_meant0 X 90 tx tu (some g) tl' (wh := false) hQ he h2 K2
      obtain ⟨h4, y1, y2, y3⟩ := k_llp X 90 tx tu (some g) tl' hQ he _ (fun p _ => rfl) vb n 0 1000000 (-1) h3 (by omega) (Nat.le_refl _) j1
      have s4 : smX isH h2 h4 := (j2.mo fun c => isK3_H).tr y3
      refine ⟨vI (lsI (fun p => (mlS (fxN (rulH (gA h 73 2) TT) (gA h 73) n p) (fL (fit (rulH (gA h 73 2) TT) (gA h 73) n err q) (100 * n) 0) (fun _ => 0, 0)).2) n 0 (-1) 1000000), some g, tl', h2, h4, ?_, ?_, e2, Rel.gk hA hI ht hP hF hL g95 s2 x2'.2.2.2.2 s4 y2.2.2.2, g_keep e2 s2 s4⟩
      · rw [st, e_X10_listens_17 (hg := hg), e4.1, if_pos (show (2 : Int32) ≤ nI (fL (fit (rulH (gA h 73 2) TT) (gA h 73) n err q) (100 * n) 0).length from nI_le (a := 2) g2 (by omega))]
        exact x1' 999997 (by omega)
      · rw [c_X11_listen, e_X11_listen_0, k_isIn X 98 tx tu (some g) tl', hd, bz_t, bI_s, e_X11_listen_7, if_neg one0, show cal X 99 280 [vP (some 72), vI (nI err), vI 0] (SK tx tu (some g) tl', h2) = _ from j3, bI_s]
        have em : mnI false 0 (fL (fit (rulH (gA h 73 2) TT) (gA h 73) n err q) (100 * n) 0) = nI (fL (fit (rulH (gA h 73 2) TT) (gA h 73) n err q) (100 * n) 0).length := by
          unfold mnI
          rw [cond_false, Nat.zero_add]
        rw [em, if_pos (show (2 : Int32) ≤ nI (fL (fit (rulH (gA h 73 2) TT) (gA h 73) n err q) (100 * n) 0).length from nI_le (a := 2) g2 (by omega))]
        exact y1 999998 (by omega)
    · have K1 := KX_of g95 hA hL e5
      obtain ⟨h3, j1, j2, j3⟩ := k_meant0 X 90 tx tu (some g) tl' (wh := false) hQ he h1 K1
      have s4 : smX isH h1 h3 := j2.mo fun c => isK3_H
      refine ⟨vI (-1), some g, tl', h1, h3, ?_, ?_, e2, Rel.gk hA hI ht hP hF hL g95 e5 e3.2.2.2.2 s4 j1.2.2.2, g_keep e2 e5 s4⟩
      · rw [st, e_X10_listens_17 (hg := hg), e4.1, if_neg (show ¬ (2 : Int32) ≤ nI (fL (fit (rulH (gA h 73 2) TT) (gA h 73) n err q) (100 * n) 0).length from nI_ge (b := 2) (by omega) (by omega))]
      · rw [c_X11_listen, e_X11_listen_0, k_isIn X 98 tx tu (some g) tl', hd, bz_t, bI_s, e_X11_listen_7, if_neg one0, show cal X 99 280 [vP (some 72), vI (nI err), vI 0] (SK tx tu (some g) tl', h1) = _ from j3, bI_s]
        have em : mnI false 0 (fL (fit (rulH (gA h 73 2) TT) (gA h 73) n err q) (100 * n) 0) = nI (fL (fit (rulH (gA h 73 2) TT) (gA h 73) n err q) (100 * n) 0).length := by
          unfold mnI
          rw [cond_false, Nat.zero_add]
        rw [em, if_neg (show ¬ (2 : Int32) ≤ nI (fL (fit (rulH (gA h 73 2) TT) (gA h 73) n err q) (100 * n) 0).length from nI_ge (b := 2) (by omega) (by omega))]
  · replace hd : (decide ((0 : Int32) ≤ x1) && decide (x1 ≤ 9)) = false := hd
    refine OpG_id X tx tu gu tl (v := vI (-1)) hLt H ?_ ?_
    · rw [c_X10_listenz, e_X10_listenz_0, x_within, hd, bz_f, bI_s, e_X10_listenz_7, if_pos rfl]
    · rw [c_X11_listen, e_X11_listen_0, k_isIn X 98 tx tu gu tl, hd, bz_f, bI_s, e_X11_listen_7, if_pos rfl]
end MA
