/-! THE REFERENCE READS a text -/
theorem KTx.cg {h h' : DT} {j n0 : Nat} {T : TXT} (H : KTx h j T n0) (e12 : gF h' 72 12 = gF h 72 12) (e13 : gF h' 72 13 = gF h 72 13) (e19 : gF h' 72 19 = gF h 72 19) (e75 : gA h' 75 = gA h 75) : KTx h' j T n0 := by
  obtain ⟨x1, x2, x3, x4, x5, x6, x7, x8, x9⟩ := H
  have lc : ∀ lw o, KLw h j n0 lw T.1 o → KLw h' j n0 lw T.1 o := fun lw o HH => by
    cases o with
    | none => exact HH
    | some e =>
      obtain ⟨k, w0, w1, k1, k2, k3, k4, k5, k6, k7, k8⟩ := HH
      exact ⟨k, w0, w1, k1, k2, k3, by rw [e75]; exact k4, by rw [e75]; exact k5, k6, k7, cdA_cg e75 _ e w0 k8⟩
  refine ⟨x1, e12.trans x2, e13.trans x3, e19.trans x4, by rw [e75]; exact x5, fun i hi => ?_, lc 0 _ x7, lc 1 _ x8, x9⟩
  unfold KCla
  rw [e75]
  exact x6 i hi
section KX
variable (X : XS) (d : Nat) (tx tu gu : Option Nat) (tl : List SC)
theorem k_clause {B : Nat → Nat} {L i j n0 : Nat} {T : TXT} (hj : j < 4) (hL : L ≤ 300) (h : DT) (H : KT h B L i) (hX : KTx h j T n0) (hn : n0 ≤ i) : KCO tx tu gu tl B L j (cal X (d + 11) 212 [vP (some 72)] (SK tx tu gu tl, h)) h (clP (tkn B L) i T) := by
  obtain ⟨x1, x2, x3, x4, x5, x6, x7, x8, x9⟩ := id hX
  obtain ⟨k9, k2⟩ := kdT_9 (tkn B L) i
  obtain ⟨o1, o2, o3⟩ := onc_4 T
  rw [c_X11_clause, e_X11_clause_0, k_sortOf X (d + 4) tx tu gu tl h H, bI_s, e_X11_clause_4]
  unfold clP
  revert k9 k2
  generalize kdT (tkn B L) i = k
  intro k9 k2
  by_cases g0 : k = 0
  · rw [if_pos g0, if_neg (by decide), if_pos g0]
    exact ⟨by show 1 ≤ 1; omega, by show 1 ≤ 6; omega, h, rfl, H.2.1, kG.rf j h⟩
  have hiL : i < L := tkn_i (by rw [k2 g0]; decide)
  rw [if_neg g0, if_pos (z0le (by omega)), if_neg g0]
  have e24 : (nI T.1.length = 24) = (24 ≤ T.1.length) := propext ((nI_eq (a := T.1.length) (b := 24) (by omega) (by omega)).trans (by omega))
  have ek : (1 < nI (k - 1)) = (1 < k - 1) := propext (nI_ltI (a := 1) (b := k - 1) (by omega) (by omega))
  by_cases g3 : 3 ≤ k
  · rw [if_pos (ek.mpr (by omega)), if_neg (show ¬ ((k = 1 ∧ T.2.1.isSome = true) ∨ (k = 2 ∧ T.2.2.isSome = true)) by omega), e_X11_clause_29, x2, inbI (by omega) (by omega), x5]
    by_cases g : 24 ≤ T.1.length
    · rw [if_pos (e24.mpr g), if_pos g]
      exact ⟨by show 1 ≤ 6; omega, by show 6 ≤ 6; omega, h, rfl, H.2.1, kG.rf j h⟩
    rw [if_neg (fun z => g (e24.mp z)), if_neg g, if_pos (ek.mpr (by omega)), if_neg (show ¬ k = 1 by omega), if_neg (show ¬ k = 2 by omega)]
    generalize hg : sF h 72 14 (nI (k - 1)) = h1
    have s1 : smX (fun c => c = 72) h h1 := by rw [← hg]; exact smX_sF rfl
    have f1 : ∀ z, z ≠ 14 → gF h1 72 z = gF h 72 z := fun z hz => by rw [← hg, gF_sF, if_neg (fun y => hz y.2)]
    have T1 : KT h1 B L i := H.cg (fun z hz => f1 z (by omega)) (smA s1 (by omega)) (by rw [← hg]; rfl)
    obtain ⟨h2, m1, m2, m3, m4⟩ := k_nxt X (d + 8) tx tu gu tl h1 T1.1
    rw [m1, bV_s]
    exact KCO.pre (h1 := h2) (k_deed X (d + 4) tx tu gu tl (f := 999995) hj g3 k9 (by omega) h2 m2 (hX.cg ((m3 12 (by omega)).trans (f1 12 (by omega))) ((m3 13 (by omega)).trans (f1 13 (by omega))) ((m3 19 (by omega)).trans (f1 19 (by omega))) ((smA m4 (by omega)).trans (smA s1 (by omega)))) (by omega)) ((kG_72 s1 (fun z hz => f1 z (by omega))).tr (kG_72 m4 (fun z hz => m3 z (by omega))))
  · have hk : k - 1 < 2 := by omega
    have tb : Nat.testBit (onc T) (k - 1) = (ofT T (k - 1)).isSome := by
      unfold ofT
      rcases (show k = 1 ∨ k = 2 by omega) with rfl | rfl
      · exact o2
      · exact o3
    have cnd : ((k = 1 ∧ T.2.1.isSome = true) ∨ (k = 2 ∧ T.2.2.isSome = true)) = ((ofT T (k - 1)).isSome = true) := by
      unfold ofT
      rcases (show k = 1 ∨ k = 2 by omega) with rfl | rfl
      · rw [if_pos rfl]
        exact propext ⟨fun z => by rcases z with z | z <;> simp_all, fun z => Or.inl ⟨rfl, z⟩⟩
      · rw [if_neg (by decide)]
        exact propext ⟨fun z => by rcases z with z | z <;> simp_all, fun z => Or.inr ⟨rfl, z⟩⟩
    rw [if_neg (fun z => by have := ek.mp z; omega), x4, k_hasb X (d + 9) tx tu gu tl h (by omega) (by omega), bI_s, e_X11_clause_24, tb]
    cases hO : ofT T (k - 1) with
    | some e =>
      rw [hO] at cnd
      rw [show (some e).isSome = true from rfl, bz_t, if_neg one0, if_pos (cnd.mpr rfl)]
      exact ⟨by show 1 ≤ 4; omega, by show 4 ≤ 6; omega, h, rfl, H.2.1, kG.rf j h⟩
    | none =>
      rw [hO] at cnd tb
      rw [show (none : Option Cd).isSome = false from rfl, bz_f, if_pos rfl, if_neg (fun z => by have := cnd.mp z; cases this), e_X11_clause_29, x2, inbI (by omega) (by omega), x5]
      by_cases g : 24 ≤ T.1.length
      · rw [if_pos (e24.mpr g), if_pos g]
        exact ⟨by show 1 ≤ 6; omega, by show 6 ≤ 6; omega, h, rfl, H.2.1, kG.rf j h⟩
      have eo := onc_s (onc T) o1 (k - 1) hk tb
      rw [if_neg (fun z => g (e24.mp z)), if_neg g, if_neg (fun z => by have := ek.mp z; omega), x4, eo]
      generalize hg : sF (sF h 72 19 (nI (onc T + (k - 1 + 1)))) 72 14 (nI (k - 1)) = h1
      have s1 : smX (fun c => c = 72) h h1 := by rw [← hg]; exact smX.tr (smX_sF rfl) (smX_sF rfl)
      have f1 : ∀ z, z ≠ 14 → z ≠ 19 → gF h1 72 z = gF h 72 z := fun z h1 h2 => by rw [← hg, gF_sF, if_neg (fun y => h1 y.2), gF_sF, if_neg (fun y => h2 y.2)]
      have f14 : gF h1 72 14 = nI (k - 1) := by rw [← hg, gF_sF, if_pos ⟨rfl, rfl⟩]
      have f19 : gF h1 72 19 = nI (onc T + (k - 1 + 1)) := by rw [← hg, gF_sF, if_neg (by omega), gF_sF, if_pos ⟨rfl, rfl⟩]
      have T1 : KT h1 B L i := H.cg (fun z hz => f1 z (by omega) (by omega)) (smA s1 (by omega)) (by rw [← hg]; rfl)
      obtain ⟨h2, m1, m2, m3, m4⟩ := k_nxt X (d + 8) tx tu gu tl h1 T1.1
      have K := k_law X d tx tu gu tl (f := 999994) (lw := k - 1) (T := T) (n0 := n0) hj hL hk (by omega) hO (by omega) (by omega) h2 m2 (by rw [m3 14 (by omega)]; exact f14) (by rw [m3 19 (by omega)]; exact f19) (fun h' q1 q2 q3 => hX.cg (by rw [q2 12 (by omega), m3 12 (by omega), f1 12 (by omega) (by omega)]) (by rw [q2 13 (by omega), m3 13 (by omega), f1 13 (by omega) (by omega)]) (by rw [q1, x4]) (by rw [q3, smA m4 (by omega), smA s1 (by omega)])) (by omega)
      have K2 := K.pre ((kG_72 s1 (fun z hz => f1 z (by omega) (by omega))).tr (kG_72 m4 (fun z hz => m3 z (by omega))))
      rw [m1, bV_s]
      rcases (show k = 1 ∨ k = 2 by omega) with rfl | rfl
      · rw [if_pos rfl]
        exact K2
      · rw [if_neg (by decide), if_pos rfl]
        exact K2
theorem k_rlp {B : Nat → Nat} {L j : Nat} (hj : j < 4) (hL : L ≤ 300) : ∀ (k f : Nat) (h : DT) (i n0 : Nat) (T : TXT), T.1.length + k = 24 → k + 2 ≤ f → KT h B L i → KTx h j T n0 → n0 ≤ i → i ≤ L → KCO tx tu gu tl B L j (m_X11_readText X (d + 11) f 43 [(0, vP (some 72))] [] (SK tx tu gu tl, h)) h (txP (tkn B L) (k + 1) i T) := by
  intro k
  induction k with
  | zero =>
    intro f h i n0 T hk hf H hX hn hi
    obtain ⟨f, rfl⟩ : ∃ g, f = g + 1 := ⟨f - 1, by omega⟩
    obtain ⟨k', b1, b2, b3⟩ := H.2.2.1
    rw [e_X11_readText_43, b1]
    unfold txP
    by_cases g : (tkn B L i).1 = 0
    · rw [if_pos (show nI k' = 0 from (kK_n (m := 0) b2 b3 (by omega) (by omega) (by omega)).mpr g), if_pos g]
      exact ⟨h, n0, rfl, H, hX, hn, hi, kG.rf j h⟩
    · rw [if_neg (show ¬ nI k' = 0 from fun z => g ((kK_n (m := 0) b2 b3 (by omega) (by omega) (by omega)).mp z)), if_neg g]
      have hR := k_clause X d tx tu gu tl hj hL h H hX hn
      cases hr : clP (tkn B L) i T with
      | inl q =>
        rw [hr] at hR
        obtain ⟨a1, a2, h2, j1, j2⟩ := hR
        rw [j1, bI_s, if_neg (show ¬ nI q.1 = 0 from fun z => by have := (nI_eq (a := q.1) (b := 0) (by omega) (by omega)).mp z; omega)]
        exact ⟨a1, a2, h2, rfl, j2⟩
      | inr q => exact absurd (clP_len hr).2 (by omega)
  | succ k ih =>
    intro f h i n0 T hk hf H hX hn hi
    obtain ⟨f, rfl⟩ : ∃ g, f = g + 1 := ⟨f - 1, by omega⟩
    obtain ⟨k', b1, b2, b3⟩ := H.2.2.1
    rw [e_X11_readText_43, b1]
    unfold txP
    by_cases g : (tkn B L i).1 = 0
    · rw [if_pos (show nI k' = 0 from (kK_n (m := 0) b2 b3 (by omega) (by omega) (by omega)).mpr g), if_pos g]
      exact ⟨h, n0, rfl, H, hX, hn, hi, kG.rf j h⟩
    · rw [if_neg (show ¬ nI k' = 0 from fun z => g ((kK_n (m := 0) b2 b3 (by omega) (by omega) (by omega)).mp z)), if_neg g]
      have hR := k_clause X d tx tu gu tl hj hL h H hX hn
      cases hr : clP (tkn B L) i T with
      | inl q =>
        rw [hr] at hR
        obtain ⟨a1, a2, h2, j1, j2⟩ := hR
        rw [j1, bI_s, if_neg (show ¬ nI q.1 = 0 from fun z => by have := (nI_eq (a := q.1) (b := 0) (by omega) (by omega)).mp z; omega)]
        exact ⟨a1, a2, h2, rfl, j2⟩
      | inr q =>
        rw [hr] at hR
        obtain ⟨h2, n2, j1, j2, j3, j4, j5, j6⟩ := hR
        have hl := (clP_len hr).1
        rw [j1, bI_s, if_pos rfl]
        exact (ih f h2 q.1 n2 q.2 (by omega) (by omega) j2 j3 j4 j5).pre j6
theorem k_rtext {B : Nat → Nat} {L j : Nat} (hj : j < 4) (h : DT) (H : KB h B L) (h1 : gA h 73 1 = nI j) : KCO tx tu gu tl B L j (cal X (d + 12) 213 [vP (some 72)] (SK tx tu gu tl, h)) (sF h 72 12 (nI (681 * j))) (txP (tkn B L) 25 0 T0) := by
  have hL := H.2.1
  rw [c_X11_readText, e_X11_readText_0, h1, show (681 : Int32) = nI 681 from rfl, mulI, inbI (by omega) (by omega), sA_w]
  generalize hg : sF (sF (sF (wA (sF h 72 12 (nI (681 * j))) 75 (upd (gA (sF h 72 12 (nI (681 * j))) 75) (681 * j) 0)) 72 13 0) 72 19 0) 72 7 0 = h2
  have s2 : smX (fun c => c = 72 ∨ c = 75) (sF h 72 12 (nI (681 * j))) h2 := by rw [← hg]; exact smX.tr (smX.tr (smX.tr (smX_wA (Or.inr rfl)) (smX_sF (Or.inl rfl))) (smX_sF (Or.inl rfl))) (smX_sF (Or.inl rfl))
  have s0 : smX (fun c => c = 72) h (sF h 72 12 (nI (681 * j))) := smX_sF rfl
  have f2 : ∀ z, z ≠ 7 → z ≠ 13 → z ≠ 19 → gF h2 72 z = gF (sF h 72 12 (nI (681 * j))) 72 z := fun z h1 h2 h3 => by rw [← hg, gF_sF, if_neg (fun y => h1 y.2), gF_sF, if_neg (fun y => h3 y.2), gF_sF, if_neg (fun y => h2 y.2), gF_wA]
  have a2 : gA h2 75 = upd (gA h 75) (681 * j) 0 := by
    rw [← hg]
    show gA (wA _ 75 _) 75 = _
    rw [gA_wA']
    rfl
  have g2 : kG j (sF h 72 12 (nI (681 * j))) h2 := ⟨s2.mo (fun c hc => by omega), fun z hz => f2 z (by omega) (by omega) (by omega), fun x hx => by rw [a2, pk_un (by omega)]; rfl⟩
  have B2 : KB h2 B L := H.cg (by rw [f2 4 (by omega) (by omega) (by omega), gF_sF, if_neg (by omega)]) (by rw [smA s2 (by omega)]; rfl)
  obtain ⟨h3, m1, m2, m3, m4⟩ := k_nxt X (d + 9) tx tu gu tl h2 (i := 0) ⟨B2, by rw [← hg, gF_sF, if_pos ⟨rfl, rfl⟩]; rfl⟩
  have r12 : gF h3 72 12 = nI (681 * j) := by rw [m3 12 (by omega), f2 12 (by omega) (by omega) (by omega), gF_sF, if_pos ⟨rfl, rfl⟩]
  have r13 : gF h3 72 13 = nI 0 := by rw [m3 13 (by omega), ← hg, gF_sF, if_neg (by omega), gF_sF, if_neg (by omega), gF_sF, if_pos ⟨rfl, rfl⟩]; rfl
  have r19 : gF h3 72 19 = nI 0 := by rw [m3 19 (by omega), ← hg, gF_sF, if_neg (by omega), gF_sF, if_pos ⟨rfl, rfl⟩]; rfl
  have r75 : gA h3 75 = upd (gA h 75) (681 * j) 0 := by rw [smA m4 (by omega), a2]
  have X3 : KTx h3 j T0 0 := ⟨by decide, r12, r13, r19, by rw [r75, pk_us]; rfl, fun i hi => absurd hi (by simp [T0]), fun i hi => absurd hi (by simp [T0]), fun i hi => absurd hi (by simp [T0]), by omega⟩
  rw [m1, bV_s]
  exact (k_rlp X d tx tu gu tl hj hL 24 999999 h3 0 0 T0 rfl (by omega) m2 X3 (by omega) (by omega)).pre (g2.tr (kG_72 m4 (fun z hz => m3 z (by omega))))
end KX
