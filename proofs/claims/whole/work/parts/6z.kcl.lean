/-! THE REFERENCE'S READING: clauses, texts -/
def onc (T : TXT) : Nat := (if T.2.1.isSome = true then 1 else 0) + (if T.2.2.isSome = true then 2 else 0)
def KCla (h : DT) (j i : Nat) (q : Nat × Nat × Nat) : Prop := q.1 ≤ 8 ∧ gA h 75 (681 * j + 1 + 3 * i) = nI q.1 ∧ (2 ≤ q.1 → gA h 75 (681 * j + 1 + 3 * i + 1) = nI q.2.1 ∧ q.2.1 ≤ 60) ∧ (2 ≤ q.1 → q.1 ≤ 4 → gA h 75 (681 * j + 1 + 3 * i + 2) = nI q.2.2 ∧ q.2.2 ≤ 9)
def KLw (h : DT) (j n0 lw : Nat) (cl : List (Nat × Nat × Nat)) (o : Option Cd) : Prop := match o with
  | none => ∀ i, i < cl.length → srt cl i ≠ lw
  | some e => ∃ k w0 w1, k < cl.length ∧ srt cl k = lw ∧ (∀ i, i < k → srt cl i ≠ lw) ∧ gA h 75 (681 * j + 1 + 3 * k + 1) = nI w0 ∧ gA h 75 (681 * j + 1 + 3 * k + 2) = nI w1 ∧ w1 ≤ n0 ∧ w0 + e.length = w1 ∧ cdA h (681 * j + 73) w0 e
def KTx (h : DT) (j : Nat) (T : TXT) (n0 : Nat) : Prop := T.1.length ≤ 24 ∧ gF h 72 12 = nI (681 * j) ∧ gF h 72 13 = nI n0 ∧ gF h 72 19 = nI (onc T) ∧ gA h 75 (681 * j) = nI T.1.length ∧ (∀ i, i < T.1.length → KCla h j i (T.1.getD i (9, 0, 0))) ∧ KLw h j n0 0 T.1 T.2.1 ∧ KLw h j n0 1 T.1 T.2.2 ∧ n0 ≤ 304
def kG (j : Nat) (h h' : DT) : Prop := smX (fun c => c = 72 ∨ c = 75 ∨ c = 77) h h' ∧ (∀ z, z < 7 ∨ z = 12 ∨ 20 ≤ z → gF h' 72 z = gF h 72 z) ∧ ∀ x, x < 681 * j ∨ 681 * j + 681 ≤ x → gA h' 75 x = gA h 75 x
theorem kG.rf (j : Nat) (h : DT) : kG j h h := ⟨smX.rf _ h, fun _ _ => rfl, fun _ _ => rfl⟩
theorem kG.tr {j : Nat} {a b c : DT} (p : kG j a b) (q : kG j b c) : kG j a c := ⟨p.1.tr q.1, fun z hz => (q.2.1 z hz).trans (p.2.1 z hz), fun x hx => (q.2.2 x hx).trans (p.2.2 x hx)⟩
theorem kF.g {j n0 : Nat} {h h' : DT} (H : kF j n0 h h') : kG j h h' := ⟨H.1, fun z hz => H.2.1 z (by omega), fun x hx => H.2.2 x (by omega)⟩
theorem kG_72 {j : Nat} {h h' : DT} (s : smX (fun c => c = 72) h h') (e : ∀ z, z < 7 ∨ z = 12 ∨ 20 ≤ z → gF h' 72 z = gF h 72 z) : kG j h h' := ⟨s.mo (fun c hc => Or.inl hc), e, fun x _ => by rw [smA s (by omega)]⟩
def KCO (tx tu gu : Option Nat) (tl : List SC) (B : Nat → Nat) (L j : Nat) (cl : RR) (h : DT) (pr : CR) : Prop := match pr with
  | .inl q => 1 ≤ q.1 ∧ q.1 ≤ 6 ∧ ∃ h', cl = some (some (vI (nI q.1)), (SK tx tu gu tl, h')) ∧ gF h' 72 8 = nI (tkn B L q.2).2.2 ∧ kG j h h'
  | .inr q => ∃ h' n', cl = some (some (vI (0)), (SK tx tu gu tl, h')) ∧ KT h' B L q.1 ∧ KTx h' j q.2 n' ∧ n' ≤ q.1 ∧ q.1 ≤ L ∧ kG j h h'
theorem KCO.pre {tx tu gu : Option Nat} {tl : List SC} {B : Nat → Nat} {L j : Nat} {cl : RR} {h h1 : DT} {pr : CR} (H : KCO tx tu gu tl B L j cl h1 pr) (g : kG j h h1) : KCO tx tu gu tl B L j cl h pr := by
  cases pr with
  | inl q =>
    obtain ⟨a1, a2, h', b1, b2, b3⟩ := H
    exact ⟨a1, a2, h', b1, b2, g.tr b3⟩
  | inr q =>
    obtain ⟨h', n', b1, b2, b3, b4, b5, b6⟩ := H
    exact ⟨h', n', b1, b2, b3, b4, b5, g.tr b6⟩
theorem KLw.cg {h h' : DT} {j n0 n1 lw : Nat} {cl : List (Nat × Nat × Nat)} {o : Option Cd} {q : Nat × Nat × Nat} (H : KLw h j n0 lw cl o) (hq : o = none → q.1 ≠ lw) (hn : n0 ≤ n1) (h24 : cl.length < 24) (e1 : ∀ x, 681 * j + 1 ≤ x → x < 681 * j + 1 + 3 * cl.length → gA h' 75 x = gA h 75 x) (e2 : ∀ x, 681 * j + 73 ≤ x → x < 681 * j + 73 + 2 * n0 → gA h' 75 x = gA h 75 x) : KLw h' j n1 lw (cl ++ [q]) o := by
  cases o with
  | none =>
    intro i hi
    rw [List.length_append] at hi
    simp only [List.length_cons, List.length_nil] at hi
    unfold srt
    rw [getD_app]
    by_cases g : i < cl.length
    · rw [if_pos g]
      exact H i g
    · rw [if_neg g, if_pos (by omega)]
      exact hq rfl
  | some e =>
    obtain ⟨k, w0, w1, k1, k2, k3, k4, k5, k6, k7, k8⟩ := H
    have sr : ∀ i, i < cl.length → srt (cl ++ [q]) i = srt cl i := fun i hi => by
      unfold srt
      rw [getD_app, if_pos hi]
    refine ⟨k, w0, w1, by rw [List.length_append]; simp only [List.length_cons, List.length_nil]; omega, (sr k k1).trans k2, fun i hi => by rw [sr i (by omega)]; exact k3 i hi, by rw [e1 _ (by omega) (by omega)]; exact k4, by rw [e1 _ (by omega) (by omega)]; exact k5, by omega, k7, cdA_rg _ e w0 (fun x h1 h2 => e2 x (by omega) (by omega)) k8⟩
section KZ
variable (X : XS) (d : Nat) (tx tu gu : Option Nat) (tl : List SC)
theorem k_sortOf {B : Nat → Nat} {L i : Nat} (h : DT) (H : KT h B L i) : cal X (d + 6) 211 [vP (some 72)] (SK tx tu gu tl, h) = some (some (vI (if kdT (tkn B L) i = 0 then -1 else nI (kdT (tkn B L) i - 1))), (SK tx tu gu tl, h)) := by
  rw [c_X11_sortOf, e_X11_sortOf_0, kw0 X d tx tu gu tl, bL_s]
  rw [e_X11_sortOf_14, k_isW X (d + 4) tx tu gu tl (by omega) h H, bI_s]
  by_cases g0 : isW (tkn B L) i 0 = true
  · rw [g0, bz_t, if_neg one0, kdT_t g0 (by decide), if_neg (by decide)]
    rfl
  rw [Bool.eq_false_iff.mpr g0, bz_f, if_pos rfl, kw1 X d tx tu gu tl, bL_s]
  rw [e_X11_sortOf_36, k_isW X (d + 4) tx tu gu tl (by omega) h H, bI_s]
  by_cases g1 : isW (tkn B L) i 1 = true
  · rw [g1, bz_t, if_neg one0, kdT_t g1 (by decide), if_neg (by decide)]
    rfl
  rw [Bool.eq_false_iff.mpr g1, bz_f, if_pos rfl, kw2 X d tx tu gu tl, bL_s]
  rw [e_X11_sortOf_60, k_isW X (d + 4) tx tu gu tl (by omega) h H, bI_s]
  by_cases g2 : isW (tkn B L) i 2 = true
  · rw [g2, bz_t, if_neg one0, kdT_t g2 (by decide), if_neg (by decide)]
    rfl
  rw [Bool.eq_false_iff.mpr g2, bz_f, if_pos rfl, kw3 X d tx tu gu tl, bL_s]
  rw [e_X11_sortOf_80, k_isW X (d + 4) tx tu gu tl (by omega) h H, bI_s]
  by_cases g3 : isW (tkn B L) i 3 = true
  · rw [g3, bz_t, if_neg one0, kdT_t g3 (by decide), if_neg (by decide)]
    rfl
  rw [Bool.eq_false_iff.mpr g3, bz_f, if_pos rfl, kw4 X d tx tu gu tl, bL_s]
  rw [e_X11_sortOf_100, k_isW X (d + 4) tx tu gu tl (by omega) h H, bI_s]
  by_cases g4 : isW (tkn B L) i 4 = true
  · rw [g4, bz_t, if_neg one0, kdT_t g4 (by decide), if_neg (by decide)]
    rfl
  rw [Bool.eq_false_iff.mpr g4, bz_f, if_pos rfl, kw5 X d tx tu gu tl, bL_s]
  rw [e_X11_sortOf_120, k_isW X (d + 4) tx tu gu tl (by omega) h H, bI_s]
  by_cases g5 : isW (tkn B L) i 5 = true
  · rw [g5, bz_t, if_neg one0, kdT_t g5 (by decide), if_neg (by decide)]
    rfl
  rw [Bool.eq_false_iff.mpr g5, bz_f, if_pos rfl, kw6 X d tx tu gu tl, bL_s]
  rw [e_X11_sortOf_140, k_isW X (d + 4) tx tu gu tl (by omega) h H, bI_s]
  by_cases g6 : isW (tkn B L) i 6 = true
  · rw [g6, bz_t, if_neg one0, kdT_t g6 (by decide), if_neg (by decide)]
    rfl
  rw [Bool.eq_false_iff.mpr g6, bz_f, if_pos rfl, kw7 X d tx tu gu tl, bL_s]
  rw [e_X11_sortOf_161, k_isW X (d + 4) tx tu gu tl (by omega) h H, bI_s]
  by_cases g7 : isW (tkn B L) i 7 = true
  · rw [g7, bz_t, if_neg one0, kdT_t g7 (by decide), if_neg (by decide)]
    rfl
  rw [Bool.eq_false_iff.mpr g7, bz_f, if_pos rfl, kw8 X d tx tu gu tl, bL_s]
  rw [e_X11_sortOf_184, k_isW X (d + 4) tx tu gu tl (by omega) h H, bI_s]
  by_cases g8 : isW (tkn B L) i 8 = true
  · rw [g8, bz_t, if_neg one0, kdT_t g8 (by decide), if_neg (by decide)]
    rfl
  rw [Bool.eq_false_iff.mpr g8, bz_f, if_pos rfl, kdT_f (fun e h1 => by
    obtain rfl | rfl | rfl | rfl | rfl | rfl | rfl | rfl | rfl : e = 0 ∨ e = 1 ∨ e = 2 ∨ e = 3 ∨ e = 4 ∨ e = 5 ∨ e = 6 ∨ e = 7 ∨ e = 8 := by omega
    · exact Bool.eq_false_iff.mpr g0
    · exact Bool.eq_false_iff.mpr g1
    · exact Bool.eq_false_iff.mpr g2
    · exact Bool.eq_false_iff.mpr g3
    · exact Bool.eq_false_iff.mpr g4
    · exact Bool.eq_false_iff.mpr g5
    · exact Bool.eq_false_iff.mpr g6
    · exact Bool.eq_false_iff.mpr g7
    · exact Bool.eq_false_iff.mpr g8
    ), if_pos rfl]
/-- the sign behind a clause -/
theorem k_semi {B : Nat → Nat} {L i j n0 f : Nat} {T : TXT} (hj : j < 4) (h : DT) (H : KT h B L i) (h12 : gF h 72 12 = nI (681 * j)) (hn : n0 ≤ i) (hl : T.1.length < 25) {m : Nat} (hm : gA h 75 (681 * j) = nI m) (hm2 : T.1.length = m + 1) (hX : ∀ h', smX (fun c => c = 72 ∨ c = 75) h h' → (∀ z, z < 7 ∨ 11 ≤ z → gF h' 72 z = gF h 72 z) → gA h' 75 = upd (gA h 75) (681 * j) (nI T.1.length) → KTx h' j T n0) : KCO tx tu gu tl B L j (m_X11_clause X (d + 2) (f + 1) 98 [(0, vP (some 72))] [vI 0] (SK tx tu gu tl, h)) h (smP (tkn B L) i T) := by
  obtain ⟨k', b1, b2, b3⟩ := H.2.2.1
  rw [e_X11_clause_98, if_pos rfl, h12, inbI (by omega) (by omega), inbI (by omega) (by omega), b1, hm, nI_1, ← hm2, sA_w]
  unfold smP
  have s1 : smX (fun c => c = 75) h (wA h 75 (upd (gA h 75) (681 * j) (nI T.1.length))) := smX_wA rfl
  have g1 : kG j h (wA h 75 (upd (gA h 75) (681 * j) (nI T.1.length))) := ⟨s1.mo (fun c hc => Or.inr (Or.inl hc)), fun z _ => by rw [gF_wA], fun x hx => by rw [gA_wA', pk_un (by omega)]⟩
  by_cases g : (tkn B L i).1 = 59
  · rw [if_pos (show nI k' = 59 from (kK_n (m := 59) b2 b3 (by omega) (by omega) (by omega)).mpr g), if_pos g]
    have T1 : KT (wA h 75 (upd (gA h 75) (681 * j) (nI T.1.length))) B L i := H.cg (fun z _ => by rw [gF_wA]) (by rw [gA_wA, if_neg (by omega)]) rfl
    obtain ⟨h2, k1, k2, k3, k4⟩ := k_nxt X d tx tu gu tl _ T1.1
    have hi := tkn_i (B := B) (L := L) (i := i) (by omega)
    rw [k1, bV_s]
    exact ⟨h2, n0, rfl, k2, hX h2 (smX.tr (s1.mo fun c hc => Or.inr hc) (k4.mo fun c hc => Or.inl hc)) (fun z hz => by rw [k3 z hz, gF_wA]) (by rw [smA k4 (by omega), gA_wA']), by show n0 ≤ i + 1; omega, by show i + 1 ≤ L; omega, g1.tr (kG_72 k4 (fun z hz => k3 z (by omega)))⟩
  · rw [if_neg (show ¬ nI k' = 59 from fun z => g ((kK_n (m := 59) b2 b3 (by omega) (by omega) (by omega)).mp z)), if_neg g]
    refine ⟨by show 1 ≤ 1; omega, by show 1 ≤ 6; omega, _, rfl, ?_, g1⟩
    rw [gF_wA]
    exact H.2.1
theorem onc_s : ∀ o, o < 4 → ∀ s, s < 2 → Nat.testBit o s = false → (nI o ||| (1 <<< (nI s &&& 31))) = nI (o + (s + 1)) := by decide +kernel
theorem onc_4 (T : TXT) : onc T < 4 ∧ Nat.testBit (onc T) 0 = T.2.1.isSome ∧ Nat.testBit (onc T) 1 = T.2.2.isSome := by
  unfold onc
  cases T.2.1.isSome <;> cases T.2.2.isSome <;> decide
/-- behind the checks of a clause of a deed -/
theorem k_deed {B : Nat → Nat} {L i j n0 k f : Nat} {T : TXT} (hj : j < 4) (h3 : 3 ≤ k) (h9 : k ≤ 9) (h24 : T.1.length < 24) (h : DT) (H : KT h B L i) (hX : KTx h j T n0) (hn : n0 ≤ i) : KCO tx tu gu tl B L j (m_X11_clause X (d + 6) (f + 2) 74 [(0, vP (some 72)), (1, vI (nI (k - 1))), (2, vI (nI T.1.length))] [] (SK tx tu gu tl, h)) h (deP (tkn B L) i k T) := by
  obtain ⟨x1, x2, x3, x4, x5, x6, x7, x8, x9⟩ := hX
  rw [e_X11_clause_74, x2, nI_1, show (3 : Int32) = nI 3 from rfl, mulI, addI, inbI (by omega) (by omega), sA_w]
  generalize hx : 681 * j + 1 + 3 * T.1.length = x
  generalize hg : wA h 75 (upd (gA h 75) x (nI (k - 1))) = h1
  have s1 : smX (fun c => c = 75) h h1 := by rw [← hg]; exact smX_wA rfl
  have a1 : gA h1 75 = upd (gA h 75) x (nI (k - 1)) := by rw [← hg, gA_wA']
  have f1 : ∀ z, gF h1 72 z = gF h 72 z := fun z => by rw [← hg, gF_wA]
  have T1 : KT h1 B L i := H.cg (fun z _ => f1 z) (smA s1 (by omega)) (by rw [← hg]; rfl)
  have hB := k_body X d tx tu gu tl (x := x) (by omega) h3 h9 h1 T1
  have g1 : kG j h h1 := ⟨s1.mo (fun c hc => Or.inr (Or.inl hc)), fun z _ => f1 z, fun y hy => by rw [a1, pk_un (by omega)]⟩
  have gD : ∀ h2, kD x h1 h2 → kG j h1 h2 := fun h2 ⟨d1, d2, d3⟩ => ⟨d1.mo (fun c hc => by omega), fun z hz => d2 z (by omega), fun y hy => d3 y (by omega) (by omega)⟩
  rw [deP_bd]
  cases hr : bdP (tkn B L) i k with
  | inl q =>
    rw [hr] at hB
    obtain ⟨b1, b2, h2, b3, b4, b5⟩ := hB
    rw [b3, bI_s, e_X11_clause_98, if_neg (show ¬ nI q.1 = 0 from fun z => by have := (nI_eq (a := q.1) (b := 0) (by omega) (by omega)).mp z; omega)]
    exact ⟨b1, by omega, h2, rfl, b4, g1.tr (gD h2 b5)⟩
  | inr q =>
    rw [hr] at hB
    obtain ⟨h2, b3, b4, b5, b6, b7, b8, b9, b10, d1, d2, d3⟩ := hB
    rw [b3, bI_s]
    have ft : ∀ y, y ≠ x → y ≠ x + 1 → y ≠ x + 2 → gA h2 75 y = gA h 75 y := fun y h1 h2 h3 => by rw [d3 y h2 h3, a1, pk_un h1]
    show KCO tx tu gu tl B L j _ h (smP (tkn B L) q.1 (T.1 ++ [(k - 1, q.2.1, q.2.2)], T.2))
    refine KCO.pre (h1 := h2) (k_semi X (d + 4) tx tu gu tl (n0 := n0) (m := T.1.length) hj h2 b4 (by rw [d2 12 (by omega), f1]; exact x2) (by omega) (by show (T.1 ++ [(k - 1, q.2.1, q.2.2)]).length < 25; rw [List.length_append]; simp only [List.length_cons, List.length_nil]; omega) (by rw [ft _ (by omega) (by omega) (by omega)]; exact x5) (by show (T.1 ++ [(k - 1, q.2.1, q.2.2)]).length = _; rw [List.length_append]; rfl) (fun h3 m1 m2 m3 => ?_)) (g1.tr (gD h2 ⟨d1, d2, d3⟩))
    have e3 : ∀ y, y ≠ 681 * j → gA h3 75 y = gA h2 75 y := fun y hy => by rw [m3, pk_un hy]
    have lQ : ∀ (o : Option Cd) (lw : Nat), lw ≤ 1 → KLw h j n0 lw T.1 o → KLw h3 j n0 lw (T.1 ++ [(k - 1, q.2.1, q.2.2)]) o := fun o lw hlw HH => HH.cg (fun _ => by show k - 1 ≠ lw; omega) (Nat.le_refl _) h24 (fun y h1 h2 => by rw [e3 y (by omega), ft y (by omega) (by omega) (by omega)]) (fun y h1 h2 => by rw [e3 y (by omega), ft y (by omega) (by omega) (by omega)])
    refine ⟨by show (T.1 ++ [(k - 1, q.2.1, q.2.2)]).length ≤ 24; rw [List.length_append]; exact h24, by rw [m2 12 (by omega), d2 12 (by omega), f1]; exact x2, by rw [m2 13 (by omega), d2 13 (by omega), f1]; exact x3, by rw [m2 19 (by omega), d2 19 (by omega), f1]; exact x4, by rw [m3, pk_us], fun i hi => ?_, lQ _ 0 (by omega) x7, lQ _ 1 (by omega) x8, x9⟩
    have hi : i < (T.1 ++ [(k - 1, q.2.1, q.2.2)]).length := hi
    rw [List.length_append] at hi
    simp only [List.length_cons, List.length_nil] at hi
    show KCla h3 j i ((T.1 ++ [(k - 1, q.2.1, q.2.2)]).getD i (9, 0, 0))
    rw [getD_app]
    by_cases g : i < T.1.length
    · rw [if_pos g]
      obtain ⟨c1, c2, c3, c4⟩ := x6 i g
      exact ⟨c1, by rw [e3 _ (by omega), ft _ (by omega) (by omega) (by omega)]; exact c2, fun z => by rw [e3 _ (by omega), ft _ (by omega) (by omega) (by omega)]; exact c3 z, fun z y => by rw [e3 _ (by omega), ft _ (by omega) (by omega) (by omega)]; exact c4 z y⟩
    · have gi : i = T.1.length := by omega
      rw [if_neg g, if_pos gi, gi]
      refine ⟨by show k - 1 ≤ 8; omega, ?_, fun _ => ⟨?_, b9⟩, fun _ z => ⟨?_, b10⟩⟩
      · rw [e3 _ (by omega), d3 _ (by omega) (by omega), a1, hx, pk_us]
      · rw [e3 _ (by omega), hx]
        exact b5
      · rw [e3 _ (by omega), hx]
        exact b6 (by have : k - 1 ≤ 4 := z; omega)
theorem k_law {B : Nat → Nat} {L i j n0 lw f : Nat} {T : TXT} (hj : j < 4) (hL : L ≤ 300) (hlw : lw < 2) (h24 : T.1.length < 24) (hno : ofT T lw = none) (hi0 : 1 ≤ i) (hiL : i ≤ L) (h : DT) (H : KT h B L i) (h14 : gF h 72 14 = nI lw) (h19 : gF h 72 19 = nI (onc T + (lw + 1))) (hX : ∀ h', gF h' 72 19 = nI (onc T) → (∀ z, z ≠ 19 → gF h' 72 z = gF h 72 z) → gA h' 75 = gA h 75 → KTx h' j T n0) (hn : n0 ≤ i) : KCO tx tu gu tl B L j (m_X11_clause X (d + 10) (f + 2) 74 [(0, vP (some 72)), (1, vI (nI lw)), (2, vI (nI T.1.length))] [] (SK tx tu gu tl, h)) h (laP (tkn B L) i lw T) := by
  obtain ⟨x1, x2, x3, x4, x5, x6, x7, x8, x9⟩ := hX (sF h 72 19 (nI (onc T))) (by rw [gF_sF, if_pos ⟨rfl, rfl⟩]) (fun z hz => by rw [gF_sF, if_neg (fun y => hz y.2)]) rfl
  rw [gF_sF, if_neg (by omega)] at x2 x3
  change gA h 75 (681 * j) = nI T.1.length at x5
  rw [e_X11_clause_74, x2, nI_1, show (3 : Int32) = nI 3 from rfl, mulI, addI, inbI (by omega) (by omega), sA_w]
  generalize hx : 681 * j + 1 + 3 * T.1.length = x
  have body : ∀ h0 : DT, cal X (d + 10) 210 [vP (some 72), vI (nI lw), vI (nI x)] (SK tx tu gu tl, h0) = bI (cal X (d + 9) 208 [vP (some 72), vI (nI x)] (SK tx tu gu tl, h0)) fun r1 H1 => some (some (vI r1), H1) := fun h0 => by
    rw [c_X11_body, e_X11_body_0]
    have hn : ∀ m, 2 ≤ m → m < 100 → ¬ nI lw = nI m := fun m h1 h2 z => by have := (nI_eq (by omega) (by omega)).mp z; omega
    rw [if_neg (show ¬ nI lw = 2 from hn 2 (by omega) (by omega)), if_neg (show ¬ nI lw = 3 from hn 3 (by omega) (by omega)), if_neg (show ¬ nI lw = 4 from hn 4 (by omega) (by omega)), if_neg (show ¬ nI lw = 5 from hn 5 (by omega) (by omega)), if_neg (show ¬ nI lw = 6 from hn 6 (by omega) (by omega)), if_neg (show ¬ nI lw = 7 from hn 7 (by omega) (by omega)), if_neg (show ¬ nI lw = 8 from hn 8 (by omega) (by omega))]
  rw [body, c_X11_lawClause, e_X11_lawClause_0, gF_wA, x3, nI_1, inbI (by omega) (by omega), sA_w, gA_wA', wA_wA]
  generalize hg : wA h 75 (upd (upd (gA h 75) x (nI lw)) (x + 1) (nI n0)) = h1
  have s1 : smX (fun c => c = 75) h h1 := by rw [← hg]; exact smX_wA rfl
  have a1 : gA h1 75 = upd (upd (gA h 75) x (nI lw)) (x + 1) (nI n0) := by rw [← hg, gA_wA']
  have f1 : ∀ z, gF h1 72 z = gF h 72 z := fun z => by rw [← hg, gF_wA]
  have T1 : KT h1 B L i := H.cg (fun z _ => f1 z) (smA s1 (by omega)) (by rw [← hg]; rfl)
  have g1 : kG j h h1 := ⟨s1.mo (fun c hc => Or.inr (Or.inl hc)), fun z _ => f1 z, fun y hy => by rw [a1, pk_un (by omega), pk_un (by omega)]⟩
  obtain ⟨c, hS, hlt⟩ := k_sum X d tx tu gu tl hj hlw hL hn hi0 hiL h1 T1 ((f1 12).trans x2) ((f1 13).trans x3) ((f1 14).trans h14)
  unfold laP
  cases hr : sumP (tkn B L) (lvP (tkn B L) lw 8).1 i with
  | inl q =>
    rw [hr] at hS
    change SuO tx tu gu tl B L j n0 i _ h1 (q.1, q.2, c) at hS
    rcases hS with ⟨z, _⟩ | ⟨z1, z2, h2, e1, e2, e3⟩
    · exfalso
      have TL := T_law (τ := tkn B L) (lw := lw) (tkn_E hL) i []
      rw [hr] at TL
      exact TL.1 z
    · change 1 ≤ q.1 at z1
      change q.1 ≤ 5 at z2
      have e13 : ∃ v, gF h2 72 13 = v := ⟨_, rfl⟩
      rw [e1, bI_s, e_X11_lawClause_16, show (2 : Int32) = nI 2 from rfl, addI, inbI (by omega) (by omega), sA_w, bI_s, bI_s, e_X11_clause_98, if_neg (show ¬ nI q.1 = 0 from fun z => by have := (nI_eq (a := q.1) (b := 0) (by omega) (by omega)).mp z; omega)]
      refine ⟨z1, by show q.1 ≤ 6; omega, _, rfl, ?_, (g1.tr e3.g).tr ⟨smX_wA (Or.inr (Or.inl rfl)), fun z _ => by rw [gF_wA], fun y hy => by rw [gA_wA', pk_un (by omega)]⟩⟩
      rw [gF_wA]
      exact e2
  | inr q =>
    rw [hr] at hS
    have hiq := hlt q hr
    change SuO tx tu gu tl B L j n0 i _ h1 (0, q.1, q.2) at hS
    rcases hS with ⟨_, h2, e1, e2, e3, e4, e5, e6, e7⟩ | ⟨z, _⟩
    · change KT h2 B L q.1 at e2
      change gF h2 72 13 = nI (n0 + q.2.length) at e3
      change cdA h2 (681 * j + 73) n0 q.2 at e4
      change q.2.length + i ≤ q.1 at e5
      change q.1 ≤ L at e6
      rw [e1, bI_s, e_X11_lawClause_16, e3, show (2 : Int32) = nI 2 from rfl, addI, inbI (by omega) (by omega), sA_w, bI_s, bI_s]
      generalize hg3 : wA h2 75 (upd (gA h2 75) (x + 2) (nI (n0 + q.2.length))) = h3
      have s3 : smX (fun c => c = 75) h2 h3 := by rw [← hg3]; exact smX_wA rfl
      have a3 : gA h3 75 = upd (gA h2 75) (x + 2) (nI (n0 + q.2.length)) := by rw [← hg3, gA_wA']
      have f3 : ∀ z, gF h3 72 z = gF h2 72 z := fun z => by rw [← hg3, gF_wA]
      have T3 : KT h3 B L q.1 := e2.cg (fun z _ => f3 z) (smA s3 (by omega)) (by rw [← hg3]; rfl)
      have g3 : kG j h h3 := (g1.tr e7.g).tr ⟨s3.mo (fun c hc => Or.inr (Or.inl hc)), fun z _ => f3 z, fun y hy => by rw [a3, pk_un (by omega)]⟩
      have low : ∀ y, y < 681 * j + 73 + 2 * n0 → y ≠ x → y ≠ x + 1 → y ≠ x + 2 → gA h3 75 y = gA h 75 y := fun y h1 h2 h3 h4 => by rw [a3, pk_un h4, e7.2.2 y (by omega), a1, pk_un h3, pk_un h2]
      have r12 : gF h3 72 12 = nI (681 * j) := by rw [f3, e7.2.1 12 (by omega), f1]; exact x2
      have r19 : gF h3 72 19 = nI (onc T + (lw + 1)) := by rw [f3, e7.2.1 19 (by omega), f1]; exact h19
      have ll : (lwT T lw q.2).1 = T.1 ++ [(lw, 0, 0)] := rfl
      have len : (lwT T lw q.2).1.length = T.1.length + 1 := by rw [ll, List.length_append]; rfl
      show KCO tx tu gu tl B L j _ h (smP (tkn B L) q.1 (lwT T lw q.2))
      refine KCO.pre (h1 := h3) (k_semi X (d + 8) tx tu gu tl (n0 := n0 + q.2.length) (m := T.1.length) hj h3 T3 r12 (by omega) (by omega) (by rw [low _ (by omega) (by omega) (by omega) (by omega)]; exact x5) len (fun h4 m1 m2 m3 => ?_)) g3
      have e5' : ∀ y, y ≠ 681 * j → gA h4 75 y = gA h3 75 y := fun y hy => by rw [m3, pk_un hy]
      have lo4 : ∀ y, y < 681 * j + 73 + 2 * n0 → y ≠ 681 * j → y ≠ x → y ≠ x + 1 → y ≠ x + 2 → gA h4 75 y = gA h 75 y := fun y h1 h2 h3 h4 h5 => by rw [e5' y h2, low y h1 h3 h4 h5]
      have new : KLw h4 j (n0 + q.2.length) lw (T.1 ++ [(lw, 0, 0)]) (some q.2) := by
        have sr : ∀ i, srt (T.1 ++ [(lw, 0, 0)]) i = if i < T.1.length then srt T.1 i else if i = T.1.length then lw else 9 := fun i => by
          unfold srt
          rw [getD_app]
          by_cases g : i < T.1.length
          · rw [if_pos g, if_pos g]
          · rw [if_neg g, if_neg g]
            by_cases y : i = T.1.length
            · rw [if_pos y, if_pos y]
            · rw [if_neg y, if_neg y]
        have old : ∀ i, i < T.1.length → srt T.1 i ≠ lw := by
          unfold ofT at hno
          rcases (show lw = 0 ∨ lw = 1 by omega) with rfl | rfl
          · rw [if_pos rfl] at hno
            rw [hno] at x7
            exact x7
          · rw [if_neg (by decide)] at hno
            rw [hno] at x8
            exact x8
        refine ⟨T.1.length, n0, n0 + q.2.length, by rw [List.length_append]; simp, by rw [sr, if_neg (by omega), if_pos rfl], fun i hi => by rw [sr, if_pos hi]; exact old i hi, ?_, ?_, Nat.le_refl _, rfl, cdA_rg _ q.2 n0 (fun y h1 h2 => by rw [e5' y (by omega), a3, pk_un (by omega)]) e4⟩
        · rw [hx, e5' _ (by omega), a3, pk_un (by omega), e7.2.2 _ (by omega), a1, pk_us]
        · rw [hx, e5' _ (by omega), a3, pk_us]
      have oth : ∀ (lw' : Nat) (o : Option Cd), lw' ≠ lw → KLw (sF h 72 19 (nI (onc T))) j n0 lw' T.1 o → KLw h4 j (n0 + q.2.length) lw' (T.1 ++ [(lw, 0, 0)]) o := fun lw' o hne HH => HH.cg (fun _ => by show lw ≠ lw'; omega) (by omega) h24 (fun y h1 h2 => by rw [lo4 y (by omega) (by omega) (by omega) (by omega) (by omega)]; rfl) (fun y h1 h2 => by rw [lo4 y (by omega) (by omega) (by omega) (by omega) (by omega)]; rfl)
      have hT : T.2.1.isSome = true → lw = 0 → False := fun z1 z2 => by
        unfold ofT at hno
        rw [if_pos z2] at hno
        rw [hno] at z1
        cases z1
      have hT1 : T.2.2.isSome = true → lw = 1 → False := fun z1 z2 => by
        unfold ofT at hno
        rw [if_neg (by omega)] at hno
        rw [hno] at z1
        cases z1
      have onx : onc (lwT T lw q.2) = onc T + (lw + 1) := by
        unfold onc lwT
        rcases (show lw = 0 ∨ lw = 1 by omega) with rfl | rfl
        · have : ¬ T.2.1.isSome = true := fun z => hT z rfl
          rw [if_neg this]
          show (if true = true then 1 else 0) + (if T.2.2.isSome = true then 2 else 0) = _
          rw [if_pos rfl]
          omega
        · have : ¬ T.2.2.isSome = true := fun z => hT1 z rfl
          rw [if_neg this]
          show (if T.2.1.isSome = true then 1 else 0) + (if true = true then 2 else 0) = _
          rw [if_pos rfl]
      refine ⟨by rw [len]; omega, by rw [m2 12 (by omega)]; exact r12, by rw [m2 13 (by omega), f3]; exact e3, by rw [m2 19 (by omega), onx]; exact r19, by rw [m3, pk_us], fun i hi => ?_, ?_, ?_, by omega⟩
      · rw [len] at hi
        show KCla h4 j i ((T.1 ++ [(lw, 0, 0)]).getD i (9, 0, 0))
        rw [getD_app]
        by_cases g : i < T.1.length
        · rw [if_pos g]
          obtain ⟨c1, c2, c3, c4⟩ := x6 i g
          exact ⟨c1, by rw [lo4 _ (by omega) (by omega) (by omega) (by omega) (by omega)]; exact c2, fun z => by rw [lo4 _ (by omega) (by omega) (by omega) (by omega) (by omega)]; exact c3 z, fun z y => by rw [lo4 _ (by omega) (by omega) (by omega) (by omega) (by omega)]; exact c4 z y⟩
        · have gi : i = T.1.length := by omega
          rw [if_neg g, if_pos gi, gi]
          refine ⟨by show lw ≤ 8; omega, ?_, fun z => absurd z (by show ¬ 2 ≤ lw; omega), fun z => absurd z (by show ¬ 2 ≤ lw; omega)⟩
          rw [hx, e5' _ (by omega), a3, pk_un (by omega), e7.2.2 _ (by omega), a1, pk_un (by omega), pk_us]
      · unfold lwT
        rcases (show lw = 0 ∨ lw = 1 by omega) with rfl | rfl
        · exact new
        · exact oth 0 _ (by omega) x7
      · unfold lwT
        rcases (show lw = 0 ∨ lw = 1 by omega) with rfl | rfl
        · exact oth 1 _ (by omega) x8
        · exact new
    · have : 1 ≤ (0, q.1, q.2).1 := z
      exact absurd this (show ¬ 1 ≤ 0 by decide)
end KZ
