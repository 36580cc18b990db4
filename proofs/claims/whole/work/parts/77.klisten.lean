/-! WHOM TO ASK: the reference -/
theorem cnA.mo {h : DT} {c m m' : Nat} {N : Nat → Nat} (H : cnA h c N m) (hm : m ≤ m') : cnA h c N m' := fun i hi => ⟨(H i hi).1, by have := (H i hi).2; omega⟩
section KL2
variable (X : XS) (d : Nat) (tx tu gu : Option Nat) (tl : List SC)
theorem k_mlin {A : Nat → Int32} {n t k q err ear : Nat} {TT : Nat → TXT} (hQ : HrdOk A n q) (he : err ≤ 9) (hear : ear < n) {sp : Nat} (hs : sp < n) : ∀ (c w m : Nat) (N : Nat → Nat) (h : DT), w + c = 100 → m ≤ 100 * sp + w → cnA h 91 N (100 * sp + w) → KX A n t k TT h → ∃ h' N' m', (N', m') = mlS (fxN (rulH (A 2) TT) A n ear) (fL (fit (rulH (A 2) TT) A n err q) c (100 * sp + w)) (N, m) ∧ m' ≤ 100 * sp + 100 ∧ cnA h' 91 N' (100 * sp + 100) ∧ KX A n t k TT h' ∧ smX isH h h' ∧ ∀ F f, F + (3 * c + 1) ≤ f → ∃ f', F ≤ f' ∧ m_X11_mostLeft X (d + 8) f 41 [(0, vP (some 72)), (1, vI (nI ear)), (2, vI (nI err)), (3, vI (nI m)), (4, vI (nI sp)), (5, vI (nI w))] [] (SK tx tu gu tl, h) = m_X11_mostLeft X (d + 8) f' 27 [(0, vP (some 72)), (1, vI (nI ear)), (2, vI (nI err)), (3, vI (nI m')), (4, vI (nI (sp + 1)))] [] (SK tx tu gu tl, h')
  | 0, w, m, N, h, hw, hm, hN, H => by
    have hn := H.1.1.2.1
    refine ⟨h, N, m, rfl, by omega, hN.mo (by omega), H, smX.rf _ h, fun F f hf => ?_⟩
    obtain ⟨f, rfl⟩ : ∃ g, f = g + 1 := ⟨f - 1, by omega⟩
    refine ⟨f, by omega, ?_⟩
    rw [e_X11_mostLeft_41, show (100 : Int32) = nI 100 from rfl, if_pos (nI_le (by omega) (by omega)), nI_1]
  | c + 1, w, m, N, h, hw, hm, hN, H => by
    have hn := H.1.1.2.1
    obtain ⟨h1, e1, e2, e3⟩ := k_isMt X d tx tu gu tl hQ he hs (w := w) (by omega) h H
    have N1 : cnA h1 91 N (100 * sp + w) := fun x hx => by rw [smA e3 (by unfold isK3; omega)]; exact hN x hx
    have fe : fL (fit (rulH (A 2) TT) A n err q) (c + 1) (100 * sp + w) = bif fit (rulH (A 2) TT) A n err q (100 * sp + w) then (100 * sp + w) :: fL (fit (rulH (A 2) TT) A n err q) c (100 * sp + (w + 1)) else fL (fit (rulH (A 2) TT) A n err q) c (100 * sp + (w + 1)) := rfl
    have st : ∀ f, m_X11_mostLeft X (d + 8) (f + 1) 41 [(0, vP (some 72)), (1, vI (nI ear)), (2, vI (nI err)), (3, vI (nI m)), (4, vI (nI sp)), (5, vI (nI w))] [] (SK tx tu gu tl, h) = m_X11_mostLeft X (d + 8) f 57 [(0, vP (some 72)), (1, vI (nI ear)), (2, vI (nI err)), (3, vI (nI m)), (4, vI (nI sp)), (5, vI (nI w))] [vI (bzB (fit (rulH (A 2) TT) A n err q (100 * sp + w)))] (SK tx tu gu tl, h1) := fun f => by
      rw [e_X11_mostLeft_41, show (100 : Int32) = nI 100 from rfl, if_neg (nI_ge (by omega) (by omega)), e1, bI_s]
    cases hF : fit (rulH (A 2) TT) A n err q (100 * sp + w) with
    | false =>
      rw [hF, cond_false] at fe
      obtain ⟨h2, N2, m2, j1, j2, j3, j4, j5, j6⟩ := k_mlin hQ he hear hs c (w + 1) m N h1 (by omega) (by omega) (N1.mo (by omega)) e2
      rw [fe]
      refine ⟨h2, N2, m2, j1, j2, j3, j4, smX.tr (e3.mo fun c => isK3_H) j5, fun F f hf => ?_⟩
      obtain ⟨f, rfl⟩ : ∃ g, f = g + 2 := ⟨f - 2, by omega⟩
      obtain ⟨f', f1, f2⟩ := j6 F f (by omega)
      refine ⟨f', f1, ?_⟩
      rw [st, hF, bz_f, e_X11_mostLeft_57, if_pos rfl, nI_1]
      exact f2
    | true =>
      rw [hF, cond_true] at fe
      obtain ⟨h2, r1, r2, r3⟩ := k_hof X (d + 1) tx tu gu tl h1 e2 (p := ear) (sp := sp) (w := w) hear hs (by omega)
      have K2 := e2.cg (r2.mo fun c => isK3_H) r3
      have N2 : cnA h2 91 N (100 * sp + w) := fun x hx => by rw [smA r2 (by unfold isK3; omega)]; exact N1 x hx
      have pd : (100 * sp + w) / 100 = sp := by omega
      have pm : (100 * sp + w) % 100 = w := by omega
      obtain ⟨fb, fz⟩ := fxN_b (o := rulH (A 2) TT) H.1 (ear := ear) (p := 100 * sp + w) (by omega) (by omega)
      rw [pd, pm] at fz
      have mlc : mlS (fxN (rulH (A 2) TT) A n ear) ((100 * sp + w) :: fL (fit (rulH (A 2) TT) A n err q) c (100 * sp + (w + 1))) (N, m) = mlS (fxN (rulH (A 2) TT) A n ear) (fL (fit (rulH (A 2) TT) A n err q) c (100 * sp + (w + 1))) (upN N (fxN (rulH (A 2) TT) A n ear (100 * sp + w)) (N (fxN (rulH (A 2) TT) A n ear (100 * sp + w)) + 1), if m < N (fxN (rulH (A 2) TT) A n ear (100 * sp + w)) + 1 then N (fxN (rulH (A 2) TT) A n ear (100 * sp + w)) + 1 else m) := rfl
      rw [fe, mlc]
      revert fb fz
      generalize fxN (rulH (A 2) TT) A n ear (100 * sp + w) = x
      intro fb fz
      obtain ⟨v1, v2⟩ := N2 x fb
      generalize hh : wA h2 91 (upd (gA h2 91) x (nI (N x + 1))) = h3
      have a3 : gA h3 91 = upd (gA h2 91) x (nI (N x + 1)) := by rw [← hh, gA_wA']
      have s3 : smX isH h2 h3 := by rw [← hh]; exact smX_wA (by unfold isH; omega)
      have n3 : NmA h3 78 := fun k hk => by
        rw [← hh, gA_wA, if_neg (by omega)]
        exact r3 k hk
      obtain ⟨h4, N4, m4, j1, j2, j3, j4, j5, j6⟩ := k_mlin hQ he hear hs c (w + 1) (if m < N x + 1 then N x + 1 else m) (upN N x (N x + 1)) h3 (by omega) (by split <;> omega) (cnA_up N2 fb a3) (K2.cg s3 n3)
      refine ⟨h4, N4, m4, j1, j2, j3, j4, smX.tr (smX.tr (smX.tr (e3.mo fun c => isK3_H) (r2.mo fun c => isK3_H)) s3) j5, fun F f hf => ?_⟩
      obtain ⟨f, rfl⟩ : ∃ g, f = g + 3 := ⟨f - 3, by omega⟩
      obtain ⟨f', f1, f2⟩ := j6 F f (by omega)
      refine ⟨f', f1, ?_⟩
      rw [st, hF, bz_t, e_X11_mostLeft_57, if_neg one0, r1, bI_s, e_X11_mostLeft_72, fz, inbI fb (by omega), inbI fb (by omega), inbI fb (by omega), v1, nI_1, sA_w, hh, a3, pk_us]
      by_cases y : m < N x + 1
      · rw [if_pos y] at f2
        rw [if_neg (nI_ge y (by omega)), inbI fb (by omega), pk_us, nI_1]
        exact f2
      · rw [if_neg y] at f2
        rw [if_pos (nI_le (by omega) (by omega)), nI_1]
        exact f2
theorem k_mlout {A : Nat → Int32} {n t k q err ear : Nat} {TT : Nat → TXT} (hQ : HrdOk A n q) (he : err ≤ 9) (hear : ear < n) : ∀ (c sp m : Nat) (N : Nat → Nat) (h : DT), sp + c = n → m ≤ 100 * sp → cnA h 91 N (100 * sp) → KX A n t k TT h → ∃ h', KX A n t k TT h' ∧ smX isH h h' ∧ ∀ f, 303 * c + 1 ≤ f → m_X11_mostLeft X (d + 8) f 27 [(0, vP (some 72)), (1, vI (nI ear)), (2, vI (nI err)), (3, vI (nI m)), (4, vI (nI sp))] [] (SK tx tu gu tl, h) = some (some (vI (nI (mlS (fxN (rulH (A 2) TT) A n ear) (fL (fit (rulH (A 2) TT) A n err q) (100 * c) (100 * sp)) (N, m)).2)), (SK tx tu gu tl, h'))
  | 0, sp, m, N, h, hs, hm, hN, H => by
    have hn := H.1.1.2.1
    refine ⟨h, H, smX.rf _ h, fun f hf => ?_⟩
    obtain ⟨f, rfl⟩ : ∃ g, f = g + 1 := ⟨f - 1, by omega⟩
    rw [e_X11_mostLeft_27, H.2.1, H.1.1.1, if_pos (nI_le (by omega) (by omega))]
    rfl
  | c + 1, sp, m, N, h, hs, hm, hN, H => by
    have hn := H.1.1.2.1
    obtain ⟨h1, N1, m1, k1, k2, k3, k4, k5, k6⟩ := k_mlin X d tx tu gu tl hQ he hear (sp := sp) (by omega) 100 0 m N h rfl (by omega) (hN.mo (by omega)) H
    obtain ⟨h2, j1, j2, j3⟩ := k_mlout hQ he hear c (sp + 1) m1 N1 h1 (by omega) (by omega) (k3.mo (by omega)) k4
    refine ⟨h2, j1, k5.tr j2, fun f hf => ?_⟩
    obtain ⟨f, rfl⟩ : ∃ g, f = g + 1 := ⟨f - 1, by omega⟩
    obtain ⟨f', f1, f2⟩ := k6 (303 * c + 1) f (by omega)
    rw [e_X11_mostLeft_27, H.2.1, H.1.1.1, if_neg (nI_ge (by omega) (by omega)), show (0 : Int32) = nI 0 from rfl, f2, j3 f' f1, show 100 * (c + 1) = 100 + 100 * c by omega, fL_add, mlS_app]
    rw [Nat.add_zero] at k1
    rw [← k1]
    rfl
theorem k_mz {A : Nat → Int32} {n t k err ear : Nat} {TT : Nat → TXT} : ∀ (c i : Nat) (h : DT), i + c = 1999 → KX A n t k TT h → (∀ x, x < i → gA h 91 x = nI 0) → ∃ h', (∀ F f, F + (c + 1) ≤ f → ∃ f', F ≤ f' ∧ m_X11_mostLeft X (d + 8) f 2 [(0, vP (some 72)), (1, vI (nI ear)), (2, vI (nI err)), (3, vI (nI i))] [] (SK tx tu gu tl, h) = m_X11_mostLeft X (d + 8) f' 27 [(0, vP (some 72)), (1, vI (nI ear)), (2, vI (nI err)), (3, vI (nI 0)), (4, vI (nI 0))] [] (SK tx tu gu tl, h')) ∧ KX A n t k TT h' ∧ cnA h' 91 (fun _ => 0) 0 ∧ smX isH h h'
  | 0, i, h, hi, H, hz => by
    refine ⟨h, fun F f hf => ?_, H, fun x hx => ⟨hz x (by omega), Nat.le_refl _⟩, smX.rf _ h⟩
    obtain ⟨f, rfl⟩ : ∃ g, f = g + 1 := ⟨f - 1, by omega⟩
    refine ⟨f, by omega, ?_⟩
    rw [e_X11_mostLeft_2, show (1999 : Int32) = nI 1999 from rfl, if_pos (nI_le (by omega) (by omega))]
    rfl
  | c + 1, i, h, hi, H, hz => by
    generalize hh : wA h 91 (upd (gA h 91) i 0) = h1
    have a1 : gA h1 91 = upd (gA h 91) i 0 := by rw [← hh, gA_wA']
    have s1 : smX isH h h1 := by rw [← hh]; exact smX_wA (by unfold isH; omega)
    have n1 : NmA h1 78 := fun k hk => by
      rw [← hh, gA_wA, if_neg (by omega)]
      exact H.2.2.2 k hk
    obtain ⟨h2, k1, k2, k3, k4⟩ := k_mz (err := err) (ear := ear) c (i + 1) h1 (by omega) (H.cg s1 n1) (fun x hx => by
      rw [a1]
      by_cases y : x = i
      · rw [y, pk_us]; rfl
      · rw [pk_un y]; exact hz x (by omega))
    refine ⟨h2, fun F f hf => ?_, k2, k3, s1.tr k4⟩
    obtain ⟨f, rfl⟩ : ∃ g, f = g + 1 := ⟨f - 1, by omega⟩
    obtain ⟨f', f1, f2⟩ := k1 F f (by omega)
    refine ⟨f', f1, ?_⟩
    rw [e_X11_mostLeft_2, show (1999 : Int32) = nI 1999 from rfl, if_neg (nI_ge (by omega) (by omega)), inbI (by omega) (by omega), nI_1, sA_w, hh]
    exact f2
theorem k_mostLeft {A : Nat → Int32} {n t k q err ear : Nat} {TT : Nat → TXT} (hQ : HrdOk A n q) (he : err ≤ 9) (hear : ear < n) (h : DT) (H : KX A n t k TT h) : ∃ h', cal X (d + 9) 281 [vP (some 72), vI (nI ear), vI (nI err)] (SK tx tu gu tl, h) = some (some (vI (nI (mlS (fxN (rulH (A 2) TT) A n ear) (fL (fit (rulH (A 2) TT) A n err q) (100 * n) 0) (fun _ => 0, 0)).2)), (SK tx tu gu tl, h')) ∧ KX A n t k TT h' ∧ smX isH h h' := by
  have hn := H.1.1.2.1
  obtain ⟨h1, k1, k2, k3, k4⟩ := k_mz X d tx tu gu tl (err := err) (ear := ear) 1999 0 h rfl H (fun x hx => absurd hx (by omega))
  obtain ⟨h2, j1, j2, j3⟩ := k_mlout X d tx tu gu tl hQ he hear n 0 0 (fun _ => 0) h1 (by omega) (by omega) (k3.mo (by omega)) k2
  refine ⟨h2, ?_, j1, k4.tr j2⟩
  obtain ⟨f', f1, f2⟩ := k1 900000 999999 (by omega)
  rw [c_X11_mostLeft, e_X11_mostLeft_0, show (0 : Int32) = nI 0 from rfl, f2, j3 f' (by omega)]
/-- whom to ask, of the people from p on -/
def lsI (V : Nat → Nat) : Nat → Nat → Int32 → Nat → Int32
  | 0, _, best, _ => best
  | c + 1, p, best, few => if V p < few then lsI V c (p + 1) (nI p) (V p) else lsI V c (p + 1) best few
theorem k_llp {A : Nat → Int32} {n t k q err : Nat} {TT : Nat → TXT} (hQ : HrdOk A n q) (he : err ≤ 9) (V : Nat → Nat) (hV : ∀ p, p < n → (mlS (fxN (rulH (A 2) TT) A n p) (fL (fit (rulH (A 2) TT) A n err q) (100 * n) 0) (fun _ => 0, 0)).2 = V p) (hVb : ∀ p, V p ≤ 500) : ∀ (c p few : Nat) (best : Int32) (h : DT), p + c = n → few ≤ 1000000 → KX A n t k TT h → ∃ h', (∀ f, c + 1 ≤ f → m_X11_listen X (d + 9) f 31 [(0, vP (some 72)), (1, vI (nI err)), (2, vI best), (3, vI (nI few)), (4, vI (nI p))] [] (SK tx tu gu tl, h) = some (some (vI (lsI V c p best few)), (SK tx tu gu tl, h'))) ∧ KX A n t k TT h' ∧ smX isH h h'
  | 0, p, few, best, h, hp, hf0, H => by
    have hn := H.1.1.2.1
    refine ⟨h, fun f hf => ?_, H, smX.rf _ h⟩
    obtain ⟨f, rfl⟩ : ∃ g, f = g + 1 := ⟨f - 1, by omega⟩
    rw [e_X11_listen_31, H.2.1, H.1.1.1, if_pos (nI_le (by omega) (by omega))]
    rfl
  | c + 1, p, few, best, h, hp, hf0, H => by
    have hn := H.1.1.2.1
    obtain ⟨h1, e1, e2, e3⟩ := k_mostLeft X d tx tu gu tl hQ he (ear := p) (by omega) h H
    rw [hV p (by omega)] at e1
    have vb := hVb p
    unfold lsI
    by_cases y : V p < few
    · obtain ⟨h2, k1, k2, k3⟩ := k_llp hQ he V hV hVb c (p + 1) (V p) (nI p) h1 (by omega) (by omega) e2
      refine ⟨h2, fun f hf => ?_, k2, e3.tr k3⟩
      obtain ⟨f, rfl⟩ : ∃ g, f = g + 1 := ⟨f - 1, by omega⟩
      rw [e_X11_listen_31, H.2.1, H.1.1.1, if_neg (nI_ge (by omega) (by omega)), e1, bI_s, if_pos ((nI_ltI (by omega) (by omega)).mpr y), if_pos y, nI_1]
      exact k1 f (by omega)
    · obtain ⟨h2, k1, k2, k3⟩ := k_llp hQ he V hV hVb c (p + 1) few best h1 (by omega) hf0 e2
      refine ⟨h2, fun f hf => ?_, k2, e3.tr k3⟩
      obtain ⟨f, rfl⟩ : ∃ g, f = g + 1 := ⟨f - 1, by omega⟩
      rw [e_X11_listen_31, H.2.1, H.1.1.1, if_neg (nI_ge (by omega) (by omega)), e1, bI_s, if_neg (fun z => y ((nI_ltI (by omega) (by omega)).mp z)), if_neg y, nI_1]
      exact k1 f (by omega)
end KL2
