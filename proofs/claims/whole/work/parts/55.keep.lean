/-! STEPS are kept: the class in a ring, the reference in a row that is moved down -/
theorem yA_step' {h : DT} {a b sp dp k : Nat} (hov : a ≠ b ∨ dp ≤ sp ∨ sp + (k + 1) ≤ dp) : yA (sA h b dp (gA h a sp)) a b (sp + 1) (dp + 1) k = yA h a b sp dp (k + 1) := by
  refine dt_ext (fun n j => rfl) (fun n j => rfl) (fun n j => ?_) (fun n j => rfl)
  rw [gA_yA, gA_yA]
  by_cases hn : n = b
  · subst hn
    rw [if_pos rfl, if_pos rfl]
    by_cases h1 : dp + 1 ≤ j ∧ j < dp + 1 + k
    · rw [if_pos h1, if_pos (by omega), gA_sA, if_neg (by omega)]
      congr 1
      omega
    · rw [if_neg h1, gA_sA]
      by_cases h2 : j = dp
      · subst h2
        rw [if_pos ⟨rfl, rfl⟩, if_pos (by omega)]
        congr 1
        omega
      · rw [if_neg (fun q => h2 q.2), if_neg (by omega)]
  · rw [if_neg hn, if_neg hn, gA_sA, if_neg (fun q => hn q.1)]
theorem cplp {F : Nat → Int32 → DT → RR} {G : Nat → DT → RR} {src dst sp dp N g0 : Nat} {r : Option AV × HP} (hx : ∀ f h, F (f + 1) (nI N) h = G f h) (hs : ∀ f i h, i < N → F (f + 1) (nI i) h = F f (nI (i + 1)) (sA h dst (dp + i) (gA h src (sp + i)))) (hov : src ≠ dst ∨ dp ≤ sp ∨ sp + N ≤ dp) :
    ∀ (k i f : Nat) (h : DT), i + k = N → g0 + k + 1 ≤ f → (∀ f, g0 ≤ f → G f (yA h src dst (sp + i) (dp + i) k) = some r) → F f (nI i) h = some r
  | 0, i, f, h, hi, hf, hG => by
    obtain rfl : i = N := by omega
    obtain ⟨f, rfl⟩ : ∃ f', f = f' + 1 := ⟨f - 1, by omega⟩
    rw [hx]
    have := hG f (by omega)
    rw [yA_0] at this
    exact this
  | k + 1, i, f, h, hi, hf, hG => by
    obtain ⟨f, rfl⟩ : ∃ f', f = f' + 1 := ⟨f - 1, by omega⟩
    rw [hs f i h (by omega)]
    refine cplp (g0 := g0) hx hs hov k (i + 1) f _ (by omega) (by omega) fun f' hf' => ?_
    have e := yA_step' (h := h) (a := src) (b := dst) (sp := sp + i) (dp := dp + i) (k := k) (by omega)
    rw [show sp + (i + 1) = sp + i + 1 by omega, show dp + (i + 1) = dp + i + 1 by omega, e]
    exact hG f' hf'
def kg2 (A : Nat → Int32) (k : Nat) : Nat → Int32 := cpA (upd A (76 + 46 * k) (A 0)) (upd A (76 + 46 * k) (A 0)) 7 (77 + 46 * k) 15
def keepG (A : Nat → Int32) (k : Nat) : Nat → Int32 := upd (cpA (kg2 A k) (kg2 A k) 1456 (92 + 46 * k) 30) 3 (nI (k + 1))
def shfA (A : Nat → Int32) : Nat → Int32 := upd (cpA A A 122 76 1334) 3 (nI 29)
def keepF (A : Nat → Int32) (k : Nat) : Nat → Int32 := if k = 30 then keepG (shfA A) 29 else keepG A k
def kN (k : Nat) : Nat := if k = 30 then 30 else k + 1
theorem kg2_lo {A : Nat → Int32} {k i : Nat} (h : i < 76 + 46 * k ∨ 92 + 46 * k ≤ i) : kg2 A k i = A i := by
  unfold kg2
  rw [cpA_at, if_neg (by omega), pk_un (by omega)]
theorem keepG_lo {A : Nat → Int32} {k i : Nat} (h3 : i ≠ 3) (h : i < 76 + 46 * k ∨ 122 + 46 * k ≤ i) : keepG A k i = A i := by
  unfold keepG
  rw [pk_un h3, cpA_at, if_neg (by omega), kg2_lo (by omega)]
theorem keepG_3 {A : Nat → Int32} {k : Nat} : keepG A k 3 = nI (k + 1) := pk_us
theorem keepG_s {A : Nat → Int32} {k i : Nat} (hk : k < 30) (hi : i < 46) : keepG A k (76 + 46 * k + i) = if i = 0 then A 0 else if i < 16 then A (6 + i) else A (1440 + i) := by
  unfold keepG
  rw [pk_un (by omega), cpA_at]
  by_cases h1 : i = 0
  · subst h1
    rw [if_pos rfl, if_neg (by omega)]
    unfold kg2
    rw [cpA_at, if_neg (by omega), Nat.add_zero, pk_us]
  · rw [if_neg h1]
    by_cases h2 : i < 16
    · rw [if_pos h2, if_neg (by omega)]
      unfold kg2
      rw [cpA_at, if_pos (by omega), pk_un (by omega), show 7 + (76 + 46 * k + i - (77 + 46 * k)) = 6 + i by omega]
    · rw [if_neg h2, if_pos (by omega), kg2_lo (by omega), show 1456 + (76 + 46 * k + i - (92 + 46 * k)) = 1440 + i by omega]
theorem shfA_lo {A : Nat → Int32} {i : Nat} (h3 : i ≠ 3) (h : i < 76 ∨ 1410 ≤ i) : shfA A i = A i := by
  unfold shfA
  rw [pk_un h3, cpA_at, if_neg (by omega)]
theorem shfA_s {A : Nat → Int32} {j i : Nat} (hj : j < 29) (hi : i < 46) : shfA A (76 + 46 * j + i) = A (76 + 46 * (j + 1) + i) := by
  unfold shfA
  rw [pk_un (by omega), cpA_at, if_pos (by omega), show 122 + (76 + 46 * j + i - 76) = 76 + 46 * (j + 1) + i by omega]
theorem keepF_lo {A : Nat → Int32} {k i : Nat} (hk : k ≤ 30) (h3 : i ≠ 3) (h : i < 76 ∨ 1456 ≤ i) : keepF A k i = A i := by
  unfold keepF
  by_cases h30 : k = 30
  · rw [if_pos h30, keepG_lo h3 (by omega), shfA_lo h3 (by omega)]
  · rw [if_neg h30, keepG_lo h3 (by omega)]
theorem StpOk.kG {A : Nat → Int32} {n k : Nat} (H : StpOk A n k) (hr : RowOk A 7 n) (h0 : A 0 = nI n) (hk : k < 30) : StpOk (keepG A k) n (k + 1) := by
  obtain ⟨h3, h30, hs⟩ := H
  refine ⟨keepG_3, by omega, fun j hj => ?_⟩
  by_cases e : j = k
  · subst e
    refine ⟨n, Nat.le_refl _, ?_, ?_⟩
    · have := keepG_s (A := A) (k := j) (i := 0) hk (by omega)
      rw [Nat.add_zero] at this
      rw [this, if_pos rfl, h0]
    · refine hr.cg fun i hi => ?_
      have := keepG_s (A := A) (k := j) (i := i + 1) hk (by omega)
      rw [show 77 + 46 * j + i = 76 + 46 * j + (i + 1) by omega, this, if_neg (by omega), if_pos (by omega), show 6 + (i + 1) = 7 + i by omega]
  · obtain ⟨m, hm, e1, e2⟩ := hs j (by omega)
    exact ⟨m, hm, by rw [keepG_lo (by omega) (by omega)]; exact e1, e2.cg fun i hi => keepG_lo (by omega) (by omega)⟩
theorem StpOk.sh {A : Nat → Int32} {n : Nat} (H : StpOk A n 30) : StpOk (shfA A) n 29 := by
  obtain ⟨h3, h30, hs⟩ := H
  refine ⟨pk_us, by omega, fun j hj => ?_⟩
  obtain ⟨m, hm, e1, e2⟩ := hs (j + 1) (by omega)
  refine ⟨m, hm, ?_, e2.cg fun i hi => ?_⟩
  · have := shfA_s (A := A) (j := j) (i := 0) hj (by omega)
    rw [Nat.add_zero, Nat.add_zero] at this
    rw [this]; exact e1
  · have := shfA_s (A := A) (j := j) (i := i + 1) hj (by omega)
    rw [show 77 + 46 * j + i = 76 + 46 * j + (i + 1) by omega, this, show 76 + 46 * (j + 1) + (i + 1) = 77 + 46 * (j + 1) + i by omega]
theorem Inv.ke {A : Nat → Int32} {n t k : Nat} (H : Inv A n t k) : Inv (keepF A k) n t (kN k) := by
  obtain ⟨hp, ht, hs, hr, ⟨w, hw⟩, ⟨q, hq⟩, ⟨s, hsd⟩⟩ := H
  have hk := hs.2.1
  refine ⟨hp.cg (keepF_lo hk (by omega) (by omega)) (fun i _ _ => keepF_lo hk (by omega) (by omega)), ht.cg (keepF_lo hk (by omega) (by omega)) (keepF_lo hk (by omega) (by omega)), ?_, hr.cg (fun i _ => keepF_lo hk (by omega) (by omega)), ⟨w, hw.cg (keepF_lo hk (by omega) (by omega)) (fun i _ _ => keepF_lo hk (by omega) (by omega))⟩, ⟨q, hq.cg (Nat.le_refl _) (keepF_lo hk (by omega) (by omega)) (fun i _ _ => keepF_lo hk (by omega) (by omega))⟩, ⟨s, hsd.cg (Nat.le_refl _) (keepF_lo hk (by omega) (by omega)) (fun i _ _ => keepF_lo hk (by omega) (by omega))⟩⟩
  unfold keepF kN
  by_cases h30 : k = 30
  · subst h30
    rw [if_pos rfl, if_pos rfl]
    exact (hs.sh).kG (hr.cg fun i _ => shfA_lo (by omega) (by omega)) (by rw [shfA_lo (by omega) (by omega)]; exact hp.1) (by omega)
  · rw [if_neg h30, if_neg h30]
    exact hs.kG hr hp.1 (by omega)
section KE
variable (X : XS) (d : Nat) (tx tu gu : Option Nat) (tl : List SC) (h : DT)
theorem keep54 {k f : Nat} (e3 : gA h 73 3 = nI k) (hk : k < 30) (hf : 60 ≤ f) : m_X11_keep X d f 54 [(0, vP (some 72))] [] (SK tx tu gu tl, h) = some (none, (SK tx tu gu tl, wA h 73 (keepG (gA h 73) k))) := by
  obtain ⟨f, rfl⟩ : ∃ f', f = f' + 1 := ⟨f - 1, by omega⟩
  rw [e_X11_keep_54, e3, litI 46, mulI, litI 76, addI, inbI (by omega) (by omega)]
  refine cplp (F := fun f i h => m_X11_keep X d f 81 [(0, vP (some 72)), (1, vI (nI (76 + 46 * k))), (2, vI i)] [] (SK tx tu gu tl, h)) (G := fun f h => m_X11_keep X d f 114 [(0, vP (some 72)), (1, vI (nI (76 + 46 * k))), (2, vI 0)] [] (SK tx tu gu tl, h)) (src := 73) (dst := 73) (sp := 7) (dp := 77 + 46 * k) (N := 15) (g0 := 40) ?_ ?_ (Or.inr (Or.inr (by omega))) 15 0 f _ rfl (by omega) (fun f' hf' => ?_)
  · intro f h
    show m_X11_keep X d (f + 1) 81 [(0, vP (some 72)), (1, vI (nI (76 + 46 * k))), (2, vI (nI 15))] [] (SK tx tu gu tl, h) = _
    rw [e_X11_keep_81, if_pos (by decide)]
  · intro f i h hi
    show m_X11_keep X d (f + 1) 81 [(0, vP (some 72)), (1, vI (nI (76 + 46 * k))), (2, vI (nI i))] [] (SK tx tu gu tl, h) = _
    rw [e_X11_keep_81, litI 15, if_neg (nI_ge hi (by omega)), litI 7, addI, inbI (by omega) (by omega), nI_1, addI, show 76 + 46 * k + 1 + i = 77 + 46 * k + i by omega, inbI (by omega) (by omega), nI_1]
  · refine cplp (F := fun f i h => m_X11_keep X d f 114 [(0, vP (some 72)), (1, vI (nI (76 + 46 * k))), (2, vI i)] [] (SK tx tu gu tl, h)) (G := fun f h => some (none, (SK tx tu gu tl, sA h 73 3 (gA h 73 3 + 1)))) (src := 73) (dst := 73) (sp := 1456) (dp := 92 + 46 * k) (N := 30) (g0 := 0) ?_ ?_ (Or.inr (Or.inl (by omega))) 30 0 f' _ rfl (by omega) (fun f2 hf2 => ?_)
    · intro f h
      show m_X11_keep X d (f + 1) 114 [(0, vP (some 72)), (1, vI (nI (76 + 46 * k))), (2, vI (nI 30))] [] (SK tx tu gu tl, h) = _
      rw [e_X11_keep_114, if_pos (by decide)]
    · intro f i h hi
      show m_X11_keep X d (f + 1) 114 [(0, vP (some 72)), (1, vI (nI (76 + 46 * k))), (2, vI (nI i))] [] (SK tx tu gu tl, h) = _
      rw [e_X11_keep_114, litI 30, if_neg (nI_ge hi (by omega)), litI 1456, addI, inbI (by omega) (by omega), litI 16, addI, addI, show 76 + 46 * k + 16 + i = 92 + 46 * k + i by omega, inbI (by omega) (by omega), nI_1]
    · show some (none, (SK tx tu gu tl, _)) = some (none, (SK tx tu gu tl, _))
      simp only [yA_w, sA_w, gA_wA', wA_wA, Nat.add_zero]
      have e : cpA (cpA (upd (gA h 73) (76 + 46 * k) (gA h 73 0)) (upd (gA h 73) (76 + 46 * k) (gA h 73 0)) 7 (77 + 46 * k) 15) (cpA (upd (gA h 73) (76 + 46 * k) (gA h 73 0)) (upd (gA h 73) (76 + 46 * k) (gA h 73 0)) 7 (77 + 46 * k) 15) 1456 (92 + 46 * k) 30 3 = nI k := by
        rw [cpA_at, if_neg (by omega), cpA_at, if_neg (by omega), pk_un (by omega), e3]
      rw [e, nI_1]
      rfl
theorem k_keep {k : Nat} (e3 : gA h 73 3 = nI k) (hk : k ≤ 30) : cal X (d + 1) 232 [vP (some 72)] (SK tx tu gu tl, h) = some (none, (SK tx tu gu tl, wA h 73 (keepF (gA h 73) k))) := by
  rw [c_X11_keep, e_X11_keep_0, e3]
  by_cases h30 : k = 30
  · subst h30
    rw [if_pos (by decide)]
    refine cplp (F := fun f i h => m_X11_keep X d f 13 [(0, vP (some 72)), (1, vI i)] [] (SK tx tu gu tl, h)) (G := fun f h => m_X11_keep X d f 54 [(0, vP (some 72))] [] (SK tx tu gu tl, sA h 73 3 (gA h 73 3 - 1))) (src := 73) (dst := 73) (sp := 122) (dp := 76) (N := 1334) (g0 := 100) ?_ ?_ (Or.inr (Or.inl (by omega))) 1334 0 999999 _ rfl (by omega) (fun f' hf' => ?_)
    · intro f h
      show m_X11_keep X d (f + 1) 13 [(0, vP (some 72)), (1, vI (nI 1334))] [] (SK tx tu gu tl, h) = _
      rw [e_X11_keep_13, if_pos (by decide)]
    · intro f i h hi
      show m_X11_keep X d (f + 1) 13 [(0, vP (some 72)), (1, vI (nI i))] [] (SK tx tu gu tl, h) = _
      rw [e_X11_keep_13, litI 1334, if_neg (nI_ge hi (by omega)), litI 122, addI, inbI (by omega) (by omega), litI 76, addI, inbI (by omega) (by omega), nI_1]
    · show m_X11_keep X d (f') 54 [(0, vP (some 72))] [] (SK tx tu gu tl, sA (yA h 73 73 (122 + 0) (76 + 0) 1334) 73 3 (gA (yA h 73 73 (122 + 0) (76 + 0) 1334) 73 3 - 1)) = _
      simp only [yA_w, sA_w, gA_wA', wA_wA, Nat.add_zero]
      rw [cpA_at, if_neg (by omega), e3, show nI 30 - 1 = nI 29 from nI_pred 29, keep54 (k := 29) (hk := by omega) (hf := by omega) (e3 := by rw [gA_wA', pk_us]), gA_wA', wA_wA]
      rfl
  · rw [if_neg (by rw [litI 30, eqI (by omega) (by omega)]; exact h30), keep54 X d tx tu gu tl h e3 (by omega) (by omega)]
    unfold keepF
    rw [if_neg h30]
/-- a row as it is kept in the class -/
def SV (h : DT) (q : Nat) : Int32 := if q < 6 then gF h 1 q else if q < 11 then gA h 2 (q - 6) else if q < 16 then gA h 5 (q - 11) else gA h 6 (q - 16)
theorem cpk {a m N L : Nat} {m32 : Int32} (hm : m32 = nI m) (h1 : a + m ≤ N) (hN : N < 2147483648) (hL : L = m) : ¬ ((0 : Int32) < 0 ∨ nI a < 0 ∨ m32 < 0 ∨ L < (0 : Int32).toNatClampNeg + m32.toNatClampNeg ∨ N < (nI a).toNatClampNeg + m32.toNatClampNeg) := by
  subst hm
  subst hL
  rintro (q | q | q | q | q)
  · exact absurd q (by decide)
  · exact nI_pos (by omega) q
  · exact nI_pos (by omega) q
  · rw [clI (by omega), show (0 : Int32).toNatClampNeg = 0 by decide] at q
    omega
  · rw [clI (by omega), clI (by omega)] at q
    omega
theorem x_save {a : Nat} (ha : a + 46 ≤ 1380) : ∃ h1, cal X (d + 1) 75 [vP (some 1), vP (some 8), vI (nI a)] (SK tx tu gu tl, h) = some (none, (SK tx tu gu tl, h1)) ∧ smX (fun c => c = 8) h h1 ∧ ∀ q, gA h1 8 q = if a ≤ q ∧ q < a + 46 then SV h (q - a) else gA h 8 q := by
  have e : cal X (d + 1) 75 [vP (some 1), vP (some 8), vI (nI a)] (SK tx tu gu tl, h) = some (none, (SK tx tu gu tl, yA (yA (yA (sA (sA (sA (sA (sA (sA h 8 a (gF h 1 0)) 8 (a + 1) (gF h 1 1)) 8 (a + 2) (gF h 1 2)) 8 (a + 3) (gF h 1 3)) 8 (a + 4) (gF h 1 4)) 8 (a + 5) (gF h 1 5)) 2 8 0 (a + 6) 5) 5 8 0 (a + 6 + 5) 5) 6 8 0 (a + 6 + 10) 30)) := by
    rw [c_X5_save, sv_0, inbI (by omega) (by omega), sv_1, litI 1, addI, inbI (by omega) (by omega), sv_2, litI 2, addI, inbI (by omega) (by omega), sv_3, litI 3, addI, inbI (by omega) (by omega), sv_4, litI 4, addI, inbI (by omega) (by omega), sv_5, litI 5, addI, inbI (by omega) (by omega), sv_6, litI 6, addI, litI 5, if_neg (cpk (m := 5) rfl (by omega) (by omega) rfl), clI (by omega), sv_7, litI 6, addI, litI 5, addI, if_neg (cpk (m := 5) rfl (by omega) (by omega) rfl), clI (by omega), sv_8, litI 6, addI, litI 10, addI, litI 30, if_neg (cpk (m := 30) rfl (by omega) (by omega) rfl), clI (by omega), sv_9]
    simp only [gF_sA]
  refine ⟨_, e, ?_, fun q => ?_⟩
  · exact ((((((((smX_sA (S := fun c => c = 8) rfl).tr (smX_sA rfl)).tr (smX_sA rfl)).tr (smX_sA rfl)).tr (smX_sA rfl)).tr (smX_sA rfl)).tr (smX_yA rfl)).tr (smX_yA rfl)).tr (smX_yA rfl)
  · rw [gA_yA, if_pos rfl]
    unfold SV
    by_cases q1 : a + 6 + 10 ≤ q ∧ q < a + 6 + 10 + 30
    · rw [if_pos q1, if_pos (by omega), if_neg (by omega), if_neg (by omega), if_neg (by omega), gA_yA, if_neg (by omega), gA_yA, if_neg (by omega)]
      simp only [gA_sA]
      rw [if_neg (by omega), if_neg (by omega), if_neg (by omega), if_neg (by omega), if_neg (by omega), if_neg (by omega)]
      congr 1
      omega
    · rw [if_neg q1, gA_yA, if_pos rfl]
      by_cases q2 : a + 6 + 5 ≤ q ∧ q < a + 6 + 5 + 5
      · rw [if_pos q2, if_pos (by omega), if_neg (by omega), if_neg (by omega), if_pos (by omega), gA_yA, if_neg (by omega)]
        simp only [gA_sA]
        rw [if_neg (by omega), if_neg (by omega), if_neg (by omega), if_neg (by omega), if_neg (by omega), if_neg (by omega)]
        congr 1
        omega
      · rw [if_neg q2, gA_yA, if_pos rfl]
        by_cases q3 : a + 6 ≤ q ∧ q < a + 6 + 5
        · rw [if_pos q3, if_pos (by omega), if_neg (by omega), if_pos (by omega)]
          simp only [gA_sA]
          rw [if_neg (by omega), if_neg (by omega), if_neg (by omega), if_neg (by omega), if_neg (by omega), if_neg (by omega)]
          congr 1
          omega
        · rw [if_neg q3]
          simp only [gA_sA, true_and]
          by_cases g5 : q = a + 5
          · subst g5
            rw [if_pos rfl, if_pos (by omega), if_pos (by omega), show a + 5 - a = 5 by omega]
          rw [if_neg g5]
          by_cases g4 : q = a + 4
          · subst g4
            rw [if_pos rfl, if_pos (by omega), if_pos (by omega), show a + 4 - a = 4 by omega]
          rw [if_neg g4]
          by_cases g3 : q = a + 3
          · subst g3
            rw [if_pos rfl, if_pos (by omega), if_pos (by omega), show a + 3 - a = 3 by omega]
          rw [if_neg g3]
          by_cases g2 : q = a + 2
          · subst g2
            rw [if_pos rfl, if_pos (by omega), if_pos (by omega), show a + 2 - a = 2 by omega]
          rw [if_neg g2]
          by_cases g1 : q = a + 1
          · subst g1
            rw [if_pos rfl, if_pos (by omega), if_pos (by omega), show a + 1 - a = 1 by omega]
          rw [if_neg g1]
          by_cases g0 : q = a
          · subst g0
            rw [if_pos rfl, if_pos (by omega), if_pos (by omega), show q - q = 0 by omega]
          rw [if_neg g0, if_neg (by omega)]
theorem pxI_lt {i : Nat} (h : i < 46) : pxI i < 46 := by
  unfold pxI
  split
  · omega
  · split
    · omega
    · split
      · omega
      · split <;> omega
theorem SV_A {A : Nat → Int32} {i : Nat} (H : XRow h 1 A) (hi : i < 46) : SV h (pxI i) = if i = 0 then A 0 else if i < 16 then A (6 + i) else A (1440 + i) := by
  obtain ⟨r0, r1, r2, r3, r4, r5, r6, r7, r8, r9, r10⟩ := H
  by_cases h0 : i = 0
  · subst h0; exact r0
  rw [if_neg h0]
  by_cases h1 : i = 1
  · subst h1; exact r3
  by_cases h2 : i = 2
  · subst h2; exact r4
  by_cases h3 : i = 3
  · subst h3; exact r2
  by_cases h4 : i = 4
  · subst h4; exact r1
  by_cases h5 : i = 5
  · subst h5; exact r5
  have e : pxI i = i := by
    unfold pxI
    rw [if_neg h1, if_neg h2, if_neg h3, if_neg h4]
  rw [e]
  unfold SV
  rw [if_neg (by omega)]
  by_cases h6 : i < 11
  · rw [if_pos h6, if_pos (by omega)]
    refine (r6 (i - 6) (by omega)).trans ?_
    congr 1
    omega
  rw [if_neg h6]
  by_cases h7 : i < 16
  · rw [if_pos h7, if_pos h7]
    refine (r9 (i - 11) (by omega)).trans ?_
    congr 1
    omega
  rw [if_neg h7, if_neg h7]
  refine (r10 (i - 16) (by omega)).trans ?_
  congr 1
  omega
theorem x_keep1 {A : Nat → Int32} {k f : Nat} (HR : XRow h 1 A) (HS : XSteps h 7 A k) (e3 : A 3 = nI k) (hk : k < 30) : ∃ h1, (bI (cal X (d + 1) 81 [vP (some 7), vI (nI k)] (SK tx tu gu tl, h)) fun r1 H1 => m_X6_keep X (d + 1) (f + 1 + 1) 45 [(0, vP (some 7))] [vI r1, vP (some 8), vP (some 1)] H1) = some (none, (SK tx tu gu tl, h1)) ∧ smX (fun c => c = 7 ∨ c = 8) h h1 ∧ XSteps h1 7 (keepG A k) (k + 1) := by
  obtain ⟨s0, e, he, s1, s2⟩ := HS
  have hb : (e + k) % 30 * 46 + 46 ≤ 1380 := by omega
  obtain ⟨h1, g1, g2, g3⟩ := x_save X d tx tu gu tl h hb
  refine ⟨sF h1 7 0 (nI (k + 1)), ?_, (g2.mo fun c hc => Or.inr hc).tr (smX_sF (Or.inl rfl)), ?_⟩
  · rw [c_X6_placeOf, e_X6_placeOf_0, s1, addI, litI 30, remI (by omega) (by omega) (by omega), litI 46, mulI, bI_s, e_X6_keep_45, g1, bV_s, e_X6_keep_48, g2.F (by omega), s0, e3, nI_1]
  · refine ⟨?_, e, he, ?_, fun j i hj hi => ?_⟩
    · rw [gF_sF, if_pos ⟨rfl, rfl⟩, keepG_3]
    · rw [gF_sF, if_neg (by omega), g2.F (by omega), s1]
    · have hp := pxI_lt hi
      rw [gA_sF, g3]
      by_cases ej : j = k
      · subst ej
        rw [if_pos (by omega), show (e + j) % 30 * 46 + pxI i - (e + j) % 30 * 46 = pxI i by omega, SV_A h HR hi, keepG_s hk hi]
      · rw [if_neg (by omega), s2 j i (by omega) hi, keepG_lo (by omega) (by omega)]
theorem x_keep {A : Nat → Int32} {k : Nat} (HR : XRow h 1 A) (HS : XSteps h 7 A k) (e3 : A 3 = nI k) (hk : k ≤ 30) : ∃ h1, cal X (d + 2) 78 [vP (some 7), vP (some 1)] (SK tx tu gu tl, h) = some (none, (SK tx tu gu tl, h1)) ∧ smX (fun c => c = 7 ∨ c = 8) h h1 ∧ XSteps h1 7 (keepF A k) (kN k) := by
  have s0 := HS.1
  rw [e3] at s0
  rw [c_X6_keep, e_X6_keep_0, s0]
  unfold keepF kN
  by_cases h30 : k = 30
  · subst h30
    obtain ⟨_, e, he, s1, s2⟩ := HS
    rw [if_pos (by decide), if_pos rfl, if_pos rfl, s1, nI_1, litI 30, remI (by omega) (by omega) (by omega), show nI 30 - 1 = nI 29 from nI_pred 29]
    have HR' : XRow (sF (sF h 7 1 (nI ((e + 1) % 30))) 7 0 (nI 29)) 1 (shfA A) := (HR.cg (h' := sF (sF h 7 1 (nI ((e + 1) % 30))) 7 0 (nI 29)) (fun c _ _ => ⟨by rw [gF_sFn (by omega), gF_sFn (by omega)], rfl⟩)).cA (shfA_lo (by omega) (by omega)) (fun i _ _ => shfA_lo (by omega) (by omega)) (fun i _ _ => shfA_lo (by omega) (by omega))
    have HS' : XSteps (sF (sF h 7 1 (nI ((e + 1) % 30))) 7 0 (nI 29)) 7 (shfA A) 29 := by
      refine ⟨?_, (e + 1) % 30, by omega, ?_, fun j i hj hi => ?_⟩
      · rw [gF_sF, if_pos ⟨rfl, rfl⟩]; exact pk_us.symm
      · rw [gF_sF, if_neg (by omega), gF_sF, if_pos ⟨rfl, rfl⟩]
      · rw [gA_sF, gA_sF, shfA_s hj hi, ← s2 (j + 1) i (by omega) hi]
        congr 2
        omega
    obtain ⟨h1, g1, g2, g3⟩ := x_keep1 X d tx tu gu tl _ (f := 999997) HR' HS' (show shfA A 3 = nI 29 from pk_us) (by omega)
    exact ⟨h1, g1, ((smX_sF (Or.inl rfl)).tr (smX_sF (Or.inl rfl))).tr g2, g3⟩
  · rw [if_neg (by rw [litI 30, eqI (by omega) (by omega)]; exact h30), if_neg h30, if_neg h30]
    exact x_keep1 X d tx tu gu tl h (f := 999997) HR HS e3 (by omega)
end KE
