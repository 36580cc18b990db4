/-! A STEP IS TAKEN BACK -/
def begF (A : Nat → Int32) (p : Nat) : Nat → Int32 := upd (upd A (12 + p) (A (27 + p))) (17 + p) (nI p)
def bgs : Nat → Nat → (Nat → Int32) → Nat → Int32
  | _, 0, A => A
  | p, c + 1, A => bgs (p + 1) c (begF A p)
theorem bgs_o : ∀ (c p : Nat) (A : Nat → Int32) (i : Nat), ¬ (12 ≤ i ∧ i < 22) → p + c ≤ 5 → bgs p c A i = A i
  | 0, p, A, i, h, hc => rfl
  | c + 1, p, A, i, h, hc => by
    show bgs (p + 1) c (begF A p) i = A i
    rw [bgs_o c (p + 1) _ i h (by omega)]
    unfold begF
    rw [pk_un (by omega), pk_un (by omega)]
theorem bgs_s : ∀ (c p : Nat) (A : Nat → Int32) (i : Nat), i < 5 → p + c ≤ 5 → bgs p c A (12 + i) = if p ≤ i ∧ i < p + c then A (27 + i) else A (12 + i)
  | 0, p, A, i, hi, hc => by rw [if_neg (by omega)]; rfl
  | c + 1, p, A, i, hi, hc => by
    show bgs (p + 1) c (begF A p) (12 + i) = _
    rw [bgs_s c (p + 1) _ i hi (by omega)]
    by_cases h1 : p + 1 ≤ i ∧ i < p + 1 + c
    · rw [if_pos h1, if_pos (by omega)]
      unfold begF
      rw [pk_un (by omega), pk_un (by omega)]
    · rw [if_neg h1]
      by_cases h2 : i = p
      · subst h2
        rw [if_pos (by omega)]
        unfold begF
        rw [pk_un (by omega), pk_us]
      · rw [if_neg (by omega)]
        unfold begF
        rw [pk_un (by omega), pk_un (by omega)]
theorem bgs_t : ∀ (c p : Nat) (A : Nat → Int32) (i : Nat), i < 5 → p + c ≤ 5 → bgs p c A (17 + i) = if p ≤ i ∧ i < p + c then nI i else A (17 + i)
  | 0, p, A, i, hi, hc => by rw [if_neg (by omega)]; rfl
  | c + 1, p, A, i, hi, hc => by
    show bgs (p + 1) c (begF A p) (17 + i) = _
    rw [bgs_t c (p + 1) _ i hi (by omega)]
    by_cases h1 : p + 1 ≤ i ∧ i < p + 1 + c
    · rw [if_pos h1, if_pos (by omega)]
    · rw [if_neg h1]
      by_cases h2 : i = p
      · subst h2
        rw [if_pos (by omega)]
        unfold begF
        rw [pk_us]
      · rw [if_neg (by omega)]
        unfold begF
        rw [pk_un (by omega), pk_un (by omega)]
def und2 (A : Nat → Int32) (k : Nat) : Nat → Int32 := cpA (upd A 3 (nI k)) (upd A 3 (nI k)) (77 + 46 * k) 7 15
def und3 (A : Nat → Int32) (k n m : Nat) : Nat → Int32 := bgs m (n - m) (und2 A k)
def undF (A : Nat → Int32) (k n m : Nat) : Nat → Int32 := cpA (und3 A k n m) (und3 A k n m) (92 + 46 * k) 1456 30
theorem und3_o {A : Nat → Int32} {k n m i : Nat} (h : ¬ (7 ≤ i ∧ i < 22)) (h3 : i ≠ 3) (hn : n ≤ 5) (hm : m ≤ n) : und3 A k n m i = A i := by
  unfold und3
  rw [bgs_o _ _ _ i (by omega) (by omega)]
  unfold und2
  rw [cpA_at, if_neg (by omega), pk_un h3]
theorem undF_o {A : Nat → Int32} {k n m i : Nat} (h : ¬ (7 ≤ i ∧ i < 22)) (h3 : i ≠ 3) (h4 : ¬ (1456 ≤ i ∧ i < 1486)) (hn : n ≤ 5) (hm : m ≤ n) : undF A k n m i = A i := by
  unfold undF
  rw [cpA_at, if_neg (by omega), und3_o h h3 hn hm]
theorem undF_3 {A : Nat → Int32} {k n m : Nat} (hn : n ≤ 5) (hm : m ≤ n) : undF A k n m 3 = nI k := by
  unfold undF
  rw [cpA_at, if_neg (by omega)]
  unfold und3
  rw [bgs_o _ _ _ _ (by omega) (by omega)]
  unfold und2
  rw [cpA_at, if_neg (by omega), pk_us]
theorem undF_b {A : Nat → Int32} {k n m i : Nat} (hk : k < 30) (hi : i < 30) (hn : n ≤ 5) (hm : m ≤ n) : undF A k n m (1456 + i) = A (92 + 46 * k + i) := by
  unfold undF
  rw [cpA_at, if_pos (by omega), und3_o (by omega) (by omega) hn hm, show 92 + 46 * k + (1456 + i - 1456) = 92 + 46 * k + i by omega]
theorem und2_s {A : Nat → Int32} {k i : Nat} (hi : i < 15) : und2 A k (7 + i) = A (77 + 46 * k + i) := by
  unfold und2
  rw [cpA_at, if_pos (by omega), pk_un (by omega)]
  congr 1
  omega
theorem undF_r {A : Nat → Int32} {k n m i : Nat} (hi : i < 5) (hn : n ≤ 5) (hm : m ≤ n) : undF A k n m (7 + i) = A (77 + 46 * k + i) := by
  unfold undF
  rw [cpA_at, if_neg (by omega)]
  unfold und3
  rw [bgs_o _ _ _ _ (by omega) (by omega), und2_s (by omega)]
theorem undF_s {A : Nat → Int32} {k n m i : Nat} (hi : i < 5) (hn : n ≤ 5) (hm : m ≤ n) : undF A k n m (12 + i) = if m ≤ i ∧ i < n then A (27 + i) else A (82 + 46 * k + i) := by
  unfold undF
  rw [cpA_at, if_neg (by omega)]
  unfold und3
  rw [bgs_s _ _ _ _ hi (by omega)]
  by_cases h1 : m ≤ i ∧ i < n
  · rw [if_pos h1, if_pos (by omega)]
    unfold und2
    rw [cpA_at, if_neg (by omega), pk_un (by omega)]
  · rw [if_neg h1, if_neg (by omega), show 12 + i = 7 + (5 + i) by omega, und2_s (by omega)]
    congr 1
    omega
theorem undF_t {A : Nat → Int32} {k n m i : Nat} (hi : i < 5) (hn : n ≤ 5) (hm : m ≤ n) : undF A k n m (17 + i) = if m ≤ i ∧ i < n then nI i else A (87 + 46 * k + i) := by
  unfold undF
  rw [cpA_at, if_neg (by omega)]
  unfold und3
  rw [bgs_t _ _ _ _ hi (by omega)]
  by_cases h1 : m ≤ i ∧ i < n
  · rw [if_pos h1, if_pos (by omega)]
  · rw [if_neg h1, if_neg (by omega), show 17 + i = 7 + (10 + i) by omega, und2_s (by omega)]
    congr 1
    omega
theorem Inv.un {A : Nat → Int32} {n t k m : Nat} (H : Inv A n t (k + 1)) (hm : m ≤ n) (hr : RowOk A (77 + 46 * k) m) : Inv (undF A k n m) n t k := by
  obtain ⟨hp, ht, hs, hrow, ⟨w, hw⟩, ⟨q, hq⟩, ⟨s, hsd⟩⟩ := H
  have hn := hp.2.1
  have o : ∀ i, ¬ (7 ≤ i ∧ i < 22) → i ≠ 3 → ¬ (1456 ≤ i ∧ i < 1486) → undF A k n m i = A i := fun i h1 h2 h3 => undF_o h1 h2 h3 hn hm
  obtain ⟨s1, s2, s3⟩ := hs
  refine ⟨hp.cg (o _ (by omega) (by omega) (by omega)) (fun i _ _ => o _ (by omega) (by omega) (by omega)), ht.cg (o _ (by omega) (by omega) (by omega)) (o _ (by omega) (by omega) (by omega)), ⟨undF_3 hn hm, by omega, fun j hj => ?_⟩, ?_, ⟨w, hw.cg (o _ (by omega) (by omega) (by omega)) (fun i _ _ => o _ (by omega) (by omega) (by omega))⟩, ⟨q, hq.cg (Nat.le_refl _) (o _ (by omega) (by omega) (by omega)) (fun i _ _ => o _ (by omega) (by omega) (by omega))⟩, ⟨s, hsd.cg (Nat.le_refl _) (o _ (by omega) (by omega) (by omega)) (fun i _ _ => o _ (by omega) (by omega) (by omega))⟩⟩
  · obtain ⟨u, hu, e1, e2⟩ := s3 j (by omega)
    exact ⟨u, hu, by rw [o _ (by omega) (by omega) (by omega)]; exact e1, e2.cg fun i hi => o _ (by omega) (by omega) (by omega)⟩
  · obtain ⟨r0, r1, r2, r3, r4, r5, r6, r7, r8, r9⟩ := hr
    have f0 := undF_r (A := A) (k := k) (n := n) (m := m) (i := 0) (by omega) hn hm
    rw [Nat.add_zero] at f0
    refine ⟨hn, ?_, ?_, ?_, ?_, ?_, fun i hi => ?_, fun i hi1 hi => ?_, fun s hs => ?_, fun p hp2 => ?_⟩
    · rw [f0]; exact r1
    · rw [undF_r (i := 1) (by omega) hn hm]; exact r2
    · rw [undF_r (i := 2) (by omega) hn hm]; exact r3
    · rw [undF_r (i := 3) (by omega) hn hm]; exact r4
    · rw [undF_r (i := 4) (by omega) hn hm]; exact r5
    · rw [show 7 + 5 + i = 12 + i by omega, undF_s hi hn hm]
      by_cases h1 : m ≤ i ∧ i < n
      · rw [if_pos h1]; exact hp.2.2.2.1 i h1.2
      · rw [if_neg h1]
        have := r6 i hi
        rw [show 77 + 46 * k + 5 + i = 82 + 46 * k + i by omega] at this
        exact this
    · rw [show 7 + 5 + i = 12 + i by omega, show 7 + 10 + i = 17 + i by omega, undF_s hi hn hm, undF_t hi hn hm, if_neg (by omega), if_neg (by omega)]
      have := r7 i (by omega) hi
      rw [show 77 + 46 * k + 5 + i = 82 + 46 * k + i by omega, show 77 + 46 * k + 10 + i = 87 + 46 * k + i by omega] at this
      exact this
    · rw [show 7 + 10 + s = 17 + s by omega, undF_t (by omega) hn hm]
      by_cases h1 : m ≤ s ∧ s < n
      · rw [if_pos h1]; exact ⟨s, hs, rfl⟩
      · rw [if_neg h1]
        obtain ⟨p, hp3, e⟩ := r8 s (by omega)
        rw [show 77 + 46 * k + 10 + s = 87 + 46 * k + s by omega] at e
        exact ⟨p, by omega, e⟩
    · by_cases h1 : m ≤ p
      · exact ⟨p, hp2, by rw [show 7 + 10 + p = 17 + p by omega, undF_t (by omega) hn hm, if_pos ⟨h1, hp2⟩]⟩
      · obtain ⟨s, hs, e⟩ := r9 p (by omega)
        rw [show 77 + 46 * k + 10 + s = 87 + 46 * k + s by omega] at e
        exact ⟨s, by omega, by rw [show 7 + 10 + s = 17 + s by omega, undF_t (by omega) hn hm, if_neg (by omega)]; exact e⟩
section UN
variable (X : XS) (d : Nat) (tx tu gu : Option Nat) (tl : List SC)
theorem k_und2 {n x : Nat} (hn : n ≤ 5) : ∀ (c p f : Nat) (h : DT), gA h 73 0 = nI n → p + c = n → c + 100 ≤ f → ∃ f', 99 ≤ f' ∧ m_X11_undo X (d + 1) f 74 [(0, vP (some 72)), (1, vI (nI x)), (2, vI (nI p))] [] (SK tx tu gu tl, h) = m_X11_undo X (d + 1) f' 97 [(0, vP (some 72)), (1, vI (nI x)), (2, vI 0)] [] (SK tx tu gu tl, wA h 73 (bgs p c (gA h 73)))
  | 0, p, f, h, h0, hp, hf => by
    obtain ⟨f, rfl⟩ : ∃ f', f = f' + 1 := ⟨f - 1, by omega⟩
    refine ⟨f, by omega, ?_⟩
    rw [e_X11_undo_74, h0, if_pos (nI_le (by omega) (by omega))]
    show _ = m_X11_undo X (d + 1) f 97 [(0, vP (some 72)), (1, vI (nI x)), (2, vI 0)] [] (SK tx tu gu tl, wA h 73 (gA h 73))
    rw [wA_id]
  | c + 1, p, f, h, h0, hp, hf => by
    obtain ⟨f, rfl⟩ : ∃ f', f = f' + 1 := ⟨f - 1, by omega⟩
    obtain ⟨f', g1, g2⟩ := k_und2 hn c (p + 1) f (wA h 73 (begF (gA h 73) p)) (by rw [gA_wA']; unfold begF; rw [pk_un (by omega), pk_un (by omega)]; exact h0) (by omega) (by omega)
    rw [gA_wA', wA_wA] at g2
    refine ⟨f', g1, ?_⟩
    rw [e_X11_undo_74, h0, if_neg (nI_ge (by omega) (by omega)), k_begin X d tx tu gu tl h (by omega), bV_s, nI_1]
    exact g2
theorem k_undo {n k m : Nat} (h : DT) (e3 : gA h 73 3 = nI (k + 1)) (hk : k < 30) (h0 : gA h 73 0 = nI n) (hn : n ≤ 5) (hm : m ≤ n) (em : gA h 73 (76 + 46 * k) = nI m) : cal X (d + 2) 233 [vP (some 72)] (SK tx tu gu tl, h) = some (some (vI (nI k)), (SK tx tu gu tl, wA h 73 (undF (gA h 73) k n m))) := by
  rw [c_X11_undo, e_X11_undo_0, e3, if_neg (nI_ne0 (by omega) (by omega)), nI_pred, litI 46, mulI, litI 76, addI]
  refine cplp (F := fun f i h => m_X11_undo X (d + 1) f 36 [(0, vP (some 72)), (1, vI (nI (76 + 46 * k))), (2, vI i)] [] (SK tx tu gu tl, h)) (G := fun f h => m_X11_undo X (d + 1) f 74 [(0, vP (some 72)), (1, vI (nI (76 + 46 * k))), (2, vI (gA h 73 (76 + 46 * k)))] [] (SK tx tu gu tl, h)) (src := 73) (dst := 73) (sp := 77 + 46 * k) (dp := 7) (N := 15) (g0 := 200) ?_ ?_ (Or.inr (Or.inl (by omega))) 15 0 999999 _ rfl (by omega) (fun f' hf' => ?_)
  · intro f h
    show m_X11_undo X (d + 1) (f + 1) 36 [(0, vP (some 72)), (1, vI (nI (76 + 46 * k))), (2, vI (nI 15))] [] (SK tx tu gu tl, h) = _
    rw [e_X11_undo_36, if_pos (by decide), inbI (by omega) (by omega)]
  · intro f i h hi
    show m_X11_undo X (d + 1) (f + 1) 36 [(0, vP (some 72)), (1, vI (nI (76 + 46 * k))), (2, vI (nI i))] [] (SK tx tu gu tl, h) = _
    rw [e_X11_undo_36, litI 15, if_neg (nI_ge hi (by omega)), nI_1, addI, show 76 + 46 * k + 1 + i = 77 + 46 * k + i by omega, inbI (by omega) (by omega), litI 7, addI, inbI (by omega) (by omega), nI_1]
  · show m_X11_undo X (d + 1) f' 74 [(0, vP (some 72)), (1, vI (nI (76 + 46 * k))), (2, vI (gA (yA (sA h 73 3 (nI k)) 73 73 (77 + 46 * k + 0) (7 + 0) 15) 73 (76 + 46 * k)))] [] (SK tx tu gu tl, yA (sA h 73 3 (nI k)) 73 73 (77 + 46 * k + 0) (7 + 0) 15) = _
    simp only [yA_w, sA_w, gA_wA', wA_wA, Nat.add_zero]
    have em2 : cpA (upd (gA h 73) 3 (nI k)) (upd (gA h 73) 3 (nI k)) (77 + 46 * k) 7 15 (76 + 46 * k) = nI m := by
      rw [cpA_at, if_neg (by omega), pk_un (by omega), em]
    rw [em2]
    obtain ⟨f2, q1, q2⟩ := k_und2 X d tx tu gu tl (n := n) (x := 76 + 46 * k) hn (n - m) m f' (wA h 73 (und2 (gA h 73) k)) (by rw [gA_wA']; unfold und2; rw [cpA_at, if_neg (by omega), pk_un (by omega), h0]) (by omega) (by omega)
    rw [gA_wA', wA_wA] at q2
    refine q2.trans ?_
    refine cplp (F := fun f i h => m_X11_undo X (d + 1) f 97 [(0, vP (some 72)), (1, vI (nI (76 + 46 * k))), (2, vI i)] [] (SK tx tu gu tl, h)) (G := fun f h => some (some (vI (gA h 73 3)), (SK tx tu gu tl, h))) (src := 73) (dst := 73) (sp := 92 + 46 * k) (dp := 1456) (N := 30) (g0 := 0) ?_ ?_ (Or.inr (Or.inr (by omega))) 30 0 f2 _ rfl (by omega) (fun f3 hf3 => ?_)
    · intro f h
      show m_X11_undo X (d + 1) (f + 1) 97 [(0, vP (some 72)), (1, vI (nI (76 + 46 * k))), (2, vI (nI 30))] [] (SK tx tu gu tl, h) = _
      rw [e_X11_undo_97, if_pos (by decide)]
    · intro f i h hi
      show m_X11_undo X (d + 1) (f + 1) 97 [(0, vP (some 72)), (1, vI (nI (76 + 46 * k))), (2, vI (nI i))] [] (SK tx tu gu tl, h) = _
      rw [e_X11_undo_97, litI 30, if_neg (nI_ge hi (by omega)), litI 16, addI, addI, show 76 + 46 * k + 16 + i = 92 + 46 * k + i by omega, inbI (by omega) (by omega), litI 1456, addI, inbI (by omega) (by omega), nI_1]
    · show some (some (vI (gA (yA (wA h 73 (bgs m (n - m) (und2 (gA h 73) k))) 73 73 (92 + 46 * k + 0) (1456 + 0) 30) 73 3)), (SK tx tu gu tl, yA (wA h 73 (bgs m (n - m) (und2 (gA h 73) k))) 73 73 (92 + 46 * k + 0) (1456 + 0) 30)) = _
      simp only [yA_w, gA_wA', wA_wA, Nat.add_zero]
      have e9 := undF_3 (A := gA h 73) (k := k) hn hm
      unfold undF und3 at e9
      rw [e9]
      rfl
theorem x_rst {n m a : Nat} (hn : n ≤ 5) (ha : a + 46 ≤ 1380) (hm : m ≤ n) : ∀ (c i f : Nat) (h : DT), gF h 1 0 = nI n → i + c = n → 2 * c + 1 ≤ f → ∃ hF, m_X5_restore X d f 52 [(0, vP (some 1)), (1, vP (some 8)), (2, vI (nI a)), (3, vI (nI m)), (4, vI (nI i))] [] (SK tx tu gu tl, h) = some (none, (SK tx tu gu tl, hF)) ∧ smX (fun c => c = 2 ∨ c = 5 ∨ c = 6) h hF ∧ (∀ j, j < 5 → gA hF 2 j = if i ≤ j ∧ j < n then (if j < m then gA h 8 (a + 6 + j) else gA h 4 j) else gA h 2 j) ∧ (∀ j, j < 5 → gA hF 5 j = if i ≤ j ∧ j < n then (if j < m then gA h 8 (a + 11 + j) else nI j) else gA h 5 j) ∧ (∀ j, j < 30 → gA hF 6 j = gA h 8 (a + 16 + j)) ∧ ∀ c, gF hF c = gF h c
  | 0, i, f, h, h0, hi, hf => by
    obtain ⟨f, rfl⟩ : ∃ f', f = f' + 1 := ⟨f - 1, by omega⟩
    refine ⟨yA h 8 6 (a + 6 + 10) 0 30, ?_, smX_yA (Or.inr (Or.inr rfl)), fun j hj => ?_, fun j hj => ?_, fun j hj => ?_, fun c => rfl⟩
    · rw [e_X5_restore_52, h0, if_pos (nI_le (by omega) (by omega)), litI 6, addI, litI 10, addI, clI (by omega), if_neg]
      rintro (q | q | q | q | q)
      · exact nI_pos (by omega) q
      · exact absurd q (by decide)
      · exact absurd q (by decide)
      · rw [show (30 : Int32).toNatClampNeg = 30 by decide] at q; omega
      · exact absurd q (by decide)
    · rw [gA_yA, if_neg (by omega), if_neg (by omega)]
    · rw [gA_yA, if_neg (by omega), if_neg (by omega)]
    · rw [gA_yA, if_pos rfl, if_pos (by omega), show a + 6 + 10 + (j - 0) = a + 16 + j by omega]
  | c + 1, i, f, h, h0, hi, hf => by
    obtain ⟨f, rfl⟩ : ∃ f', f = f' + 1 + 1 := ⟨f - 2, by omega⟩
    obtain ⟨hF, g1, g2, g3, g4, g5, g6⟩ := x_rst hn ha hm c (i + 1) f (sA (sA h 2 i (if i < m then gA h 8 (a + 6 + i) else gA h 4 i)) 5 i (if i < m then gA h 8 (a + 11 + i) else nI i)) h0 (by omega) (by omega)
    have r2 : ∀ (v w : Int32) (j : Nat), gA (sA (sA h 2 i v) 5 i w) 2 j = if j = i then v else gA h 2 j := fun v w j => by
      rw [gA_sAn (by omega), gA_sA]
      by_cases q : j = i <;> simp [q]
    have r5 : ∀ (v w : Int32) (j : Nat), gA (sA (sA h 2 i v) 5 i w) 5 j = if j = i then w else gA h 5 j := fun v w j => by
      rw [gA_sA, gA_sAn (by omega)]
      by_cases q : j = i <;> simp [q]
    have r8 : ∀ (c j : Nat) {v w : Int32}, c ≠ 2 → c ≠ 5 → gA (sA (sA h 2 i v) 5 i w) c j = gA h c j := fun c j v w h1 h2 => by
      rw [gA_sAn h2, gA_sAn h1]
    refine ⟨hF, ?_, ((smX_sA (Or.inl rfl)).tr (smX_sA (Or.inr (Or.inl rfl)))).tr g2, fun j hj => ?_, fun j hj => ?_, fun j hj => ?_, fun c => g6 c⟩
    · rw [← g1, e_X5_restore_52, h0, if_neg (nI_ge (by omega) (by omega))]
      by_cases hmi : i < m
      · rw [if_neg (nI_ge (by omega) (by omega)), litI 6, addI, addI, inbI (by omega) (by omega), e_X5_restore_92, inbI (by omega) (by omega), if_neg (nI_ge (by omega) (by omega)), litI 6, addI, litI 5, addI, addI, inbI (by omega) (by omega), inbI (by omega) (by omega), nI_1, if_pos hmi, if_pos hmi, show a + 6 + 5 + i = a + 11 + i by omega]
      · rw [if_pos (nI_le (by omega) (by omega)), inbI (by omega) (by omega), e_X5_restore_92, inbI (by omega) (by omega), if_pos (nI_le (by omega) (by omega)), inbI (by omega) (by omega), nI_1, if_neg hmi, if_neg hmi]
    · rw [g3 j hj]
      by_cases hj2 : j = i
      · subst hj2
        rw [if_neg (by omega), r2, if_pos rfl, if_pos (show j ≤ j ∧ j < n by omega)]
      · by_cases hj3 : i ≤ j ∧ j < n
        · rw [if_pos (show i + 1 ≤ j ∧ j < n by omega), if_pos hj3, r8 8 _ (by omega) (by omega), r8 4 _ (by omega) (by omega)]
        · rw [if_neg (by omega), if_neg hj3, r2, if_neg hj2]
    · rw [g4 j hj]
      by_cases hj2 : j = i
      · subst hj2
        rw [if_neg (by omega), r5, if_pos rfl, if_pos (show j ≤ j ∧ j < n by omega)]
      · by_cases hj3 : i ≤ j ∧ j < n
        · rw [if_pos (show i + 1 ≤ j ∧ j < n by omega), if_pos hj3, r8 8 _ (by omega) (by omega)]
        · rw [if_neg (by omega), if_neg hj3, r5, if_neg hj2]
    · rw [g5 j hj, r8 8 _ (by omega) (by omega)]
theorem x_undo {n t k m : Nat} (h : DT) {A : Nat → Int32} (HI : Inv A n t (k + 1)) (H : XA h A (k + 1)) (hm : m ≤ n) (em : A (76 + 46 * k) = nI m) (hr : RowOk A (77 + 46 * k) m) : XC X (d + 4) tx tu gu tl h 112 [vP (some 0)] (vI (nI k)) (undF A k n m) k := by
  have hn := HI.1.2.1
  have hk : k < 30 := by have := HI.2.2.1.2.1; omega
  have x0 := x0_of HI H
  obtain ⟨HR, ⟨s0, e, he, s1, s2⟩, HT⟩ := H
  have s0' : gF h 7 0 = nI (k + 1) := s0.trans HI.2.2.1.1
  have hb : (e + k) % 30 * 46 + 46 ≤ 1380 := by omega
  have rd : ∀ i, i < 46 → gA h 8 ((e + k) % 30 * 46 + pxI i) = A (76 + 46 * k + i) := fun i hi => s2 k i (by omega) hi
  have rd0 : gA h 8 ((e + k) % 30 * 46) = A (76 + 46 * k) := rd 0 (by omega)
  have rd1 : gA h 8 ((e + k) % 30 * 46 + 1) = A (76 + 46 * k + 4) := rd 4 (by omega)
  have rd2 : gA h 8 ((e + k) % 30 * 46 + 2) = A (76 + 46 * k + 3) := rd 3 (by omega)
  have rd3 : gA h 8 ((e + k) % 30 * 46 + 3) = A (76 + 46 * k + 1) := rd 1 (by omega)
  have rd4 : gA h 8 ((e + k) % 30 * 46 + 4) = A (76 + 46 * k + 2) := rd 2 (by omega)
  have rd5 : gA h 8 ((e + k) % 30 * 46 + 5) = A (76 + 46 * k + 5) := rd 5 (by omega)
  have rdx : ∀ i, 5 < i → i < 46 → gA h 8 ((e + k) % 30 * 46 + i) = A (76 + 46 * k + i) := fun i h1 h2 => by
    have := rd i h2
    have e2 : pxI i = i := by
      unfold pxI
      rw [if_neg (by omega), if_neg (by omega), if_neg (by omega), if_neg (by omega)]
    rw [e2] at this
    exact this
  generalize hat : (e + k) % 30 * 46 = a at *
  obtain ⟨hF, g1, g2, g3, g4, g5, g6⟩ := x_rst X (d + 1) tx tu gu tl (n := n) (m := m) (a := a) hn hb hm n 0 999999 (sF (sF (sF (sF (sF (sF h 7 0 (nI k)) 1 1 (gA h 8 (a + 1))) 1 2 (gA h 8 (a + 2))) 1 3 (gA h 8 (a + 3))) 1 4 (gA h 8 (a + 4))) 1 5 (gA h 8 (a + 5))) (by simp only [gF_sF]; rw [if_neg (by omega), if_neg (by omega), if_neg (by omega), if_neg (by omega), if_neg (by omega), if_neg (by omega)]; exact x0) (by omega) (by omega)
  have q1 : smX isXa h hF := ((((((smX_sF (by unfold isXa; omega)).tr (smX_sF (by unfold isXa; omega))).tr (smX_sF (by unfold isXa; omega))).tr (smX_sF (by unfold isXa; omega))).tr (smX_sF (by unfold isXa; omega))).tr (smX_sF (by unfold isXa; omega))).tr (g2.mo (fun c hc => by unfold isXa; omega))
  have fF : ∀ c, gF hF c = gF (sF (sF (sF (sF (sF (sF h 7 0 (nI k)) 1 1 (gA h 8 (a + 1))) 1 2 (gA h 8 (a + 2))) 1 3 (gA h 8 (a + 3))) 1 4 (gA h 8 (a + 4))) 1 5 (gA h 8 (a + 5))) c := fun c => by
    exact g6 c
  refine ⟨hF, ?_, q1, ?_, ?_, ?_⟩
  · rw [c_X10_undo, e_X10_undo_0, s0', if_neg (nI_ne0 (by omega) (by omega)), c_X6_takeBack, e_X6_takeBack_0, s0', if_neg (nI_ne0 (by omega) (by omega)), nI_pred, c_X6_placeOf, e_X6_placeOf_0, gF_sF, if_neg (by omega), s1, addI, litI 30, remI (by omega) (by omega) (by omega), litI 46, mulI, hat, bI_s, e_X6_takeBack_31, c_X5_restore, e_X5_restore_0, inbI (by omega) (by omega), litI 1, addI, inbI (by omega) (by omega), litI 2, addI, inbI (by omega) (by omega), litI 3, addI, inbI (by omega) (by omega), litI 4, addI, inbI (by omega) (by omega), litI 5, addI, inbI (by omega) (by omega)]
    simp only [gA_sF]
    rw [rd0, em]
    have g1' : m_X5_restore X (d + 1) 999999 52 [(0, vP (some 1)), (1, vP (some 8)), (2, vI (nI a)), (3, vI (nI m)), (4, vI 0)] [] (SK tx tu gu tl, sF (sF (sF (sF (sF (sF h 7 0 (nI k)) 1 1 (gA h 8 (a + 1))) 1 2 (gA h 8 (a + 2))) 1 3 (gA h 8 (a + 3))) 1 4 (gA h 8 (a + 4))) 1 5 (gA h 8 (a + 5))) = some (none, (SK tx tu gu tl, hF)) := g1
    rw [g1', bV_s, bV_s, e_X10_undo_23, fF]
    simp only [gF_sF]
    rw [if_neg (by omega), if_neg (by omega), if_neg (by omega), if_neg (by omega), if_neg (by omega), if_pos (by simp)]
  · obtain ⟨r0, r1, r2, r3, r4, r5, r6, r7, r8, r9, r10⟩ := HR
    refine ⟨?_, ?_, ?_, ?_, ?_, ?_, fun i hi => ?_, fun i hi => ?_, fun i hi => ?_, fun i hi => ?_, fun i hi => ?_⟩
    · rw [fF, undF_o (by omega) (by omega) (by omega) hn hm]
      simp only [gF_sF]
      rw [if_neg (by omega), if_neg (by omega), if_neg (by omega), if_neg (by omega), if_neg (by omega), if_neg (by omega)]
      exact r0
    · rw [fF, show (10 : Nat) = 7 + 3 from rfl, undF_r (by omega) hn hm]
      simp only [gF_sF]
      rw [if_neg (by omega), if_neg (by omega), if_neg (by omega), if_neg (by omega), if_pos (by simp), rd1]
      congr 1
      omega
    · rw [fF, show (9 : Nat) = 7 + 2 from rfl, undF_r (by omega) hn hm]
      simp only [gF_sF]
      rw [if_neg (by omega), if_neg (by omega), if_neg (by omega), if_pos (by simp), rd2]
      congr 1
      omega
    · have f0 := undF_r (A := A) (k := k) (n := n) (m := m) (i := 0) (by omega) hn hm
      rw [Nat.add_zero] at f0
      rw [fF, f0]
      simp only [gF_sF]
      rw [if_neg (by omega), if_neg (by omega), if_pos (by simp), rd3]
      congr 1
      omega
    · rw [fF, show (8 : Nat) = 7 + 1 from rfl, undF_r (by omega) hn hm]
      simp only [gF_sF]
      rw [if_neg (by omega), if_pos (by simp), rd4]
      congr 1
      omega
    · rw [fF, show (11 : Nat) = 7 + 4 from rfl, undF_r (by omega) hn hm]
      simp only [gF_sF]
      rw [if_pos (by simp), rd5]
      congr 1
      omega
    · rw [g3 i hi, undF_s hi hn hm]
      simp only [gA_sF]
      by_cases h1 : i < n
      · rw [if_pos (by omega)]
        by_cases h2 : i < m
        · rw [if_pos h2, if_neg (by omega), show a + 6 + i = a + (6 + i) by omega, rdx _ (by omega) (by omega)]
          congr 1
          omega
        · rw [if_neg h2, if_pos (by omega)]
          exact r8 i hi
      · rw [if_neg (by omega), if_neg (by omega)]
        have z1 := (HI.2.2.2.1.2.2.2.2.2.2.2.1 i (by omega) hi).1
        have z2 := (hr.2.2.2.2.2.2.2.1 i (by omega) hi).1
        rw [show 77 + 46 * k + 5 + i = 82 + 46 * k + i by omega] at z2
        rw [z2]
        exact (r6 i hi).trans z1
    · rw [smA g2 (by omega), undF_o (by omega) (by omega) (by omega) hn hm]
      exact r7 i hi
    · rw [smA g2 (by omega), undF_o (by omega) (by omega) (by omega) hn hm]
      exact r8 i hi
    · rw [g4 i hi, undF_t hi hn hm]
      simp only [gA_sF]
      by_cases h1 : i < n
      · rw [if_pos (by omega)]
        by_cases h2 : i < m
        · rw [if_pos h2, if_neg (by omega), show a + 11 + i = a + (11 + i) by omega, rdx _ (by omega) (by omega)]
          congr 1
          omega
        · rw [if_neg h2, if_pos (by omega)]
      · rw [if_neg (by omega), if_neg (by omega)]
        have z1 := (HI.2.2.2.1.2.2.2.2.2.2.2.1 i (by omega) hi).2
        have z2 := (hr.2.2.2.2.2.2.2.1 i (by omega) hi).2
        rw [show 77 + 46 * k + 10 + i = 87 + 46 * k + i by omega] at z2
        rw [z2]
        exact (r9 i hi).trans z1
    · rw [g5 i hi, undF_b hk hi hn hm]
      simp only [gA_sF]
      rw [show a + 16 + i = a + (16 + i) by omega, rdx _ (by omega) (by omega)]
      congr 1
      omega
  · refine ⟨?_, e, he, ?_, fun j i hj hi => ?_⟩
    · rw [fF, undF_3 hn hm]
      simp only [gF_sF]
      rw [if_neg (by omega), if_neg (by omega), if_neg (by omega), if_neg (by omega), if_neg (by omega), if_pos (by simp)]
    · rw [fF]
      simp only [gF_sF]
      rw [if_neg (by omega), if_neg (by omega), if_neg (by omega), if_neg (by omega), if_neg (by omega), if_neg (by omega)]
      exact s1
    · rw [smA g2 (by omega), undF_o (by omega) (by omega) (by omega) hn hm]
      exact s2 j i (by omega) hi
  · refine (HT.cg fun c hc1 hc2 => ⟨?_, smA g2 (by omega)⟩).cA fun i hi => undF_o (by omega) (by omega) (by omega) hn hm
    rw [fF]
    rw [gF_sFn (by omega), gF_sFn (by omega), gF_sFn (by omega), gF_sFn (by omega), gF_sFn (by omega), gF_sFn (by omega)]
theorem op_undo {n t k : Nat} (h : DT) (H : RA h (gA h 73) n t k) : OpA X tx tu gu tl h n t k 112 [vP (some 0)] 233 [vP (some 72)] := by
  obtain ⟨HI, HX⟩ := id H
  cases k with
  | zero =>
    refine OpA_id (v := vI (-1)) H ?_ ?_
    · rw [c_X10_undo, e_X10_undo_0, HX.2.1.1, HI.2.2.1.1, if_pos (by decide)]
    · rw [c_X11_undo, e_X11_undo_0, HI.2.2.1.1, if_pos (by decide)]
  | succ k =>
    obtain ⟨m, hm, em, hr⟩ := HI.2.2.1.2.2 k (by omega)
    refine OpA_of (x_undo X 96 tx tu gu tl h HI HX hm em hr) (fun h1 s => ?_) (HI.un hm hr)
    refine KC_w ?_
    rw [← sm73 s]
    exact k_undo X 98 tx tu gu tl h1 (by rw [sm73 s]; exact HI.2.2.1.1) (by have := HI.2.2.1.2.1; omega) (by rw [sm73 s]; exact HI.1.1) HI.1.2.1 hm (by rw [sm73 s]; exact em)
end UN
