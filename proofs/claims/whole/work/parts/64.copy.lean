/-! COPIES of the reference -/
theorem c_X11_copya (X : XS) (d : Nat) (H : HP) : cal X (d + 1) 161 [vP (some 73), vP (some 74)] H = m_X11_copy X d 1000000 0 [(0, vP (some 73)), (1, vP (some 74))] [] H := cal_eq t_X11_copy _ _ rfl
set_option maxRecDepth 20000 in
theorem e_X11_copya_0 (X : XS) (d f : Nat) (tx : Option Nat) (tu : Option Nat) (gu : Option Nat) (tl : List SC) (h : DT) : m_X11_copy X d (f + 1) 0 [(0, vP (some 73)), (1, vP (some 74))] [] (SK tx tu gu tl, h) = m_X11_copy X d f 2 [(0, vP (some 73)), (1, vP (some 74)), (2, vI 0)] [] (SK tx tu gu tl, h) := rfl
set_option maxRecDepth 20000 in
theorem e_X11_copya_2 (X : XS) (d f : Nat) (x2 : Int32) (tx : Option Nat) (tu : Option Nat) (gu : Option Nat) (tl : List SC) (h : DT) : m_X11_copy X d (f + 1) 2 [(0, vP (some 73)), (1, vP (some 74)), (2, vI x2)] [] (SK tx tu gu tl, h) = if 1486 ≤ x2 then (some (none, (SK tx tu gu tl, h))) else inb x2 1486 fun j1 => inb x2 1486 fun j2 => m_X11_copy X d f 2 [(0, vP (some 73)), (1, vP (some 74)), (2, vI (x2 + 1))] [] (SK tx tu gu tl, (sA h 74 j2 (gA h 73 j1))) := rfl
theorem c_X11_copyb (X : XS) (d : Nat) (H : HP) : cal X (d + 1) 161 [vP (some 74), vP (some 73)] H = m_X11_copy X d 1000000 0 [(0, vP (some 74)), (1, vP (some 73))] [] H := cal_eq t_X11_copy _ _ rfl
set_option maxRecDepth 20000 in
theorem e_X11_copyb_0 (X : XS) (d f : Nat) (tx : Option Nat) (tu : Option Nat) (gu : Option Nat) (tl : List SC) (h : DT) : m_X11_copy X d (f + 1) 0 [(0, vP (some 74)), (1, vP (some 73))] [] (SK tx tu gu tl, h) = m_X11_copy X d f 2 [(0, vP (some 74)), (1, vP (some 73)), (2, vI 0)] [] (SK tx tu gu tl, h) := rfl
set_option maxRecDepth 20000 in
theorem e_X11_copyb_2 (X : XS) (d f : Nat) (x2 : Int32) (tx : Option Nat) (tu : Option Nat) (gu : Option Nat) (tl : List SC) (h : DT) : m_X11_copy X d (f + 1) 2 [(0, vP (some 74)), (1, vP (some 73)), (2, vI x2)] [] (SK tx tu gu tl, h) = if 1486 ≤ x2 then (some (none, (SK tx tu gu tl, h))) else inb x2 1486 fun j1 => inb x2 1486 fun j2 => m_X11_copy X d f 2 [(0, vP (some 74)), (1, vP (some 73)), (2, vI (x2 + 1))] [] (SK tx tu gu tl, (sA h 73 j2 (gA h 74 j1))) := rfl
theorem Inv.agZ {A B : Nat → Int32} {n t k : Nat} (H : Inv A n t k) (e : ∀ i, i < 1486 → B i = A i) : Inv B n t k := by
  obtain ⟨h1, h2, h3, h4, ⟨w, h5⟩, ⟨q, h6⟩, s, h7⟩ := H
  exact ⟨h1.cg (e _ (by omega)) (fun i _ _ => e _ (by omega)), h2.cg (e _ (by omega)) (e _ (by omega)), h3.cg (Nat.le_refl _) (e _ (by omega)) (fun i _ _ => e _ (by omega)), h4.cg (fun i _ => e _ (by omega)), ⟨w, h5.cg (e _ (by omega)) (fun i _ _ => e _ (by omega))⟩, ⟨q, h6.cg (Nat.le_refl _) (e _ (by omega)) (fun i _ _ => e _ (by omega))⟩, s, h7.cg (Nat.le_refl _) (e _ (by omega)) (fun i _ _ => e _ (by omega))⟩
theorem XRow.ag {h : DT} {p : Nat} {A B : Nat → Int32} (H : XRow h p A) (e : ∀ i, i < 1486 → B i = A i) : XRow h p B := by
  obtain ⟨r0, r1, r2, r3, r4, r5, r6, r7, r8, r9, r10⟩ := H
  exact ⟨r0.trans (e _ (by omega)).symm, r1.trans (e _ (by omega)).symm, r2.trans (e _ (by omega)).symm, r3.trans (e _ (by omega)).symm, r4.trans (e _ (by omega)).symm, r5.trans (e _ (by omega)).symm, fun i hi => (r6 i hi).trans (e _ (by omega)).symm, fun i hi => (r7 i hi).trans (e _ (by omega)).symm, fun i hi => (r8 i hi).trans (e _ (by omega)).symm, fun i hi => (r9 i hi).trans (e _ (by omega)).symm, fun i hi => (r10 i hi).trans (e _ (by omega)).symm⟩
theorem XTold.ag {h : DT} {p : Nat} {A B : Nat → Int32} (H : XTold h p A) (e : ∀ i, i < 1486 → B i = A i) : XTold h p B := by
  obtain ⟨r0, r1, r2, r3, r4, r5, r6, r7, r8, r9, r10, r11⟩ := H
  exact ⟨r0.trans (e _ (by omega)).symm, r1.trans (e _ (by omega)).symm, r2.trans (e _ (by omega)).symm, r3.trans (e _ (by omega)).symm, r4.trans (e _ (by omega)).symm, r5.trans (e _ (by omega)).symm, fun i hi => (r6 i hi).trans (e _ (by omega)).symm, fun i hi => (r7 i hi).trans (e _ (by omega)).symm, fun i hi => (r8 i hi).trans (e _ (by omega)).symm, fun i hi => (r9 i hi).trans (e _ (by omega)).symm, fun i hi => (r10 i hi).trans (e _ (by omega)).symm, fun i hi => (r11 i hi).trans (e _ (by omega)).symm⟩
theorem XSteps.ag {h : DT} {p k : Nat} {A B : Nat → Int32} (H : XSteps h p A k) (hk : k ≤ 30) (e : ∀ i, i < 1486 → B i = A i) : XSteps h p B k := by
  obtain ⟨r0, x, hx, r1, r2⟩ := H
  exact ⟨r0.trans (e _ (by omega)).symm, x, hx, r1, fun j i hj hi => (r2 j i hj hi).trans (e _ (by omega)).symm⟩
theorem pxI_ltI {i : Nat} (h : i < 46) : pxI i < 46 := by
  unfold pxI
  split
  · omega
  · split
    · omega
    · split
      · omega
      · split <;> omega
section CP
variable (X : XS) (d : Nat) (tx tu gu : Option Nat) (tl : List SC)
theorem k_copya (h : DT) : ∃ h', cal X (d + 1) 161 [vP (some 73), vP (some 74)] (SK tx tu gu tl, h) = some (none, (SK tx tu gu tl, h')) ∧ smX (fun c => c = 74) h h' ∧ ∀ j, j < 1486 → gA h' 74 j = gA h 73 j := by
  have lp : ∀ c i (h1 : DT), i + c = 1486 → gA h1 73 = gA h 73 → (∀ j, j < i → gA h1 74 j = gA h 73 j) → ∃ h', (∀ f, m_X11_copy X d (f + c + 1) 2 [(0, vP (some 73)), (1, vP (some 74)), (2, vI (nI i))] [] (SK tx tu gu tl, h1) = some (none, (SK tx tu gu tl, h'))) ∧ smX (fun c => c = 74) h1 h' ∧ ∀ j, j < 1486 → gA h' 74 j = gA h 73 j := by
    intro c
    induction c with
    | zero =>
      intro i h1 hi ha hd
      refine ⟨h1, fun f => ?_, smX.rf _ h1, fun j hj => hd j (by omega)⟩
      rw [e_X11_copya_2, litI 1486, if_pos (nI_le (by omega) (by omega))]
    | succ c ih =>
      intro i h1 hi ha hd
      obtain ⟨h', k1, k2, k3⟩ := ih (i + 1) (sA h1 74 i (gA h1 73 i)) (by omega) (by rw [gA_sAn (by omega)]; exact ha) (fun j hj => by
        rw [gA_sA]
        by_cases z : j = i
        · subst z
          rw [if_pos ⟨rfl, rfl⟩, ha]
        · rw [if_neg (fun q => z q.2)]
          exact hd j (by omega))
      refine ⟨h', fun f => ?_, smX.tr (smX_sA rfl) k2, k3⟩
      rw [show f + (c + 1) + 1 = f + c + 1 + 1 by omega, e_X11_copya_2, litI 1486, if_neg (nI_ge (by omega) (by omega)), inbI (by omega) (by omega), inbI (by omega) (by omega), nI_1]
      exact k1 f
  obtain ⟨h', k1, k2, k3⟩ := lp 1486 0 h (by omega) rfl (fun j hj => by omega)
  refine ⟨h', ?_, k2, k3⟩
  rw [c_X11_copya, e_X11_copya_0]
  exact k1 998512
theorem k_copyb (h : DT) : ∃ h', cal X (d + 1) 161 [vP (some 74), vP (some 73)] (SK tx tu gu tl, h) = some (none, (SK tx tu gu tl, h')) ∧ smX (fun c => c = 73) h h' ∧ ∀ j, j < 1486 → gA h' 73 j = gA h 74 j := by
  have lp : ∀ c i (h1 : DT), i + c = 1486 → gA h1 74 = gA h 74 → (∀ j, j < i → gA h1 73 j = gA h 74 j) → ∃ h', (∀ f, m_X11_copy X d (f + c + 1) 2 [(0, vP (some 74)), (1, vP (some 73)), (2, vI (nI i))] [] (SK tx tu gu tl, h1) = some (none, (SK tx tu gu tl, h'))) ∧ smX (fun c => c = 73) h1 h' ∧ ∀ j, j < 1486 → gA h' 73 j = gA h 74 j := by
    intro c
    induction c with
    | zero =>
      intro i h1 hi ha hd
      refine ⟨h1, fun f => ?_, smX.rf _ h1, fun j hj => hd j (by omega)⟩
      rw [e_X11_copyb_2, litI 1486, if_pos (nI_le (by omega) (by omega))]
    | succ c ih =>
      intro i h1 hi ha hd
      obtain ⟨h', k1, k2, k3⟩ := ih (i + 1) (sA h1 73 i (gA h1 74 i)) (by omega) (by rw [gA_sAn (by omega)]; exact ha) (fun j hj => by
        rw [gA_sA]
        by_cases z : j = i
        · subst z
          rw [if_pos ⟨rfl, rfl⟩, ha]
        · rw [if_neg (fun q => z q.2)]
          exact hd j (by omega))
      refine ⟨h', fun f => ?_, smX.tr (smX_sA rfl) k2, k3⟩
      rw [show f + (c + 1) + 1 = f + c + 1 + 1 by omega, e_X11_copyb_2, litI 1486, if_neg (nI_ge (by omega) (by omega)), inbI (by omega) (by omega), inbI (by omega) (by omega), nI_1]
      exact k1 f
  obtain ⟨h', k1, k2, k3⟩ := lp 1486 0 h (by omega) rfl (fun j hj => by omega)
  refine ⟨h', ?_, k2, k3⟩
  rw [c_X11_copyb, e_X11_copyb_0]
  exact k1 998512
theorem x_cprb (h : DT) {A : Nat → Int32} (H : XRow h 1 A) : ∃ h1, cal X (d + 1) 74 [vP (some 16), vP (some 1)] (SK tx tu gu tl, h) = some (none, (SK tx tu gu tl, h1)) ∧ smX (fun c => 16 ≤ c ∧ c ≤ 21) h h1 ∧ XRow h1 16 A := by
  obtain ⟨r0, r1, r2, r3, r4, r5, r6, r7, r8, r9, r10⟩ := H
  refine ⟨_, by rw [c_X5_copyb, e_X5_copyb_0], ?_, ?_, ?_, ?_, ?_, ?_, ?_, fun i hi => ?_, fun i hi => ?_, fun i hi => ?_, fun i hi => ?_, fun i hi => ?_⟩
  · exact (((((((((((smX_sF (S := fun c => 16 ≤ c ∧ c ≤ 21) (by omega)).tr (smX_sF (by omega))).tr (smX_sF (by omega))).tr (smX_sF (by omega))).tr (smX_sF (by omega))).tr (smX_sF (by omega))).tr (smX_yA (by omega))).tr (smX_yA (by omega))).tr (smX_yA (by omega))).tr (smX_yA (by omega))).tr (smX_yA (by omega)))
  · simp only [gF_yA, gF_sF]
    rw [if_neg (by omega), if_neg (by omega), if_neg (by omega), if_neg (by omega), if_neg (by omega), if_pos (by simp)]
    exact r0
  · simp only [gF_yA, gF_sF]
    rw [if_neg (by omega), if_neg (by omega), if_neg (by omega), if_neg (by omega), if_pos (by simp)]
    exact r1
  · simp only [gF_yA, gF_sF]
    rw [if_neg (by omega), if_neg (by omega), if_neg (by omega), if_pos (by simp)]
    exact r2
  · simp only [gF_yA, gF_sF]
    rw [if_neg (by omega), if_neg (by omega), if_pos (by simp)]
    exact r3
  · simp only [gF_yA, gF_sF]
    rw [if_neg (by omega), if_pos (by simp)]
    exact r4
  · simp only [gF_yA, gF_sF]
    rw [if_pos (by simp)]
    exact r5
  · rw [gA_yA, if_neg (by omega), gA_yA, if_neg (by omega), gA_yA, if_neg (by omega), gA_yA, if_neg (by omega), gA_yA, if_pos rfl, if_pos (by omega)]
    simp only [gA_sF]
    rw [show 0 + (i - 0) = i by omega]
    exact r6 i hi
  · rw [gA_yA, if_neg (by omega), gA_yA, if_neg (by omega), gA_yA, if_neg (by omega), gA_yA, if_pos rfl, if_pos (by omega), gA_yA, if_neg (by omega)]
    simp only [gA_sF]
    rw [show 0 + (i - 0) = i by omega]
    exact r7 i hi
  · rw [gA_yA, if_neg (by omega), gA_yA, if_neg (by omega), gA_yA, if_pos rfl, if_pos (by omega), gA_yA, if_neg (by omega), gA_yA, if_neg (by omega)]
    simp only [gA_sF]
    rw [show 0 + (i - 0) = i by omega]
    exact r8 i hi
  · rw [gA_yA, if_neg (by omega), gA_yA, if_pos rfl, if_pos (by omega), gA_yA, if_neg (by omega), gA_yA, if_neg (by omega), gA_yA, if_neg (by omega)]
    simp only [gA_sF]
    rw [show 0 + (i - 0) = i by omega]
    exact r9 i hi
  · rw [gA_yA, if_pos rfl, if_pos (by omega), gA_yA, if_neg (by omega), gA_yA, if_neg (by omega), gA_yA, if_neg (by omega), gA_yA, if_neg (by omega)]
    simp only [gA_sF]
    rw [show 0 + (i - 0) = i by omega]
    exact r10 i hi
theorem x_cprc (h : DT) {A : Nat → Int32} (H : XRow h 16 A) : ∃ h1, cal X (d + 1) 74 [vP (some 1), vP (some 16)] (SK tx tu gu tl, h) = some (none, (SK tx tu gu tl, h1)) ∧ smX (fun c => 1 ≤ c ∧ c ≤ 6) h h1 ∧ XRow h1 1 A := by
  obtain ⟨r0, r1, r2, r3, r4, r5, r6, r7, r8, r9, r10⟩ := H
  refine ⟨_, by rw [c_X5_copyc, e_X5_copyc_0], ?_, ?_, ?_, ?_, ?_, ?_, ?_, fun i hi => ?_, fun i hi => ?_, fun i hi => ?_, fun i hi => ?_, fun i hi => ?_⟩
  · exact (((((((((((smX_sF (S := fun c => 1 ≤ c ∧ c ≤ 6) (by omega)).tr (smX_sF (by omega))).tr (smX_sF (by omega))).tr (smX_sF (by omega))).tr (smX_sF (by omega))).tr (smX_sF (by omega))).tr (smX_yA (by omega))).tr (smX_yA (by omega))).tr (smX_yA (by omega))).tr (smX_yA (by omega))).tr (smX_yA (by omega)))
  · simp only [gF_yA, gF_sF]
    rw [if_neg (by omega), if_neg (by omega), if_neg (by omega), if_neg (by omega), if_neg (by omega), if_pos (by simp)]
    exact r0
  · simp only [gF_yA, gF_sF]
    rw [if_neg (by omega), if_neg (by omega), if_neg (by omega), if_neg (by omega), if_pos (by simp)]
    exact r1
  · simp only [gF_yA, gF_sF]
    rw [if_neg (by omega), if_neg (by omega), if_neg (by omega), if_pos (by simp)]
    exact r2
  · simp only [gF_yA, gF_sF]
    rw [if_neg (by omega), if_neg (by omega), if_pos (by simp)]
    exact r3
  · simp only [gF_yA, gF_sF]
    rw [if_neg (by omega), if_pos (by simp)]
    exact r4
  · simp only [gF_yA, gF_sF]
    rw [if_pos (by simp)]
    exact r5
  · rw [gA_yA, if_neg (by omega), gA_yA, if_neg (by omega), gA_yA, if_neg (by omega), gA_yA, if_neg (by omega), gA_yA, if_pos rfl, if_pos (by omega)]
    simp only [gA_sF]
    rw [show 0 + (i - 0) = i by omega]
    exact r6 i hi
  · rw [gA_yA, if_neg (by omega), gA_yA, if_neg (by omega), gA_yA, if_neg (by omega), gA_yA, if_pos rfl, if_pos (by omega), gA_yA, if_neg (by omega)]
    simp only [gA_sF]
    rw [show 0 + (i - 0) = i by omega]
    exact r7 i hi
  · rw [gA_yA, if_neg (by omega), gA_yA, if_neg (by omega), gA_yA, if_pos rfl, if_pos (by omega), gA_yA, if_neg (by omega), gA_yA, if_neg (by omega)]
    simp only [gA_sF]
    rw [show 0 + (i - 0) = i by omega]
    exact r8 i hi
  · rw [gA_yA, if_neg (by omega), gA_yA, if_pos rfl, if_pos (by omega), gA_yA, if_neg (by omega), gA_yA, if_neg (by omega), gA_yA, if_neg (by omega)]
    simp only [gA_sF]
    rw [show 0 + (i - 0) = i by omega]
    exact r9 i hi
  · rw [gA_yA, if_pos rfl, if_pos (by omega), gA_yA, if_neg (by omega), gA_yA, if_neg (by omega), gA_yA, if_neg (by omega), gA_yA, if_neg (by omega)]
    simp only [gA_sF]
    rw [show 0 + (i - 0) = i by omega]
    exact r10 i hi
theorem x_cpsa (h : DT) {A : Nat → Int32} {k : Nat} (H : XSteps h 7 A k) : ∃ h1, cal X (d + 1) 80 [vP (some 22), vP (some 7)] (SK tx tu gu tl, h) = some (none, (SK tx tu gu tl, h1)) ∧ smX (fun c => 22 ≤ c ∧ c ≤ 23) h h1 ∧ XSteps h1 22 A k := by
  obtain ⟨r0, x, hx, r1, r2⟩ := H
  refine ⟨_, by rw [c_X6_copya, e_X6_copya_0], ?_, ?_, x, hx, ?_, fun j i hj hi => ?_⟩
  · exact (((smX_sF (S := fun c => 22 ≤ c ∧ c ≤ 23) (by omega)).tr (smX_sF (by omega))).tr (smX_yA (by omega)))
  · simp only [gF_yA, gF_sF]
    rw [if_neg (by omega), if_pos (by simp)]
    exact r0
  · simp only [gF_yA, gF_sF]
    rw [if_pos (by simp)]
    exact r1
  · have := pxI_ltI hi
    have hm : (x + j) % 30 < 30 := Nat.mod_lt _ (by omega)
    rw [gA_yA, if_pos rfl, if_pos (by omega)]
    simp only [gA_sF]
    rw [show 0 + ((x + j) % 30 * 46 + pxI i - 0) = (x + j) % 30 * 46 + pxI i by omega]
    exact r2 j i hj hi
theorem x_cpsb (h : DT) {A : Nat → Int32} {k : Nat} (H : XSteps h 22 A k) : ∃ h1, cal X (d + 1) 80 [vP (some 7), vP (some 22)] (SK tx tu gu tl, h) = some (none, (SK tx tu gu tl, h1)) ∧ smX (fun c => 7 ≤ c ∧ c ≤ 8) h h1 ∧ XSteps h1 7 A k := by
  obtain ⟨r0, x, hx, r1, r2⟩ := H
  refine ⟨_, by rw [c_X6_copyb, e_X6_copyb_0], ?_, ?_, x, hx, ?_, fun j i hj hi => ?_⟩
  · exact (((smX_sF (S := fun c => 7 ≤ c ∧ c ≤ 8) (by omega)).tr (smX_sF (by omega))).tr (smX_yA (by omega)))
  · simp only [gF_yA, gF_sF]
    rw [if_neg (by omega), if_pos (by simp)]
    exact r0
  · simp only [gF_yA, gF_sF]
    rw [if_pos (by simp)]
    exact r1
  · have := pxI_ltI hi
    have hm : (x + j) % 30 < 30 := Nat.mod_lt _ (by omega)
    rw [gA_yA, if_pos rfl, if_pos (by omega)]
    simp only [gA_sF]
    rw [show 0 + ((x + j) % 30 * 46 + pxI i - 0) = (x + j) % 30 * 46 + pxI i by omega]
    exact r2 j i hj hi
theorem x_cpta (h : DT) {A : Nat → Int32} (H : XTold h 9 A) : ∃ h1, cal X (d + 1) 90 [vP (some 24), vP (some 9)] (SK tx tu gu tl, h) = some (none, (SK tx tu gu tl, h1)) ∧ smX (fun c => 24 ≤ c ∧ c ≤ 30) h h1 ∧ XTold h1 24 A := by
  obtain ⟨r0, r1, r2, r3, r4, r5, r6, r7, r8, r9, r10, r11⟩ := H
  refine ⟨_, by rw [c_X8_copya, e_X8_copya_0], ?_, ?_, ?_, ?_, ?_, ?_, ?_, fun i hi => ?_, fun i hi => ?_, fun i hi => ?_, fun i hi => ?_, fun i hi => ?_, fun i hi => ?_⟩
  · exact ((((((((((((smX_sF (S := fun c => 24 ≤ c ∧ c ≤ 30) (by omega)).tr (smX_sF (by omega))).tr (smX_sF (by omega))).tr (smX_sF (by omega))).tr (smX_sF (by omega))).tr (smX_sF (by omega))).tr (smX_yA (by omega))).tr (smX_yA (by omega))).tr (smX_yA (by omega))).tr (smX_yA (by omega))).tr (smX_yA (by omega))).tr (smX_yA (by omega)))
  · simp only [gF_yA, gF_sF]
    rw [if_neg (by omega), if_neg (by omega), if_neg (by omega), if_neg (by omega), if_neg (by omega), if_pos (by simp)]
    exact r0
  · simp only [gF_yA, gF_sF]
    rw [if_neg (by omega), if_neg (by omega), if_neg (by omega), if_neg (by omega), if_pos (by simp)]
    exact r1
  · simp only [gF_yA, gF_sF]
    rw [if_neg (by omega), if_neg (by omega), if_neg (by omega), if_pos (by simp)]
    exact r2
  · simp only [gF_yA, gF_sF]
    rw [if_neg (by omega), if_neg (by omega), if_pos (by simp)]
    exact r3
  · simp only [gF_yA, gF_sF]
    rw [if_neg (by omega), if_pos (by simp)]
    exact r4
  · simp only [gF_yA, gF_sF]
    rw [if_pos (by simp)]
    exact r5
  · rw [gA_yA, if_neg (by omega), gA_yA, if_neg (by omega), gA_yA, if_neg (by omega), gA_yA, if_neg (by omega), gA_yA, if_neg (by omega), gA_yA, if_pos rfl, if_pos (by omega)]
    simp only [gA_sF]
    rw [show 0 + (i - 0) = i by omega]
    exact r6 i hi
  · rw [gA_yA, if_neg (by omega), gA_yA, if_neg (by omega), gA_yA, if_neg (by omega), gA_yA, if_neg (by omega), gA_yA, if_pos rfl, if_pos (by omega), gA_yA, if_neg (by omega)]
    simp only [gA_sF]
    rw [show 0 + (i - 0) = i by omega]
    exact r7 i hi
  · rw [gA_yA, if_neg (by omega), gA_yA, if_neg (by omega), gA_yA, if_neg (by omega), gA_yA, if_pos rfl, if_pos (by omega), gA_yA, if_neg (by omega), gA_yA, if_neg (by omega)]
    simp only [gA_sF]
    rw [show 0 + (i - 0) = i by omega]
    exact r8 i hi
  · rw [gA_yA, if_neg (by omega), gA_yA, if_neg (by omega), gA_yA, if_pos rfl, if_pos (by omega), gA_yA, if_neg (by omega), gA_yA, if_neg (by omega), gA_yA, if_neg (by omega)]
    simp only [gA_sF]
    rw [show 0 + (i - 0) = i by omega]
    exact r9 i hi
  · rw [gA_yA, if_neg (by omega), gA_yA, if_pos rfl, if_pos (by omega), gA_yA, if_neg (by omega), gA_yA, if_neg (by omega), gA_yA, if_neg (by omega), gA_yA, if_neg (by omega)]
    simp only [gA_sF]
    rw [show 0 + (i - 0) = i by omega]
    exact r10 i hi
  · rw [gA_yA, if_pos rfl, if_pos (by omega), gA_yA, if_neg (by omega), gA_yA, if_neg (by omega), gA_yA, if_neg (by omega), gA_yA, if_neg (by omega), gA_yA, if_neg (by omega)]
    simp only [gA_sF]
    rw [show 0 + (i - 0) = i by omega]
    exact r11 i hi
theorem x_cptb (h : DT) {A : Nat → Int32} (H : XTold h 24 A) : ∃ h1, cal X (d + 1) 90 [vP (some 9), vP (some 24)] (SK tx tu gu tl, h) = some (none, (SK tx tu gu tl, h1)) ∧ smX (fun c => 9 ≤ c ∧ c ≤ 15) h h1 ∧ XTold h1 9 A := by
  obtain ⟨r0, r1, r2, r3, r4, r5, r6, r7, r8, r9, r10, r11⟩ := H
  refine ⟨_, by rw [c_X8_copyb, e_X8_copyb_0], ?_, ?_, ?_, ?_, ?_, ?_, ?_, fun i hi => ?_, fun i hi => ?_, fun i hi => ?_, fun i hi => ?_, fun i hi => ?_, fun i hi => ?_⟩
  · exact ((((((((((((smX_sF (S := fun c => 9 ≤ c ∧ c ≤ 15) (by omega)).tr (smX_sF (by omega))).tr (smX_sF (by omega))).tr (smX_sF (by omega))).tr (smX_sF (by omega))).tr (smX_sF (by omega))).tr (smX_yA (by omega))).tr (smX_yA (by omega))).tr (smX_yA (by omega))).tr (smX_yA (by omega))).tr (smX_yA (by omega))).tr (smX_yA (by omega)))
  · simp only [gF_yA, gF_sF]
    rw [if_neg (by omega), if_neg (by omega), if_neg (by omega), if_neg (by omega), if_neg (by omega), if_pos (by simp)]
    exact r0
  · simp only [gF_yA, gF_sF]
    rw [if_neg (by omega), if_neg (by omega), if_neg (by omega), if_neg (by omega), if_pos (by simp)]
    exact r1
  · simp only [gF_yA, gF_sF]
    rw [if_neg (by omega), if_neg (by omega), if_neg (by omega), if_pos (by simp)]
    exact r2
  · simp only [gF_yA, gF_sF]
    rw [if_neg (by omega), if_neg (by omega), if_pos (by simp)]
    exact r3
  · simp only [gF_yA, gF_sF]
    rw [if_neg (by omega), if_pos (by simp)]
    exact r4
  · simp only [gF_yA, gF_sF]
    rw [if_pos (by simp)]
    exact r5
  · rw [gA_yA, if_neg (by omega), gA_yA, if_neg (by omega), gA_yA, if_neg (by omega), gA_yA, if_neg (by omega), gA_yA, if_neg (by omega), gA_yA, if_pos rfl, if_pos (by omega)]
    simp only [gA_sF]
    rw [show 0 + (i - 0) = i by omega]
    exact r6 i hi
  · rw [gA_yA, if_neg (by omega), gA_yA, if_neg (by omega), gA_yA, if_neg (by omega), gA_yA, if_neg (by omega), gA_yA, if_pos rfl, if_pos (by omega), gA_yA, if_neg (by omega)]
    simp only [gA_sF]
    rw [show 0 + (i - 0) = i by omega]
    exact r7 i hi
  · rw [gA_yA, if_neg (by omega), gA_yA, if_neg (by omega), gA_yA, if_neg (by omega), gA_yA, if_pos rfl, if_pos (by omega), gA_yA, if_neg (by omega), gA_yA, if_neg (by omega)]
    simp only [gA_sF]
    rw [show 0 + (i - 0) = i by omega]
    exact r8 i hi
  · rw [gA_yA, if_neg (by omega), gA_yA, if_neg (by omega), gA_yA, if_pos rfl, if_pos (by omega), gA_yA, if_neg (by omega), gA_yA, if_neg (by omega), gA_yA, if_neg (by omega)]
    simp only [gA_sF]
    rw [show 0 + (i - 0) = i by omega]
    exact r9 i hi
  · rw [gA_yA, if_neg (by omega), gA_yA, if_pos rfl, if_pos (by omega), gA_yA, if_neg (by omega), gA_yA, if_neg (by omega), gA_yA, if_neg (by omega), gA_yA, if_neg (by omega)]
    simp only [gA_sF]
    rw [show 0 + (i - 0) = i by omega]
    exact r10 i hi
  · rw [gA_yA, if_pos rfl, if_pos (by omega), gA_yA, if_neg (by omega), gA_yA, if_neg (by omega), gA_yA, if_neg (by omega), gA_yA, if_neg (by omega), gA_yA, if_neg (by omega)]
    simp only [gA_sF]
    rw [show 0 + (i - 0) = i by omega]
    exact r11 i hi
end CP
