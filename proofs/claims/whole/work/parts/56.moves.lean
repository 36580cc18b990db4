/-! MOVES: swapped, turned, propped, each by a step that is kept; contracts of class and reference apart, over a row of numbers A -/
def XC (X : XS) (d : Nat) (tx tu gu : Option Nat) (tl : List SC) (h : DT) (y : Nat) (as : List AV) (v : AV) (B : Nat → Int32) (k' : Nat) : Prop :=
  ∃ h1, cal X d y as (SK tx tu gu tl, h) = some (some v, (SK tx tu gu tl, h1)) ∧ smX isXa h h1 ∧ XA h1 B k'
def KC (X : XS) (d : Nat) (tx tu gu : Option Nat) (tl : List SC) (h : DT) (y : Nat) (as : List AV) (v : AV) (B : Nat → Int32) : Prop :=
  ∃ h2, cal X d y as (SK tx tu gu tl, h) = some (some v, (SK tx tu gu tl, h2)) ∧ mSame h h2 ∧ gA h2 73 = B ∧ (NmA h 78 → NmA h2 78)
theorem OpA_of {X : XS} {tx tu gu : Option Nat} {tl : List SC} {h : DT} {n t k yx : Nat} {ax : List AV} {ym : Nat} {am : List AV} {v : AV} {B : Nat → Int32} {n' k' : Nat} (hx : XC X 100 tx tu gu tl h yx ax v B k') (hk : ∀ h1, smX isXa h h1 → KC X 100 tx tu gu tl h1 ym am v B) (hI : Inv B n' t k') : OpA X tx tu gu tl h n t k yx ax ym am := by
  obtain ⟨h1, e1, s1, x1⟩ := hx
  obtain ⟨h2, e2, m2, g2, g3⟩ := hk h1 s1
  exact ⟨v, h1, h2, n', k', e1, e2, s1.mo (fun c hc => Or.inl hc), m2, by rw [g2]; exact ⟨hI, x1⟩, fun q k hk => by rw [smA s1 (by unfold isXa; omega)]; exact q k hk, g3⟩
theorem sm73 {h h1 : DT} (H : smX isXa h h1) : gA h1 73 = gA h 73 := smA H (by unfold isXa; omega)
theorem XC_id {X : XS} {d : Nat} {tx tu gu : Option Nat} {tl : List SC} {h : DT} {y : Nat} {as : List AV} {v : AV} {B : Nat → Int32} {k' : Nat} (e : cal X d y as (SK tx tu gu tl, h) = some (some v, (SK tx tu gu tl, h))) (H : XA h B k') : XC X d tx tu gu tl h y as v B k' := ⟨h, e, smX.rf _ h, H⟩
theorem KC_id {X : XS} {d : Nat} {tx tu gu : Option Nat} {tl : List SC} {h : DT} {y : Nat} {as : List AV} {v : AV} (e : cal X d y as (SK tx tu gu tl, h) = some (some v, (SK tx tu gu tl, h))) : KC X d tx tu gu tl h y as v (gA h 73) := ⟨h, e, mSame.rf h, rfl, id⟩
theorem KC_w {X : XS} {d : Nat} {tx tu gu : Option Nat} {tl : List SC} {h : DT} {y : Nat} {as : List AV} {v : AV} {B : Nat → Int32} (e : cal X d y as (SK tx tu gu tl, h) = some (some v, (SK tx tu gu tl, wA h 73 B))) : KC X d tx tu gu tl h y as v B := ⟨_, e, mSame_wA (Or.inl rfl), gA_wA' h 73 B, fun q k hk => by rw [gA_wA, if_neg (by omega)]; exact q k hk⟩
def swpF (A : Nat → Int32) (a b : Nat) : Nat → Int32 := upd (upd A (17 + a) (A (17 + b))) (17 + b) (A (17 + a))
theorem swpF_o {A : Nat → Int32} {a b i : Nat} (h1 : i ≠ 17 + a) (h2 : i ≠ 17 + b) : swpF A a b i = A i := by
  unfold swpF
  rw [pk_un h2, pk_un h1]
theorem swpF_b {A : Nat → Int32} {a b : Nat} : swpF A a b (17 + b) = A (17 + a) := pk_us
theorem swpF_a {A : Nat → Int32} {a b : Nat} : swpF A a b (17 + a) = A (17 + b) := by
  unfold swpF
  by_cases h : a = b
  · subst h; exact pk_us
  · rw [pk_un (by omega), pk_us]
theorem RowOk.sw {A : Nat → Int32} {n a b : Nat} (H : RowOk A 7 n) (ha : a < n) (hb : b < n) : RowOk (swpF A a b) 7 n := by
  obtain ⟨r0, r1, r2, r3, r4, r5, r6, r7, r8, r9⟩ := H
  refine ⟨r0, ?_, ?_, ?_, ?_, ?_, fun i hi => ?_, fun i hi1 hi => ?_, fun s hs => ?_, fun p hp => ?_⟩
  · rw [swpF_o (by omega) (by omega)]; exact r1
  · rw [swpF_o (by omega) (by omega)]; exact r2
  · rw [swpF_o (by omega) (by omega)]; exact r3
  · rw [swpF_o (by omega) (by omega)]; exact r4
  · rw [swpF_o (by omega) (by omega)]; exact r5
  · rw [swpF_o (by omega) (by omega)]; exact r6 i hi
  · rw [swpF_o (by omega) (by omega), swpF_o (by omega) (by omega)]; exact r7 i hi1 hi
  · by_cases e1 : s = b
    · subst e1
      rw [show 7 + 10 + s = 17 + s by omega, swpF_b]
      exact r8 a ha
    · by_cases e2 : s = a
      · subst e2
        rw [show 7 + 10 + s = 17 + s by omega, swpF_a]
        exact r8 b hb
      · rw [swpF_o (by omega) (by omega)]; exact r8 s hs
  · obtain ⟨s, hs, e⟩ := r9 p hp
    by_cases e1 : s = b
    · subst e1
      exact ⟨a, ha, by rw [show 7 + 10 + a = 17 + a by omega, swpF_a]; exact e⟩
    · by_cases e2 : s = a
      · subst e2
        exact ⟨b, hb, by rw [show 7 + 10 + b = 17 + b by omega, swpF_b]; exact e⟩
      · exact ⟨s, hs, by rw [swpF_o (by omega) (by omega)]; exact e⟩
/-- the row alone is replaced (year, x, wind, props, slants, sitters) -/
theorem Inv.rw {A B : Nat → Int32} {n t k : Nat} (H : Inv A n t k) (e : ∀ i, ¬ (7 ≤ i ∧ i < 22) → i < 1456 → B i = A i) (hr : RowOk B 7 n) : Inv B n t k :=
  ⟨H.1.cg (e _ (by omega) (by omega)) (fun i _ _ => e _ (by omega) (by omega)), H.2.1.cg (e _ (by omega) (by omega)) (e _ (by omega) (by omega)), H.2.2.1.cg (Nat.le_refl _) (e _ (by omega) (by omega)) (fun i _ _ => e _ (by omega) (by omega)), hr, H.2.2.2.2.1.imp fun q hq => hq.cg (e _ (by omega) (by omega)) (fun i _ _ => e _ (by omega) (by omega)), H.2.2.2.2.2.1.imp fun q hq => hq.cg (Nat.le_refl _) (e _ (by omega) (by omega)) (fun i _ _ => e _ (by omega) (by omega)), H.2.2.2.2.2.2.imp fun q hq => hq.cg (Nat.le_refl _) (e _ (by omega) (by omega)) (fun i _ _ => e _ (by omega) (by omega))⟩
theorem Inv.sw {A : Nat → Int32} {n t k a b : Nat} (H : Inv A n t k) (ha : a < n) (hb : b < n) : Inv (swpF A a b) n t k :=
  H.rw (fun i h1 h2 => swpF_o (by have := H.1.2.1; omega) (by have := H.1.2.1; omega)) (H.2.2.2.1.sw ha hb)
def swps (n : Nat) : Nat → Nat → (Nat → Int32) → Nat → Int32
  | _, 0, A => A
  | s, c + 1, A => swps n (s + 1) c (swpF A s (n - 1 - s))
def ngF (A : Nat → Int32) (s : Nat) : Nat → Int32 := upd A (12 + (A (17 + s)).toNatClampNeg) (-(A (12 + (A (17 + s)).toNatClampNeg)))
def ngs : Nat → Nat → (Nat → Int32) → Nat → Int32
  | _, 0, A => A
  | s, c + 1, A => ngs (s + 1) c (ngF A s)
def turnF (A : Nat → Int32) (n : Nat) : Nat → Int32 := ngs 0 n (swps n 0 (n / 2) A)
theorem Inv.sws {n m t k : Nat} (hm : m ≤ n) : ∀ (c s : Nat) (A : Nat → Int32), s + c = m / 2 → Inv A n t k → Inv (swps m s c A) n t k
  | 0, s, A, hs, H => H
  | c + 1, s, A, hs, H => Inv.sws hm c (s + 1) _ (by omega) (H.sw (by omega) (by omega))
theorem s9n {x : Int32} (h : stp9 x) : stp9 (-x) := by
  obtain ⟨z, h1, h2, rfl⟩ := s9z h
  rw [zI_neg]
  exact z9s (by omega) (by omega)
theorem Inv.ng {A : Nat → Int32} {n t k s p : Nat} (H : Inv A n t k) (hp : p < n) (e : A (17 + s) = nI p) : Inv (ngF A s) n t k := by
  have hn := H.1.2.1
  have ep : (A (17 + s)).toNatClampNeg = p := by rw [e, clI (by omega)]
  unfold ngF
  rw [ep]
  refine H.rw (fun i h1 h2 => pk_un (by omega)) ?_
  obtain ⟨r0, r1, r2, r3, r4, r5, r6, r7, r8, r9⟩ := H.2.2.2.1
  refine ⟨r0, ?_, ?_, ?_, ?_, ?_, fun i hi => ?_, fun i hi1 hi => ?_, fun s hs => ?_, fun p hp => ?_⟩
  · rw [pk_un (by omega)]; exact r1
  · rw [pk_un (by omega)]; exact r2
  · rw [pk_un (by omega)]; exact r3
  · rw [pk_un (by omega)]; exact r4
  · rw [pk_un (by omega)]; exact r5
  · by_cases e1 : i = p
    · subst e1
      rw [show 7 + 5 + i = 12 + i by omega, pk_us]
      exact s9n (r6 i hi)
    · rw [pk_un (by omega)]; exact r6 i hi
  · rw [pk_un (by omega), pk_un (by omega)]; exact r7 i hi1 hi
  · rw [pk_un (by omega)]; exact r8 s hs
  · obtain ⟨s, hs, e2⟩ := r9 p hp
    exact ⟨s, hs, by rw [pk_un (by omega)]; exact e2⟩
theorem Inv.at {A : Nat → Int32} {n t k s : Nat} (H : Inv A n t k) (hs : s < n) : ∃ p, p < n ∧ A (17 + s) = nI p := H.2.2.2.1.2.2.2.2.2.2.2.2.1 s hs
theorem Inv.ngs {n m t k : Nat} (hm : m ≤ n) : ∀ (c s : Nat) (A : Nat → Int32), s + c = m → Inv A n t k → Inv (ngs s c A) n t k
  | 0, s, A, hs, H => H
  | c + 1, s, A, hs, H => by
    obtain ⟨p, hp, e⟩ := H.at (s := s) (by omega)
    exact Inv.ngs hm c (s + 1) _ (by omega) (H.ng hp e)
theorem Inv.tu {A : Nat → Int32} {n m t k : Nat} (H : Inv A n t k) (hm : m ≤ n) : Inv (turnF A m) n t k := Inv.ngs hm m 0 _ (by omega) (Inv.sws hm (m / 2) 0 A (by omega) H)
theorem nI_m1 (a : Nat) : nI (a + 1) + (-1) = nI a := by
  rw [← Int32.sub_eq_add_neg]
  exact nI_pred a
section MO
variable (X : XS) (d : Nat) (tx tu gu : Option Nat) (tl : List SC)
theorem x_change (h : DT) {a b : Nat} (ha : a < 5) (hb : b < 5) : cal X (d + 1) 62 [vP (some 1), vI (nI a), vI (nI b)] (SK tx tu gu tl, h) = some (none, (SK tx tu gu tl, sA (sA h 5 a (gA h 5 b)) 5 b (gA h 5 a))) := by
  rw [c_X5_change, e_X5_change_0 (hp := Or.inl rfl), inbI (by omega) (by omega), inbI (by omega) (by omega), inbI (by omega) (by omega), inbI (by omega) (by omega)]
theorem XA.sw {h : DT} {A : Nat → Int32} {k a b : Nat} (H : XA h A k) (hk : k ≤ 30) (ha : a < 5) (hb : b < 5) : XA (sA (sA h 5 a (gA h 5 b)) 5 b (gA h 5 a)) (swpF A a b) k := by
  have e1 : gA h 5 b = A (17 + b) := H.1.2.2.2.2.2.2.2.2.2.1 b hb
  have e2 : gA h 5 a = A (17 + a) := H.1.2.2.2.2.2.2.2.2.2.1 a ha
  rw [e1, e2]
  exact XA.ra (XA.ra H hk (by omega)) hk (by omega)
theorem k_swapNow (h : DT) {a b : Nat} (ha : a < 5) (hb : b < 5) : cal X (d + 1) 235 [vP (some 72), vI (nI a), vI (nI b)] (SK tx tu gu tl, h) = some (none, (SK tx tu gu tl, wA h 73 (swpF (gA h 73) a b))) := by
  rw [c_X11_swapNow, e_X11_swapNow_0, litI 17, addI, addI, inbI (by omega) (by omega), inbI (by omega) (by omega), inbI (by omega) (by omega), inbI (by omega) (by omega), sA_w, sA_w, gA_wA', wA_wA]
  rfl
theorem x_trn1 {n k : Nat} (hn : n ≤ 5) (hk : k ≤ 30) : ∀ (c s f : Nat) (h : DT) (A : Nat → Int32), s + c = n / 2 → c + 20 ≤ f → XA h A k → ∃ h1 f', 19 ≤ f' ∧ m_X5_turnAbout X (d + 1) f 6 [(0, vP (some 1)), (1, vI (nI n)), (2, vI (nI s)), (3, vI (nI (n - 1 - s)))] [] (SK tx tu gu tl, h) = m_X5_turnAbout X (d + 1) f' 28 [(0, vP (some 1)), (1, vI (nI n)), (2, vI 0)] [] (SK tx tu gu tl, h1) ∧ smX isXa h h1 ∧ XA h1 (swps n s c A) k
  | 0, s, f, h, A, hs, hf, H => by
    obtain ⟨f, rfl⟩ : ∃ f', f = f' + 1 := ⟨f - 1, by omega⟩
    refine ⟨h, f, by omega, ?_, smX.rf _ h, H⟩
    rw [e_X5_turnAbout_6 (hp := Or.inl rfl), if_pos (nI_le (by omega) (by omega))]
  | c + 1, s, f, h, A, hs, hf, H => by
    obtain ⟨f, rfl⟩ : ∃ f', f = f' + 1 := ⟨f - 1, by omega⟩
    obtain ⟨h1, f', g1, g2, g3, g4⟩ := x_trn1 hn hk c (s + 1) f _ _ (by omega) (by omega) (H.sw hk (a := s) (b := n - 1 - s) (by omega) (by omega))
    refine ⟨h1, f', g1, ?_, ((smX_sA (by unfold isXa; omega)).tr (smX_sA (by unfold isXa; omega))).tr g3, g4⟩
    rw [e_X5_turnAbout_6 (hp := Or.inl rfl), if_neg (nI_ge (by omega) (by omega)), x_change X d tx tu gu tl h (by omega) (by omega), bV_s, nI_1, ← g2, show n - 1 - s = n - 1 - (s + 1) + 1 by omega, nI_m1]
theorem x_trn2 {n m t k : Nat} (hm : m ≤ n) (hn : n ≤ 5) : ∀ (c s f : Nat) (h : DT) (A : Nat → Int32), s + c = m → c + 1 ≤ f → Inv A n t k → XA h A k → ∃ h1, m_X5_turnAbout X (d + 1) f 28 [(0, vP (some 1)), (1, vI (nI m)), (2, vI (nI s))] [] (SK tx tu gu tl, h) = some (none, (SK tx tu gu tl, h1)) ∧ smX isXa h h1 ∧ XA h1 (ngs s c A) k
  | 0, s, f, h, A, hs, hf, HI, H => by
    obtain ⟨f, rfl⟩ : ∃ f', f = f' + 1 := ⟨f - 1, by omega⟩
    refine ⟨h, ?_, smX.rf _ h, H⟩
    rw [e_X5_turnAbout_28 (hp := Or.inl rfl), if_pos (nI_le (by omega) (by omega))]
  | c + 1, s, f, h, A, hs, hf, HI, H => by
    obtain ⟨f, rfl⟩ : ∃ f', f = f' + 1 := ⟨f - 1, by omega⟩
    obtain ⟨p, hp, e⟩ := HI.at (s := s) (by omega)
    have hk := HI.2.2.1.2.1
    have xs : gA h (1 + 4) s = nI p := (H.1.2.2.2.2.2.2.2.2.2.1 s (by omega)).trans e
    have xl : gA h 2 p = A (12 + p) := H.1.2.2.2.2.2.2.1 p (by omega)
    have ep : ngF A s = upd A (12 + p) (-(A (12 + p))) := by
      unfold ngF
      rw [e, clI (by omega)]
    have H1 : XA (sA h 2 p (-(gA h 2 p))) (ngF A s) k := by
      rw [ep, xl]
      exact XA.ra H hk (by omega)
    obtain ⟨h1, g1, g2, g3⟩ := x_trn2 hm hn c (s + 1) f _ _ (by omega) (by omega) (HI.ng hp e) H1
    refine ⟨h1, ?_, (smX_sA (by unfold isXa; omega)).tr g2, g3⟩
    rw [e_X5_turnAbout_28 (hp := Or.inl rfl), if_neg (nI_ge (by omega) (by omega)), inbI (by omega) (by omega), xs, inbI (by omega) (by omega), inbI (by omega) (by omega), nI_1]
    exact g1
theorem x_turnAbout {n m t k : Nat} (h : DT) {A : Nat → Int32} (HI : Inv A n t k) (H : XA h A k) (h1 : 1 ≤ m) (hm : m ≤ n) : ∃ h1, cal X (d + 2) 63 [vP (some 1), vI (nI m)] (SK tx tu gu tl, h) = some (none, (SK tx tu gu tl, h1)) ∧ smX isXa h h1 ∧ XA h1 (turnF A m) k := by
  have hn := HI.1.2.1
  have hk := HI.2.2.1.2.1
  obtain ⟨h1, f', g1, g2, g3, g4⟩ := x_trn1 X d tx tu gu tl (n := m) (by omega) hk (m / 2) 0 999999 h A (by omega) (by omega) H
  obtain ⟨h2, e1, e2, e3⟩ := x_trn2 X d tx tu gu tl hm hn m 0 f' h1 _ (by omega) (by omega) (Inv.sws hm (m / 2) 0 A (by omega) HI) g4
  refine ⟨h2, ?_, g3.tr e2, e3⟩
  rw [c_X5_turnAbout, e_X5_turnAbout_0 (hp := Or.inl rfl), show nI m - 1 = nI (m - 1 - 0) by rw [show m = (m - 1 - 0) + 1 by omega, nI_pred]; rfl]
  exact g2.trans e1
theorem k_trn1 {n : Nat} (hn : n ≤ 5) : ∀ (c s f : Nat) (h : DT), s + c = n / 2 → c + 20 ≤ f → ∃ f', 19 ≤ f' ∧ m_X11_turnNow X (d + 1) f 2 [(0, vP (some 72)), (1, vI (nI n)), (2, vI (nI s))] [] (SK tx tu gu tl, h) = m_X11_turnNow X (d + 1) f' 27 [(0, vP (some 72)), (1, vI (nI n)), (2, vI 0)] [] (SK tx tu gu tl, wA h 73 (swps n s c (gA h 73)))
  | 0, s, f, h, hs, hf => by
    obtain ⟨f, rfl⟩ : ∃ f', f = f' + 1 := ⟨f - 1, by omega⟩
    refine ⟨f, by omega, ?_⟩
    rw [e_X11_turnNow_2, litI 2, divI (by omega) (by omega) (by omega), if_pos (nI_le (by omega) (by omega))]
    show _ = m_X11_turnNow X (d + 1) f 27 [(0, vP (some 72)), (1, vI (nI n)), (2, vI 0)] [] (SK tx tu gu tl, wA h 73 (gA h 73))
    rw [wA_id]
  | c + 1, s, f, h, hs, hf => by
    obtain ⟨f, rfl⟩ : ∃ f', f = f' + 1 := ⟨f - 1, by omega⟩
    obtain ⟨f', g1, g2⟩ := k_trn1 hn c (s + 1) f (wA h 73 (swpF (gA h 73) s (n - 1 - s))) (by omega) (by omega)
    refine ⟨f', g1, ?_⟩
    rw [gA_wA', wA_wA] at g2
    rw [e_X11_turnNow_2, litI 2, divI (by omega) (by omega) (by omega), if_neg (nI_ge (by omega) (by omega)), litI 1, subI (by omega), subI (by omega), k_swapNow X d tx tu gu tl h (by omega) (by omega), bV_s, addI]
    exact g2
theorem k_trn2 {n m t k : Nat} (hm : m ≤ n) (hn : n ≤ 5) : ∀ (c s f : Nat) (h : DT), s + c = m → c + 1 ≤ f → Inv (gA h 73) n t k → m_X11_turnNow X (d + 1) f 27 [(0, vP (some 72)), (1, vI (nI m)), (2, vI (nI s))] [] (SK tx tu gu tl, h) = some (none, (SK tx tu gu tl, wA h 73 (ngs s c (gA h 73))))
  | 0, s, f, h, hs, hf, HI => by
    obtain ⟨f, rfl⟩ : ∃ f', f = f' + 1 := ⟨f - 1, by omega⟩
    rw [e_X11_turnNow_27, if_pos (nI_le (by omega) (by omega))]
    show _ = some (none, (SK tx tu gu tl, wA h 73 (gA h 73)))
    rw [wA_id]
  | c + 1, s, f, h, hs, hf, HI => by
    obtain ⟨f, rfl⟩ : ∃ f', f = f' + 1 := ⟨f - 1, by omega⟩
    obtain ⟨p, hp, e⟩ := HI.at (s := s) (by omega)
    have ep : ngF (gA h 73) s = upd (gA h 73) (12 + p) (-(gA h 73 (12 + p))) := by
      unfold ngF
      rw [e, clI (by omega)]
    have g := k_trn2 hm hn c (s + 1) f (wA h 73 (ngF (gA h 73) s)) (by omega) (by omega) (by rw [gA_wA']; exact HI.ng hp e)
    rw [gA_wA', wA_wA] at g
    rw [e_X11_turnNow_27, if_neg (nI_ge (by omega) (by omega)), litI 17, addI, inbI (by omega) (by omega), inbI (by omega) (by omega), e, litI 12, addI, inbI (by omega) (by omega), inbI (by omega) (by omega), nI_1, sA_w, ← ep]
    exact g
theorem k_turnNow {n m t k : Nat} (h : DT) (HI : Inv (gA h 73) n t k) (h1 : 1 ≤ m) (hm : m ≤ n) : cal X (d + 2) 237 [vP (some 72), vI (nI m)] (SK tx tu gu tl, h) = some (none, (SK tx tu gu tl, wA h 73 (turnF (gA h 73) m))) := by
  have hn := HI.1.2.1
  obtain ⟨f', g1, g2⟩ := k_trn1 X d tx tu gu tl (n := m) (by omega) (m / 2) 0 999999 h (by omega) (by omega)
  rw [c_X11_turnNow, e_X11_turnNow_0]
  refine g2.trans ?_
  have g := k_trn2 X d tx tu gu tl hm hn m 0 f' (wA h 73 (swps m 0 (m / 2) (gA h 73))) (by omega) (by omega) (by rw [gA_wA']; exact Inv.sws hm (m / 2) 0 _ (by omega) HI)
  rw [gA_wA', wA_wA] at g
  exact g
theorem XA.ke {h h1 : DT} {A : Nat → Int32} {n t k : Nat} (HI : Inv A n t k) (H : XA h A k) (s : smX (fun c => c = 7 ∨ c = 8) h h1) (hs : XSteps h1 7 (keepF A k) (kN k)) : XA h1 (keepF A k) (kN k) := by
  have hk := HI.2.2.1.2.1
  refine ⟨(H.1.cg fun c _ _ => ⟨smF s (by omega), smA s (by omega)⟩).cA (keepF_lo hk (by omega) (by omega)) (fun i _ _ => keepF_lo hk (by omega) (by omega)) (fun i _ _ => keepF_lo hk (by omega) (by omega)), hs, (H.2.2.cg fun c _ _ => ⟨smF s (by omega), smA s (by omega)⟩).cA (fun i _ => keepF_lo hk (by omega) (by omega))⟩
theorem x_kp {n t k : Nat} (h : DT) {A : Nat → Int32} (HI : Inv A n t k) (H : XA h A k) : ∃ h1, cal X (d + 2) 78 [vP (some 7), vP (some 1)] (SK tx tu gu tl, h) = some (none, (SK tx tu gu tl, h1)) ∧ smX isXa h h1 ∧ XA h1 (keepF A k) (kN k) := by
  obtain ⟨h1, g1, g2, g3⟩ := x_keep X d tx tu gu tl h H.1 H.2.1 HI.2.2.1.1 HI.2.2.1.2.1
  exact ⟨h1, g1, g2.mo (fun c hc => by unfold isXa; omega), XA.ke HI H g2 g3⟩
theorem k_kp {n t k : Nat} (h : DT) (HI : Inv (gA h 73) n t k) : cal X (d + 1) 232 [vP (some 72)] (SK tx tu gu tl, h) = some (none, (SK tx tu gu tl, wA h 73 (keepF (gA h 73) k))) := k_keep X d tx tu gu tl h HI.2.2.1.1 HI.2.2.1.2.1
theorem x0_of {n t k : Nat} {h : DT} {A : Nat → Int32} (HI : Inv A n t k) (H : XA h A k) : gF h 1 0 = nI n := H.1.1.trans HI.1.1
theorem x_canCh {n t k : Nat} (h : DT) {A : Nat → Int32} (HI : Inv A n t k) (H : XA h A k) (x1 x2 : Int32) : cal X (d + 2) 61 [vP (some 1), vI x1, vI x2] (SK tx tu gu tl, h) = some (some (vI (bzB (!decide (x1 = x2) && (decide (0 ≤ x1) && decide (x1 ≤ nI n - 1)) && (decide (0 ≤ x2) && decide (x2 ≤ nI n - 1))))), (SK tx tu gu tl, h)) := by
  have x0 := x0_of HI H
  have hn := HI.1.2.1
  rw [c_X5_canChange, e_X5_canChange_0 (hp := Or.inl rfl)]
  by_cases h1 : x1 = x2
  · rw [if_pos h1]; simp [h1, bzB]
  · rw [if_neg h1]
    rcases per_cs x1 (n := n) (by omega) with ⟨j, hj, rfl⟩ | hx
    · rw [x_has_t X d tx tu gu tl h (Or.inl rfl) x0 hn hj, bI_s, e_X5_canChange_10 (hp := Or.inl rfl), if_neg one0, per_t hn hj]
      rcases per_cs x2 (n := n) (by omega) with ⟨i, hi, rfl⟩ | hx
      · rw [x_has_t X d tx tu gu tl h (Or.inl rfl) x0 hn hi, bI_s, if_neg one0, per_t hn hi]
        simp [h1, bzB]
      · rw [x_has_f X d tx tu gu tl h (Or.inl rfl) x0 hx, bI_s, if_pos rfl, per_f hn hx]
        simp [bzB]
    · rw [x_has_f X d tx tu gu tl h (Or.inl rfl) x0 hx, bI_s, e_X5_canChange_10 (hp := Or.inl rfl), if_pos rfl, per_f hn hx]
      simp [bzB]
theorem k_canSw {n t k : Nat} (h : DT) (HI : Inv (gA h 73) n t k) (x1 x2 : Int32) : cal X (d + 3) 234 [vP (some 72), vI x1, vI x2] (SK tx tu gu tl, h) = some (some (vI (bzB (!decide (x1 = x2) && (decide (0 ≤ x1) && decide (x1 ≤ nI n - 1)) && (decide (0 ≤ x2) && decide (x2 ≤ nI n - 1))))), (SK tx tu gu tl, h)) := by
  have a0 := HI.1.1
  have hn := HI.1.2.1
  rw [c_X11_canSwap, e_X11_canSwap_0]
  rcases per_cs x1 (n := n) (by omega) with ⟨j, hj, rfl⟩ | hx
  · rw [k_per_t X d tx tu gu tl h a0 hn hj, bI_s, e_X11_canSwap_5, if_neg one0, per_t hn hj]
    rcases per_cs x2 (n := n) (by omega) with ⟨i, hi, rfl⟩ | hx
    · rw [k_per_t X d tx tu gu tl h a0 hn hi, bI_s, if_neg one0, per_t hn hi]
      by_cases h1 : nI j = nI i
      · rw [if_pos h1]; simp [h1, bzB]
      · rw [if_neg h1]; simp [h1, bzB]
    · rw [k_per_f X d tx tu gu tl h a0 hn hx, bI_s, if_pos rfl, per_f hn hx]
      simp [bzB]
  · rw [k_per_f X d tx tu gu tl h a0 hn hx, bI_s, e_X11_canSwap_5, if_pos rfl, per_f hn hx]
    simp [bzB]
/-- swapped: answer, numbers, steps -/
def swpR (A : Nat → Int32) (n k : Nat) (x1 x2 : Int32) : Bool × (Nat → Int32) × Nat := bif !decide (x1 = x2) && (decide (0 ≤ x1) && decide (x1 ≤ nI n - 1)) && (decide (0 ≤ x2) && decide (x2 ≤ nI n - 1)) then (true, swpF (keepF A k) x1.toNatClampNeg x2.toNatClampNeg, kN k) else (false, A, k)
theorem per_in {n : Nat} (hn : n ≤ 5) {x : Int32} (h : (decide (0 ≤ x) && decide (x ≤ nI n - 1)) = true) : ∃ j, j < n ∧ x = nI j := by
  rcases per_cs x (n := n) (by omega) with q | q
  · exact q
  · rw [per_f hn q] at h; cases h
theorem Inv.swR {A : Nat → Int32} {n t k : Nat} (H : Inv A n t k) (x1 x2 : Int32) : Inv (swpR A n k x1 x2).2.1 n t (swpR A n k x1 x2).2.2 := by
  unfold swpR
  cases hc : (!decide (x1 = x2) && (decide (0 ≤ x1) && decide (x1 ≤ nI n - 1)) && (decide (0 ≤ x2) && decide (x2 ≤ nI n - 1))) with
  | false => exact H
  | true =>
    rw [Bool.and_eq_true, Bool.and_eq_true] at hc
    have hn := H.1.2.1
    obtain ⟨a, ha, rfl⟩ := per_in hn hc.1.2
    obtain ⟨b, hb, rfl⟩ := per_in hn hc.2
    show Inv (swpF (keepF A k) (nI a).toNatClampNeg (nI b).toNatClampNeg) n t (kN k)
    rw [clI (by omega), clI (by omega)]
    exact H.ke.sw ha hb
theorem x_swap {n t k : Nat} (h : DT) {A : Nat → Int32} (HI : Inv A n t k) (H : XA h A k) (x1 x2 : Int32) : XC X (d + 4) tx tu gu tl h 106 [vP (some 0), vI x1, vI x2] (vI (bzB (swpR A n k x1 x2).1)) (swpR A n k x1 x2).2.1 (swpR A n k x1 x2).2.2 := by
  unfold swpR
  have hn := HI.1.2.1
  cases hc : (!decide (x1 = x2) && (decide (0 ≤ x1) && decide (x1 ≤ nI n - 1)) && (decide (0 ≤ x2) && decide (x2 ≤ nI n - 1))) with
  | false =>
    refine XC_id ?_ H
    rw [c_X10_swap, e_X10_swap_0, x_canCh X (d + 1) tx tu gu tl h HI H, bI_s, e_X10_swap_9, hc, bz_f, if_pos rfl]
    rfl
  | true =>
    have hc' := hc
    rw [Bool.and_eq_true, Bool.and_eq_true] at hc
    obtain ⟨a, ha, rfl⟩ := per_in hn hc.1.2
    obtain ⟨b, hb, rfl⟩ := per_in hn hc.2
    obtain ⟨h1, g1, g2, g3⟩ := x_kp X (d + 1) tx tu gu tl h HI H
    refine ⟨sA (sA h1 5 a (gA h1 5 b)) 5 b (gA h1 5 a), ?_, g2.tr ((smX_sA (by unfold isXa; omega)).tr (smX_sA (by unfold isXa; omega))), ?_⟩
    · rw [c_X10_swap, e_X10_swap_0, x_canCh X (d + 1) tx tu gu tl h HI H, bI_s, e_X10_swap_9, hc', bz_t, if_neg one0, g1, bV_s, e_X10_swap_25, x_change X (d + 2) tx tu gu tl h1 (by omega) (by omega), bV_s]
      rfl
    · show XA _ (swpF (keepF A k) (nI a).toNatClampNeg (nI b).toNatClampNeg) (kN k)
      rw [clI (by omega), clI (by omega)]
      exact g3.sw HI.ke.2.2.1.2.1 (by omega) (by omega)
theorem k_swap {n t k : Nat} (h : DT) (HI : Inv (gA h 73) n t k) (x1 x2 : Int32) : KC X (d + 4) tx tu gu tl h 236 [vP (some 72), vI x1, vI x2] (vI (bzB (swpR (gA h 73) n k x1 x2).1)) (swpR (gA h 73) n k x1 x2).2.1 := by
  unfold swpR
  have hn := HI.1.2.1
  cases hc : (!decide (x1 = x2) && (decide (0 ≤ x1) && decide (x1 ≤ nI n - 1)) && (decide (0 ≤ x2) && decide (x2 ≤ nI n - 1))) with
  | false =>
    refine KC_id ?_
    rw [c_X11_swap, e_X11_swap_0, k_canSw X d tx tu gu tl h HI, bI_s, e_X11_swap_6, hc, bz_f, if_pos rfl]
    rfl
  | true =>
    have hc' := hc
    rw [Bool.and_eq_true, Bool.and_eq_true] at hc
    obtain ⟨a, ha, rfl⟩ := per_in hn hc.1.2
    obtain ⟨b, hb, rfl⟩ := per_in hn hc.2
    show KC X (d + 4) tx tu gu tl h 236 [vP (some 72), vI (nI a), vI (nI b)] (vI 1) (swpF (keepF (gA h 73) k) (nI a).toNatClampNeg (nI b).toNatClampNeg)
    rw [clI (by omega), clI (by omega)]
    refine KC_w ?_
    rw [c_X11_swap, e_X11_swap_0, k_canSw X d tx tu gu tl h HI, bI_s, e_X11_swap_6, hc', bz_t, if_neg one0, k_kp X (d + 2) tx tu gu tl h HI, bV_s, e_X11_swap_15, k_swapNow X (d + 2) tx tu gu tl _ (by omega) (by omega), bV_s, gA_wA', wA_wA]
def turR (A : Nat → Int32) (n k : Nat) (x : Int32) : Bool × (Nat → Int32) × Nat := bif decide (1 ≤ x) && decide (x ≤ nI n) then (true, turnF (keepF A k) x.toNatClampNeg, kN k) else (false, A, k)
theorem Inv.tuR {A : Nat → Int32} {n t k : Nat} (H : Inv A n t k) (x : Int32) : Inv (turR A n k x).2.1 n t (turR A n k x).2.2 := by
  unfold turR
  cases hc : (decide (1 ≤ x) && decide (x ≤ nI n)) with
  | false => exact H
  | true =>
    rw [Bool.and_eq_true, decide_eq_true_eq, decide_eq_true_eq] at hc
    have hn := H.1.2.1
    obtain ⟨a, h1, ha, rfl⟩ := in_nI1 hc.1 hc.2 (by omega)
    show Inv (turnF (keepF A k) (nI a).toNatClampNeg) n t (kN k)
    rw [clI (by omega)]
    exact H.ke.tu ha
theorem x_turn {n t k : Nat} (h : DT) {A : Nat → Int32} (HI : Inv A n t k) (H : XA h A k) (x : Int32) : XC X (d + 4) tx tu gu tl h 107 [vP (some 0), vI x] (vI (bzB (turR A n k x).1)) (turR A n k x).2.1 (turR A n k x).2.2 := by
  unfold turR
  have hn := HI.1.2.1
  cases hc : (decide (1 ≤ x) && decide (x ≤ nI n)) with
  | false =>
    refine XC_id ?_ H
    rw [c_X10_turn, e_X10_turn_0, x0_of HI H, x_within X (d + 2) tx tu gu tl h, bI_s, e_X10_turn_12, hc, bz_f, if_pos rfl]
    rfl
  | true =>
    have hc' := hc
    rw [Bool.and_eq_true, decide_eq_true_eq, decide_eq_true_eq] at hc
    obtain ⟨a, h1, ha, rfl⟩ := in_nI1 hc.1 hc.2 (by omega)
    obtain ⟨h1, g1, g2, g3⟩ := x_kp X (d + 1) tx tu gu tl h HI H
    obtain ⟨h2, q1, q2, q3⟩ := x_turnAbout X (d + 1) tx tu gu tl h1 HI.ke g3 (by omega) ha
    refine ⟨h2, ?_, g2.tr q2, ?_⟩
    · rw [c_X10_turn, e_X10_turn_0, x0_of HI H, x_within X (d + 2) tx tu gu tl h, bI_s, e_X10_turn_12, hc', bz_t, if_neg one0, g1, bV_s, e_X10_turn_28, q1, bV_s]
      rfl
    · show XA _ (turnF (keepF A k) (nI a).toNatClampNeg) (kN k)
      rw [clI (by omega)]
      exact q3
theorem k_turn {n t k : Nat} (h : DT) (HI : Inv (gA h 73) n t k) (x : Int32) : KC X (d + 4) tx tu gu tl h 238 [vP (some 72), vI x] (vI (bzB (turR (gA h 73) n k x).1)) (turR (gA h 73) n k x).2.1 := by
  unfold turR
  have hn := HI.1.2.1
  cases hc : (decide (1 ≤ x) && decide (x ≤ nI n)) with
  | false =>
    refine KC_id ?_
    rw [c_X11_turn, e_X11_turn_0, HI.1.1, k_isIn X (d + 2) tx tu gu tl h, bI_s, e_X11_turn_11, hc, bz_f, if_pos rfl]
    rfl
  | true =>
    have hc' := hc
    rw [Bool.and_eq_true, decide_eq_true_eq, decide_eq_true_eq] at hc
    obtain ⟨a, h1, ha, rfl⟩ := in_nI1 hc.1 hc.2 (by omega)
    show KC X (d + 4) tx tu gu tl h 238 [vP (some 72), vI (nI a)] (vI 1) (turnF (keepF (gA h 73) k) (nI a).toNatClampNeg)
    rw [clI (by omega)]
    refine KC_w ?_
    rw [c_X11_turn, e_X11_turn_0, HI.1.1, k_isIn X (d + 2) tx tu gu tl h, bI_s, e_X11_turn_11, hc', bz_t, if_neg one0, k_kp X (d + 2) tx tu gu tl h HI, bV_s, e_X11_turn_20, k_turnNow X (d + 1) tx tu gu tl _ (by rw [gA_wA']; exact HI.ke) (by omega) ha, bV_s, gA_wA', wA_wA]
theorem bt_with : ∀ q, q < 32 → ∀ j, j < 5 → ∀ b : Bool, Nat.testBit q j ≠ b → (if bzB b = 0 then nI q &&& (((1 : Int32) <<< (nI j &&& 31)) ^^^ (-1)) else nI q ||| ((1 : Int32) <<< (nI j &&& 31))) = nI q ^^^ ((1 : Int32) <<< (nI j &&& 31)) := by decide +kernel
def prpR (A : Nat → Int32) (n k : Nat) (x : Int32) (b : Bool) : Bool × (Nat → Int32) × Nat := bif (decide (0 ≤ x) && decide (x ≤ nI n - 1)) && !(Nat.testBit (A 10).toNatClampNeg x.toNatClampNeg == b) then (true, upd (keepF A k) 10 (A 10 ^^^ ((1 : Int32) <<< (x &&& 31))), kN k) else (false, A, k)
theorem Inv.pq {A : Nat → Int32} {n t k : Nat} (H : Inv A n t k) : ∃ q, q < 32 ∧ A 10 = nI q := H.2.2.2.1.2.2.2.2.1
theorem Inv.u10 {A : Nat → Int32} {n t k c : Nat} (H : Inv A n t k) (hc : c < 32) : Inv (upd A 10 (nI c)) n t k := by
  refine H.rw (fun i h1 h2 => pk_un (by omega)) ?_
  obtain ⟨r0, r1, r2, r3, r4, r5, r6, r7, r8, r9⟩ := H.2.2.2.1
  refine ⟨r0, ?_, ?_, ?_, ⟨c, hc, pk_us⟩, ?_, fun i hi => ?_, fun i hi1 hi => ?_, fun s hs => ?_, fun p hp => ?_⟩
  · rw [pk_un (by omega)]; exact r1
  · rw [pk_un (by omega)]; exact r2
  · rw [pk_un (by omega)]; exact r3
  · rw [pk_un (by omega)]; exact r5
  · rw [pk_un (by omega)]; exact r6 i hi
  · rw [pk_un (by omega), pk_un (by omega)]; exact r7 i hi1 hi
  · rw [pk_un (by omega)]; exact r8 s hs
  · obtain ⟨s, hs, e2⟩ := r9 p hp
    exact ⟨s, hs, by rw [pk_un (by omega)]; exact e2⟩
theorem Inv.prR {A : Nat → Int32} {n t k : Nat} (H : Inv A n t k) (x : Int32) (b : Bool) : Inv (prpR A n k x b).2.1 n t (prpR A n k x b).2.2 := by
  unfold prpR
  cases hc : ((decide (0 ≤ x) && decide (x ≤ nI n - 1)) && !(Nat.testBit (A 10).toNatClampNeg x.toNatClampNeg == b)) with
  | false => exact H
  | true =>
    rw [Bool.and_eq_true] at hc
    have hn := H.1.2.1
    obtain ⟨a, ha, rfl⟩ := per_in hn hc.1
    obtain ⟨q, hq, e⟩ := H.pq
    obtain ⟨c, hc, ec⟩ := bt_xor q hq a (by omega)
    show Inv (upd (keepF A k) 10 (A 10 ^^^ ((1 : Int32) <<< (nI a &&& 31)))) n t (kN k)
    rw [e, ec]
    exact H.ke.u10 hc
theorem x_prop {n t k : Nat} (h : DT) {A : Nat → Int32} (HI : Inv A n t k) (H : XA h A k) (x : Int32) (b : Bool) : XC X (d + 4) tx tu gu tl h 108 [vP (some 0), vI x, vI (bzB b)] (vI (bzB (prpR A n k x b).1)) (prpR A n k x b).2.1 (prpR A n k x b).2.2 := by
  unfold prpR
  have hn := HI.1.2.1
  have x0 := x0_of HI H
  obtain ⟨q, hq, eq⟩ := HI.pq
  have xq : gF h 1 1 = nI q := H.1.2.1.trans eq
  rcases per_cs x (n := n) (by omega) with ⟨j, hj, rfl⟩ | hx
  · have eb := bt_get q hq j (by omega)
    rw [per_t hn hj, eq, clI (by omega), clI (by omega)]
    have e1 : cal X (d + 4) 108 [vP (some 0), vI (nI j), vI (bzB b)] (SK tx tu gu tl, h) = (if (if bzB (Nat.testBit q j) = bzB b then (0 : Int32) else 1) = 0 then some (some (vI (0)), (SK tx tu gu tl, h)) else bV (cal X (d + 3) 78 [vP (some 7), vP (some 1)] (SK tx tu gu tl, h)) fun H1 => m_X10_prop X (d + 3) 999998 25 [(0, vP (some 0)), (1, vI (nI j)), (2, vI (bzB b))] [] H1) := by
      rw [c_X10_prop, e_X10_prop_0, c_X5_canSetProp, e_X5_canSetProp_0 (hp := Or.inl rfl), x_has_t X _ tx tu gu tl h (Or.inl rfl) x0 hn hj, bI_s, e_X5_canSetProp_5 (hp := Or.inl rfl), if_neg one0, c_X5_isPropped, e_X5_isPropped_0 (hp := Or.inl rfl), xq, eb]
      cases Nat.testBit q j <;> cases b <;> rfl
    cases hc : (true && !(Nat.testBit q j == b)) with
    | false =>
      have hb : Nat.testBit q j = b := by simpa using hc
      refine XC_id ?_ H
      rw [e1, hb, if_pos rfl, if_pos rfl]
      rfl
    | true =>
      have hb : Nat.testBit q j ≠ b := by simpa using hc
      have hb2 : ¬ bzB (Nat.testBit q j) = bzB b := by
        revert hb
        cases Nat.testBit q j <;> cases b <;> decide
      obtain ⟨h1, g1, g2, g3⟩ := x_kp X (d + 1) tx tu gu tl h HI H
      have xq1 : gF h1 1 1 = nI q := g3.1.2.1.trans ((keepF_lo HI.2.2.1.2.1 (by omega) (by omega)).trans eq)
      refine ⟨sF h1 1 1 (nI q ^^^ ((1 : Int32) <<< (nI j &&& 31))), ?_, g2.tr (smX_sF (by unfold isXa; omega)), ?_⟩
      · rw [e1, if_neg hb2, if_neg one0, g1, bV_s, e_X10_prop_25, c_X5_setProp, e_X5_setProp_0 (hp := Or.inl rfl), xq1, c_X10_withBit, e_X10_withBit_0, ← bt_with q hq j (by omega) b hb]
        cases b <;> rfl
      · show XA _ (upd (keepF A k) 10 (nI q ^^^ ((1 : Int32) <<< (nI j &&& 31)))) (kN k)
        exact g3.rf (by omega)
  · rw [per_f hn hx]
    refine XC_id ?_ H
    rw [c_X10_prop, e_X10_prop_0, c_X5_canSetProp, e_X5_canSetProp_0 (hp := Or.inl rfl), x_has_f X _ tx tu gu tl h (Or.inl rfl) x0 hx, bI_s, e_X5_canSetProp_5 (hp := Or.inl rfl), if_pos rfl, bI_s, e_X10_prop_9, if_pos rfl]
    rfl
theorem k_prop {n t k : Nat} (h : DT) (HI : Inv (gA h 73) n t k) (x : Int32) (b : Bool) : KC X (d + 4) tx tu gu tl h 240 [vP (some 72), vI x, vI (bzB b)] (vI (bzB (prpR (gA h 73) n k x b).1)) (prpR (gA h 73) n k x b).2.1 := by
  unfold prpR
  have hn := HI.1.2.1
  have a0 := HI.1.1
  obtain ⟨q, hq, eq⟩ := HI.pq
  rcases per_cs x (n := n) (by omega) with ⟨j, hj, rfl⟩ | hx
  · have eb := bt_get q hq j (by omega)
    rw [per_t hn hj, eq, clI (by omega), clI (by omega)]
    have e1 : cal X (d + 4) 240 [vP (some 72), vI (nI j), vI (bzB b)] (SK tx tu gu tl, h) = (if (if bzB (Nat.testBit q j) = bzB b then (0 : Int32) else 1) = 0 then some (some (vI (0)), (SK tx tu gu tl, h)) else bV (cal X (d + 3) 232 [vP (some 72)] (SK tx tu gu tl, h)) fun H1 => m_X11_prop X (d + 3) 999998 15 [(0, vP (some 72)), (1, vI (nI j))] [] H1) := by
      rw [c_X11_prop, e_X11_prop_0, c_X11_canProp, e_X11_canProp_0, k_per_t X _ tx tu gu tl h a0 hn hj, bI_s, e_X11_canProp_5, if_neg one0, eq, c_X11_has, e_X11_has_0, eb]
      cases Nat.testBit q j <;> cases b <;> rfl
    cases hc : (true && !(Nat.testBit q j == b)) with
    | false =>
      have hb : Nat.testBit q j = b := by simpa using hc
      refine KC_id ?_
      rw [e1, hb, if_pos rfl, if_pos rfl]
      rfl
    | true =>
      have hb : Nat.testBit q j ≠ b := by simpa using hc
      have hb2 : ¬ bzB (Nat.testBit q j) = bzB b := by
        revert hb
        cases Nat.testBit q j <;> cases b <;> decide
      refine KC_w ?_
      rw [e1, if_neg hb2, if_neg one0, k_kp X (d + 2) tx tu gu tl h HI, bV_s, e_X11_prop_15, sA_w, gA_wA', wA_wA, keepF_lo HI.2.2.1.2.1 (by omega) (by omega), eq]
      rfl
  · rw [per_f hn hx]
    refine KC_id ?_
    rw [c_X11_prop, e_X11_prop_0, c_X11_canProp, e_X11_canProp_0, k_per_f X _ tx tu gu tl h a0 hn hx, bI_s, e_X11_canProp_5, if_pos rfl, bI_s, e_X11_prop_6, if_pos rfl]
    rfl
theorem op_swap {n t k : Nat} (h : DT) (H : RA h (gA h 73) n t k) (x1 x2 : Int32) : OpA X tx tu gu tl h n t k 106 [vP (some 0), vI x1, vI x2] 236 [vP (some 72), vI x1, vI x2] :=
  OpA_of (x_swap X 96 tx tu gu tl h H.1 H.2 x1 x2) (fun h1 s => by have := k_swap X 96 tx tu gu tl h1 (n := n) (t := t) (k := k) (by rw [sm73 s]; exact H.1) x1 x2; rw [sm73 s] at this; exact this) (H.1.swR x1 x2)
theorem op_turn {n t k : Nat} (h : DT) (H : RA h (gA h 73) n t k) (x : Int32) : OpA X tx tu gu tl h n t k 107 [vP (some 0), vI x] 238 [vP (some 72), vI x] :=
  OpA_of (x_turn X 96 tx tu gu tl h H.1 H.2 x) (fun h1 s => by have := k_turn X 96 tx tu gu tl h1 (n := n) (t := t) (k := k) (by rw [sm73 s]; exact H.1) x; rw [sm73 s] at this; exact this) (H.1.tuR x)
theorem op_prop {n t k : Nat} (h : DT) (H : RA h (gA h 73) n t k) (x : Int32) (b : Bool) : OpA X tx tu gu tl h n t k 108 [vP (some 0), vI x, vI (bzB b)] 240 [vP (some 72), vI x, vI (bzB b)] :=
  OpA_of (x_prop X 96 tx tu gu tl h H.1 H.2 x b) (fun h1 s => by have := k_prop X 96 tx tu gu tl h1 (n := n) (t := t) (k := k) (by rw [sm73 s]; exact H.1) x b; rw [sm73 s] at this; exact this) (H.1.prR x b)
end MO
