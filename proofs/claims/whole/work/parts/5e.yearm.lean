/-! A YEAR in the reference; drawn years in both -/
def drwF (A : Nat → Int32) (x : Nat) : Nat → Int32 := upd (upd A 9 (nI (x % 19) - 9)) 8 (nI ((x * 577 + 449) % 30809))
theorem drwF_o {A : Nat → Int32} {x i : Nat} (h : i ≠ 8) (h' : i ≠ 9) : drwF A x i = A i := by
  unfold drwF
  rw [pk_un h, pk_un h']
theorem wnd9 (x : Nat) : stp9 (nI (x % 19) - 9) := by
  rw [zI_nI, show (9 : Int32) = zI 9 from rfl, zI_sub]
  exact z9s (by omega) (by omega)
theorem RowOk.dr {A : Nat → Int32} {n x : Nat} (H : RowOk A 7 n) : RowOk (drwF A x) 7 n := by
  obtain ⟨r0, r1, r2, r3, r4, r5, r6, r7, r8, r9⟩ := H
  refine ⟨r0, ?_, ⟨(x * 577 + 449) % 30809, by omega, pk_us⟩, ?_, ?_, ?_, fun i hi => ?_, fun i hi1 hi => ?_, fun s hs => ?_, fun p hp => ?_⟩
  · rw [drwF_o (by omega) (by omega)]; exact r1
  · have e : drwF A x (7 + 2) = nI (x % 19) - 9 := by
      unfold drwF
      rw [pk_un (by omega)]
      exact pk_us
    rw [e]; exact wnd9 x
  · rw [drwF_o (by omega) (by omega)]; exact r4
  · rw [drwF_o (by omega) (by omega)]; exact r5
  · rw [drwF_o (by omega) (by omega)]; exact r6 i hi
  · rw [drwF_o (by omega) (by omega), drwF_o (by omega) (by omega)]; exact r7 i hi1 hi
  · rw [drwF_o (by omega) (by omega)]; exact r8 s hs
  · obtain ⟨s, hs, e2⟩ := r9 p hp
    exact ⟨s, hs, by rw [drwF_o (by omega) (by omega)]; exact e2⟩
theorem RV.dr {A : Nat → Int32} {n x : Nat} (H : RV A n) : RV (drwF A x) n := ⟨H.1.cg (drwF_o (by omega) (by omega)) (fun i _ _ => drwF_o (by omega) (by omega)), H.2.dr⟩
/-- a drawn year, of the year y and the number x -/
def pasF (o : Option Cd) (n : Nat) (wr : Bool) (A : Nat → Int32) (x y : Nat) : Nat → Int32 := upd (lnI o n wr n 0 (drwF A x)).1 7 (nI (y + 1))
def pasC (o : Option Cd) (n : Nat) (wr : Bool) (A : Nat → Int32) (x : Nat) : Nat := (lnI o n wr n 0 (drwF A x)).2
theorem pasF_o {o : Option Cd} {n : Nat} {wr : Bool} {A : Nat → Int32} {x y i : Nat} (H : RV A n) (h1 : ¬ (7 ≤ i ∧ i < 17)) (h3 : i < 1456) : pasF o n wr A x y i = A i := by
  unfold pasF
  rw [pk_un (by omega), lnI_o (by omega) (by omega) h3 n 0 _ (by omega) H.dr, drwF_o (by omega) (by omega)]
theorem pasF_10 {o : Option Cd} {n : Nat} {wr : Bool} {A : Nat → Int32} {x y : Nat} (H : RV A n) : pasF o n wr A x y 10 = A 10 := by
  unfold pasF
  rw [pk_un (by omega), lnI_o (by omega) (by omega) (by omega) n 0 _ (by omega) H.dr, drwF_o (by omega) (by omega)]
theorem RowOk.yr {A : Nat → Int32} {n y : Nat} (H : RowOk A 7 n) (hy : y ≤ 9999) : RowOk (upd A 7 (nI y)) 7 n := by
  obtain ⟨r0, r1, r2, r3, r4, r5, r6, r7, r8, r9⟩ := H
  refine ⟨r0, ⟨y, hy, pk_us⟩, ?_, ?_, ?_, ?_, fun i hi => ?_, fun i hi1 hi => ?_, fun s hs => ?_, fun p hp => ?_⟩
  · rw [pk_un (by omega)]; exact r2
  · rw [pk_un (by omega)]; exact r3
  · rw [pk_un (by omega)]; exact r4
  · rw [pk_un (by omega)]; exact r5
  · rw [pk_un (by omega)]; exact r6 i hi
  · rw [pk_un (by omega), pk_un (by omega)]; exact r7 i hi1 hi
  · rw [pk_un (by omega)]; exact r8 s hs
  · obtain ⟨s, hs, e2⟩ := r9 p hp
    exact ⟨s, hs, by rw [pk_un (by omega)]; exact e2⟩
theorem RV.pa {o : Option Cd} {n : Nat} {wr : Bool} {A : Nat → Int32} {x y : Nat} (H : RV A n) (hy : y < 9999) : RV (pasF o n wr A x y) n := by
  have H2 := lnI_rv (o := o) (n := n) (wr := wr) n 0 (drwF A x) (by omega) H.dr
  exact ⟨H2.1.cg (pk_un (by omega)) (fun i _ _ => pk_un (by omega)), H2.2.yr (by omega)⟩
theorem Inv.pa {o : Option Cd} {n t k : Nat} {wr : Bool} {A : Nat → Int32} {x y : Nat} (H : Inv A n t k) (hy : y < 9999) : Inv (pasF o n wr A x y) n t k :=
  H.rw (fun i h1 h2 => pasF_o H.rv (by omega) h2) (H.rv.pa hy).2
def KS (h h' : DT) : Prop := smX (fun c => c = 72 ∨ c = 73 ∨ c = 78 ∨ c = 79 ∨ c = 80) h h' ∧ ∀ k, k ≠ 24 → gF h' 72 k = gF h 72 k
theorem KS.rf (h : DT) : KS h h := ⟨smX.rf _ h, fun _ _ => rfl⟩
theorem KS.tr {a b c : DT} (p : KS a b) (q : KS b c) : KS a c := ⟨p.1.tr q.1, fun k hk => (q.2 k hk).trans (p.2 k hk)⟩
theorem KS.ms {h h' : DT} (H : KS h h') : mSame h h' := ⟨H.1.mo (fun c hc => by omega), smA H.1 (by omega), smA H.1 (by omega), smA H.1 (by omega), H.2 4 (by omega), H.2 5 (by omega), H.2 6 (by omega), H.2 23 (by omega)⟩
theorem KS.st {h h' : DT} (H : KS h h') : smT h h' := smT_of H.1 (by omega) (fun c _ _ => by omega)
theorem KS_A {h : DT} {c k : Nat} {v : Int32} (hc : c = 73 ∨ c = 78 ∨ c = 80) : KS h (sA h c k v) := ⟨smX_sA (by omega), fun k hk => rfl⟩
theorem KS_w {h : DT} {B : Nat → Int32} : KS h (wA h 73 B) := ⟨smX_wA (by omega), fun k hk => rfl⟩
theorem KS_F {h : DT} {v : Int32} : KS h (sF h 72 24 v) := ⟨smX_sF (by omega), fun k hk => by rw [gF_sF, if_neg (fun g => hk g.2)]⟩
theorem KS_of {h h' : DT} (H : smX (fun c => c = 78 ∨ c = 79 ∨ c = 80) h h') : KS h h' := ⟨H.mo (fun c hc => by omega), fun k _ => H.F (by omega) k⟩
theorem mSame.st {h h' : DT} (H : mSame h h') : smT h h' := ⟨H.2.2.1, fun c _ _ => ⟨smF H.1 (by omega), smA H.1 (by omega)⟩⟩
/-- the reference's text x1 and its law of leaning -/
def KxS (h : DT) (x1 : Int32) (o : Option Cd) : Prop := (x1 = -1 ∧ o = none) ∨ ∃ j T, j < 4 ∧ x1 = nI j ∧ TxR h j T ∧ o = T.2.1
theorem KxS.cg {h h' : DT} {x1 : Int32} {o : Option Cd} (H : KxS h x1 o) (s : smT h h') : KxS h' x1 o := by
  rcases H with q | ⟨j, T, h1, h2, h3, h4⟩
  · exact Or.inl q
  · exact Or.inr ⟨j, T, h1, h2, h3.cg h1 s, h4⟩
section YM
variable (X : XS) (d : Nat) (tx tu gu : Option Nat) (tl : List SC)
theorem k_wr77 {b p f : Nat} (h : DT) (hb : b < 30) (eb : gA h 73 11 = nI b) : m_X11_write X d (f + 1) 77 [(0, vP (some 72)), (1, vI (nI p))] [] (SK tx tu gu tl, h) = some (none, (SK tx tu gu tl, wA h 73 (wr1 (gA h 73) b p))) := by
  rw [e_X11_write_77, eb, litI 1456, addI, inbI (by omega) (by omega)]
  simp only [sA_w, gA_wA', wA_wA]
  rw [pk_un (by omega), eb, nI_1]
  rfl
theorem k_write {wr : Bool} {b p : Nat} (h : DT) (hw : gF h 72 23 = bzB wr) (hb : b ≤ 30) (eb : gA h 73 11 = nI b) : ∃ h', cal X (d + 1) 228 [vP (some 72), vI (nI p)] (SK tx tu gu tl, h) = some (none, (SK tx tu gu tl, h')) ∧ KS h h' ∧ gA h' 73 = (bif wr then wrF (gA h 73) b p else gA h 73) ∧ gF h' 72 24 = gF h 72 24 + 1 ∧ gA h' 78 = gA h 78 := by
  cases wr with
  | false =>
    refine ⟨sF h 72 24 (gF h 72 24 + 1), ?_, KS_F, rfl, by rw [gF_sF, if_pos ⟨rfl, rfl⟩], rfl⟩
    rw [c_X11_write, e_X11_write_0, hw, if_pos (by decide)]
  | true =>
    refine ⟨wA (sF h 72 24 (gF h 72 24 + 1)) 73 (wrF (gA h 73) b p), ?_, KS_F.tr KS_w, gA_wA' _ _ _, by rw [gF_wA, gF_sF, if_pos ⟨rfl, rfl⟩], by rw [gA_wA, if_neg (by omega)]; rfl⟩
    rw [c_X11_write, e_X11_write_0, hw, if_neg (by decide), eb]
    unfold wrF
    by_cases h30 : b = 30
    · subst h30
      rw [if_pos (by decide), if_pos rfl]
      have e73 : gA (sF h 72 24 (gF h 72 24 + 1)) 73 = gA h 73 := rfl
      refine cplp (F := fun f i h => m_X11_write X d f 32 [(0, vP (some 72)), (1, vI (nI p)), (2, vI (i + 1))] [] (SK tx tu gu tl, h)) (G := fun f h => m_X11_write X d f 77 [(0, vP (some 72)), (1, vI (nI p))] [] (SK tx tu gu tl, sA h 73 11 (gA h 73 11 - 1))) (src := 73) (dst := 73) (sp := 1457) (dp := 1456) (N := 29) (g0 := 100) ?_ ?_ (Or.inr (Or.inl (by omega))) 29 0 999999 _ rfl (by omega) (fun f' hf' => ?_)
      · intro f h
        show m_X11_write X d (f + 1) 32 [(0, vP (some 72)), (1, vI (nI p)), (2, vI (nI 29 + 1))] [] (SK tx tu gu tl, h) = _
        rw [e_X11_write_32, if_pos (by decide)]
      · intro f i h hi
        show m_X11_write X d (f + 1) 32 [(0, vP (some 72)), (1, vI (nI p)), (2, vI (nI i + 1))] [] (SK tx tu gu tl, h) = m_X11_write X d f 32 [(0, vP (some 72)), (1, vI (nI p)), (2, vI (nI (i + 1) + 1))] [] _
        rw [e_X11_write_32, nI_1, litI 30, if_neg (nI_ge (by omega) (by omega)), litI 1456, addI, inbI (by omega) (by omega), show 1456 + (i + 1) = 1456 + i + 1 by omega, nI_pred, inbI (by omega) (by omega), show 1456 + i + 1 = 1457 + i by omega]
      · obtain ⟨f', rfl⟩ : ∃ g, f' = g + 1 := ⟨f' - 1, by omega⟩
        show m_X11_write X d (f' + 1) 77 [(0, vP (some 72)), (1, vI (nI p))] [] (SK tx tu gu tl, sA (yA (sF h 72 24 (gF h 72 24 + 1)) 73 73 (1457 + 0) (1456 + 0) 29) 73 11 (gA (yA (sF h 72 24 (gF h 72 24 + 1)) 73 73 (1457 + 0) (1456 + 0) 29) 73 11 - 1)) = _
        rw [yA_w, sA_w, gA_wA', wA_wA, e73, cpA_at, if_neg (by omega), eb, show nI 30 - 1 = nI 29 from nI_pred 29, k_wr77 (b := 29) (hb := by omega) (eb := by rw [gA_wA', pk_us]), gA_wA', wA_wA]
    · rw [if_neg (by rw [litI 30, eqI (by omega) (by omega)]; exact h30), if_neg h30]
      exact k_wr77 X d tx tu gu tl (sF h 72 24 (gF h 72 24 + 1)) (by omega) eb
theorem k_lal {n : Nat} {wr : Bool} {o : Option Cd} : ∀ (c s f : Nat) (h : DT), RV (gA h 73) n → KxS h (gA h 73 2) o → gF h 72 23 = bzB wr → NmA h 78 → s + c = n → 3 * c + 1 ≤ f → ∃ h', m_X11_leanAll X (d + 7) f 2 [(0, vP (some 72)), (1, vI (nI s))] [] (SK tx tu gu tl, h) = some (none, (SK tx tu gu tl, h')) ∧ KS h h' ∧ gA h' 73 = (lnI o n wr c s (gA h 73)).1 ∧ gF h' 72 24 = gF h 72 24 + nI (lnI o n wr c s (gA h 73)).2 ∧ NmA h' 78
  | 0, s, f, h, H, HT, hw, hN, hs, hf => by
    obtain ⟨f, rfl⟩ : ∃ f', f = f' + 1 := ⟨f - 1, by omega⟩
    have hn := H.1.2.1
    refine ⟨h, ?_, KS.rf h, rfl, (Int32.add_zero _).symm, hN⟩
    rw [e_X11_leanAll_2, H.1.1, if_pos (nI_le (by omega) (by omega))]
  | c + 1, s, f, h, H, HT, hw, hN, hs, hf => by
    obtain ⟨f, rfl⟩ : ∃ f', f = f' + 1 + 1 + 1 := ⟨f - 3, by omega⟩
    have hn := H.1.2.1
    obtain ⟨p, hp, e⟩ := H.at (s := s) (by omega)
    obtain ⟨b, hb, eb⟩ := H.bk
    obtain ⟨pq, hpq, epq⟩ := H.pq
    have hv := lnV_b (o := o) H hp
    have bt := bt_get pq hpq s (by omega)
    have isP : cal X (d + 7) 165 [vI (nI pq), vI (nI s)] (SK tx tu gu tl, h) = some (some (vI (bzB (Nat.testBit pq s))), (SK tx tu gu tl, h)) := by
      rw [c_X11_has, e_X11_has_0, bt]
      cases Nat.testBit pq s <;> rfl
    have eS : lnSt o n wr (gA h 73) s = bif Nat.testBit pq s then (gA h 73, 0) else if lnV o (gA h 73) n p = 0 ∧ gA h 73 (12 + p) ≠ 0 then (bif wr then wrF (upd (gA h 73) (12 + p) (zI (lnV o (gA h 73) n p))) b p else upd (gA h 73) (12 + p) (zI (lnV o (gA h 73) n p)), 1) else (upd (gA h 73) (12 + p) (zI (lnV o (gA h 73) n p)), 0) := by
      unfold lnSt
      rw [epq, clI (by omega), e, clI (by omega), eb, clI (by omega)]
    have eI : lnI o n wr (c + 1) s (gA h 73) = ((lnI o n wr c (s + 1) (lnSt o n wr (gA h 73) s).1).1, (lnSt o n wr (gA h 73) s).2 + (lnI o n wr c (s + 1) (lnSt o n wr (gA h 73) s).1).2) := rfl
    have HS := lnSt_rv (o := o) (wr := wr) H (s := s) (by omega)
    have HS2 : (lnSt o n wr (gA h 73) s).1 2 = gA h 73 2 := lnSt_o H (by omega) (by omega) (by omega) (by omega)
    rw [eI, e_X11_leanAll_2, H.1.1, if_neg (nI_ge (by omega) (by omega)), epq, isP, bI_s, e_X11_leanAll_23]
    cases hbt : Nat.testBit pq s with
    | true =>
      have e1 : lnSt o n wr (gA h 73) s = (gA h 73, 0) := by rw [eS, hbt]; rfl
      obtain ⟨h1, g1, g2, g3, g4, g5⟩ := k_lal c (s + 1) (f + 1) h H HT hw hN (by omega) (by omega)
      refine ⟨h1, ?_, g2, ?_, ?_, g5⟩
      · rw [if_neg (by decide), nI_1, g1]
      · rw [e1]; exact g3
      · rw [e1, Nat.zero_add]; exact g4
    | false =>
      obtain ⟨h1, l1, l2, l3⟩ := k_leansOf X d tx tu gu tl h H hp hN HT
      have ks1 : KS h h1 := KS_of l2
      have e73 : gA h1 73 = gA h 73 := smA l2 (by omega)
      have ks2 : KS h1 (wA h1 73 (upd (gA h 73) (12 + p) (zI (lnV o (gA h 73) n p)))) := KS_w
      have f24 : gF h1 72 24 = gF h 72 24 := l2.F (by omega) 24
      have hN2 : NmA (wA h1 73 (upd (gA h 73) (12 + p) (zI (lnV o (gA h 73) n p)))) 78 := fun k hk => by rw [gA_wA, if_neg (by omega)]; exact l3 k hk
      rw [if_pos (by decide), litI 17, addI, inbI (by omega) (by omega), e, litI 12, addI, inbI (by omega) (by omega), l1, bI_s, e_X11_leanAll_68, inbI (by omega) (by omega), litI 12, addI, inbI (by omega) (by omega), sA_w, gA_wA', pk_us, e73]
      rw [hbt] at eS
      change lnSt o n wr (gA h 73) s = if lnV o (gA h 73) n p = 0 ∧ gA h 73 (12 + p) ≠ 0 then (bif wr then wrF (upd (gA h 73) (12 + p) (zI (lnV o (gA h 73) n p))) b p else upd (gA h 73) (12 + p) (zI (lnV o (gA h 73) n p)), 1) else (upd (gA h 73) (12 + p) (zI (lnV o (gA h 73) n p)), 0) at eS
      have z0 : (0 : Int32) = zI 0 := rfl
      have go : ∀ (h3 : DT), KS h h3 → gA h3 73 = (lnSt o n wr (gA h 73) s).1 → gF h3 72 24 = gF h 72 24 + nI (lnSt o n wr (gA h 73) s).2 → NmA h3 78 → ∃ h', m_X11_leanAll X (d + 7) f 2 [(0, vP (some 72)), (1, vI (nI (s + 1)))] [] (SK tx tu gu tl, h3) = some (none, (SK tx tu gu tl, h')) ∧ KS h h' ∧ gA h' 73 = (lnI o n wr c (s + 1) (lnSt o n wr (gA h 73) s).1).1 ∧ gF h' 72 24 = gF h 72 24 + nI ((lnSt o n wr (gA h 73) s).2 + (lnI o n wr c (s + 1) (lnSt o n wr (gA h 73) s).1).2) ∧ NmA h' 78 := fun h3 k1 k2 k3 k4 => by
        obtain ⟨h', q1, q2, q3, q4, q5⟩ := k_lal c (s + 1) f h3 (by rw [k2]; exact HS) (by rw [k2, HS2]; exact HT.cg k1.st) (by rw [k1.2 23 (by omega)]; exact hw) k4 (by omega) (by omega)
        refine ⟨h', q1, k1.tr q2, by rw [← k2]; exact q3, ?_, q5⟩
        rw [q4, k3, k2, Int32.add_assoc, addI]
      by_cases v0 : lnV o (gA h 73) n p = 0
      · rw [if_pos (show zI (lnV o (gA h 73) n p) = 0 by rw [v0]; rfl)]
        by_cases a0 : gA h 73 (12 + p) = 0
        · rw [if_neg (fun g => g.2 a0)] at eS
          rw [if_pos a0, nI_1]
          exact go _ (ks1.tr ks2) (by rw [gA_wA', eS]) (by rw [gF_wA, f24, eS]; exact (Int32.add_zero _).symm) hN2
        · rw [if_pos ⟨v0, a0⟩] at eS
          obtain ⟨h4, w1, w2, w3, w4, w5⟩ := k_write X (d + 6) tx tu gu tl (wr := wr) (b := b) (p := p) (wA h1 73 (upd (gA h 73) (12 + p) (zI (lnV o (gA h 73) n p)))) (by rw [gF_wA, ks1.2 23 (by omega)]; exact hw) hb (by rw [gA_wA', pk_un (by omega)]; exact eb)
          rw [if_neg a0, w1, bV_s, nI_1]
          exact go _ ((ks1.tr ks2).tr w2) (by rw [w3, gA_wA', eS]) (by rw [w4, gF_wA, f24, eS]; rfl) (fun k hk => by rw [w5]; exact hN2 k hk)
      · rw [if_neg (fun g => v0 g.1)] at eS
        rw [if_neg (by rw [z0]; exact zne (by omega) (by omega) v0), nI_1]
        exact go _ (ks1.tr ks2) (by rw [gA_wA', eS]) (by rw [gF_wA, f24, eS]; exact (Int32.add_zero _).symm) hN2
theorem k_leanAll {n : Nat} {wr : Bool} {o : Option Cd} (h : DT) (H : RV (gA h 73) n) (HT : KxS h (gA h 73 2) o) (hw : gF h 72 23 = bzB wr) (hN : NmA h 78) : ∃ h', cal X (d + 8) 230 [vP (some 72)] (SK tx tu gu tl, h) = some (none, (SK tx tu gu tl, h')) ∧ KS h h' ∧ gA h' 73 = (lnI o n wr n 0 (gA h 73)).1 ∧ gF h' 72 24 = gF h 72 24 + nI (lnI o n wr n 0 (gA h 73)).2 ∧ NmA h' 78 := by
  have hn := H.1.2.1
  obtain ⟨h', g1, g2⟩ := k_lal X d tx tu gu tl n 0 999999 h H HT hw hN (by omega) (by omega)
  exact ⟨h', by rw [c_X11_leanAll, e_X11_leanAll_0]; exact g1, g2⟩
theorem k_anew (h : DT) {x : Nat} (hx : x < 100000) (ex : gA h 73 8 = nI x) : cal X (d + 1) 229 [vP (some 72)] (SK tx tu gu tl, h) = some (none, (SK tx tu gu tl, wA h 73 (upd (gA h 73) 8 (nI ((x * 577 + 449) % 30809))))) := by
  rw [c_X11_anew, e_X11_anew_0, ex, nI_l (by omega), show (577 : Int64) = lN 577 from rfl, lN_mul, show (449 : Int64) = lN 449 from rfl, lN_add, sA_w]
  have e : (lN (x * 577 + 449) - lN (x * 577 + 449) / 30809 * 30809) = lN ((x * 577 + 449) % 30809) := by
    rw [show (30809 : Int64) = lI 30809 from rfl, show lN (x * 577 + 449) = lI ((x * 577 + 449 : Nat) : Int) from (Int64.ofInt_eq_ofNat (n := x * 577 + 449)).symm]
    refine Int64.toInt_inj.mp ?_
    have h1 : lI ((x * 577 + 449 : Nat) : Int) / lI 30809 = lI (((x * 577 + 449) / 30809 : Nat) : Int) := by
      refine Int64.toInt_inj.mp ?_
      rw [Int64.toInt_div_of_ne_left _ _ (by intro e; have := congrArg Int64.toInt e; rw [lt6 (by omega) (by omega)] at this; have e2 : Int64.minValue.toInt = -9223372036854775808 := by decide
                                             omega), lt6 (by omega) (by omega), lt6 (by omega) (by omega), lt6 (by omega) (by omega)]
      rw [Int.tdiv_eq_ediv_of_nonneg (by omega)]
      omega
    rw [h1, lI_mul, lI_sub, lt6 (by omega) (by omega), lN_toInt (by omega)]
    omega
  rw [e, lN_i]
theorem k_pass {n x y : Nat} {wr : Bool} {o : Option Cd} (h : DT) (H : RV (gA h 73) n) (HT : KxS h (gA h 73 2) o) (hw : gF h 72 23 = bzB wr) (hN : NmA h 78) (ex : gA h 73 8 = nI x) (hx : x < 100000) (ey : gA h 73 7 = nI y) (hy : y < 9999) : ∃ h', cal X (d + 9) 231 [vP (some 72)] (SK tx tu gu tl, h) = some (none, (SK tx tu gu tl, h')) ∧ KS h h' ∧ gA h' 73 = pasF o n wr (gA h 73) x y ∧ gF h' 72 24 = gF h 72 24 + nI (pasC o n wr (gA h 73) x) ∧ NmA h' 78 := by
  have e8 : (nI x - nI x / 19 * 19 : Int32) = nI (x % 19) := by rw [litI 19, remI (by omega) (by omega) (by omega)]
  have e1 : wA (wA h 73 (upd (gA h 73) 9 (nI (x % 19) - 9))) 73 (upd (gA (wA h 73 (upd (gA h 73) 9 (nI (x % 19) - 9))) 73) 8 (nI ((x * 577 + 449) % 30809))) = wA h 73 (drwF (gA h 73) x) := by
    rw [gA_wA', wA_wA]
    rfl
  obtain ⟨h', g1, g2, g3, g4, g5⟩ := k_leanAll X d tx tu gu tl (n := n) (wr := wr) (o := o) (wA h 73 (drwF (gA h 73) x)) (by rw [gA_wA']; exact H.dr) (by rw [gA_wA', drwF_o (by omega) (by omega)]; exact HT.cg KS_w.st) hw (fun k hk => by rw [gA_wA, if_neg (by omega)]; exact hN k hk)
  rw [gA_wA'] at g3 g4
  refine ⟨wA h' 73 (pasF o n wr (gA h 73) x y), ?_, (KS_w.tr g2).tr KS_w, gA_wA' _ _ _, g4, fun k hk => by rw [gA_wA, if_neg (by omega)]; exact g5 k hk⟩
  have e7 : (lnI o n wr n 0 (drwF (gA h 73) x)).1 7 = nI y := by rw [lnI_o (by omega) (by omega) (by omega) n 0 _ (by omega) H.dr, drwF_o (by omega) (by omega), ey]
  rw [c_X11_pass, e_X11_pass_0, ex, e8, sA_w, k_anew X (d + 7) tx tu gu tl _ hx (by rw [gA_wA', pk_un (by omega)]; exact ex), bV_s, e1, e_X11_pass_24, g1, bV_s, e_X11_pass_28, sA_w, g3, e7, nI_1]
  rfl
theorem x_draw {wr : Bool} {h : DT} {q x : Nat} {A : Nat → Int32} (hq : isRw q) (H : XQ wr h q A) (ex : A 8 = nI x) (hx : x < 100000) : ∃ h1, cal X (d + 2) 67 [vP (some q)] (SK tx tu gu tl, h) = some (none, (SK tx tu gu tl, h1)) ∧ smX (fun c => c = q) h h1 ∧ XQ wr h1 q (drwF A x) := by
  obtain ⟨⟨r0, r1, r2, r3, r4, r5, r6, r7⟩, b, hb, e5, g⟩ := H
  have e4 : gF h q 4 = nI x := r4.trans ex
  have e8 : (nI x - nI x / 19 * 19 : Int32) = nI (x % 19) := by rw [litI 19, remI (by omega) (by omega) (by omega)]
  refine ⟨sF (sF h q 2 (nI (x % 19) - 9)) q 4 (nI ((x * 577 + 449) % 30809)), ?_, (smX_sF (S := fun c => c = q) rfl).tr (smX_sF rfl), ⟨?_, ?_, ?_, ?_, ?_, fun i hi => ?_, fun i hi => ?_, fun i hi => ?_⟩, b, hb, by rw [gF_sF, if_neg (by omega), gF_sF, if_neg (by omega)]; exact e5, fun hw => ?_⟩
  · rw [c_X5_drawWind, e_X5_drawWind_0 (hp := hq), e4, e8, c_X5_renewX, e_X5_renewX_0 (hp := hq), gF_sF, if_neg (by omega), e4, litI 577, mulI, litI 449, addI, litI 30809, remI (by omega) (by omega) (by omega), bV_s]
  · rw [gF_sF, if_neg (by omega), gF_sF, if_neg (by omega), drwF_o (by omega) (by omega)]; exact r0
  · rw [gF_sF, if_neg (by omega), gF_sF, if_neg (by omega), drwF_o (by omega) (by omega)]; exact r1
  · rw [gF_sF, if_neg (by omega), gF_sF, if_pos ⟨rfl, rfl⟩]
    unfold drwF
    rw [pk_un (by omega), pk_us]
  · rw [gF_sF, if_neg (by omega), gF_sF, if_neg (by omega), drwF_o (by omega) (by omega)]; exact r3
  · rw [gF_sF, if_pos ⟨rfl, rfl⟩]
    unfold drwF
    rw [pk_us]
  · rw [gA_sF, gA_sF, drwF_o (by omega) (by omega)]; exact r5 i hi
  · rw [gA_sF, gA_sF, drwF_o (by omega) (by omega)]; exact r6 i hi
  · rw [gA_sF, gA_sF, drwF_o (by omega) (by omega)]; exact r7 i hi
  · obtain ⟨g1, g2, g3⟩ := g hw
    refine ⟨by rw [drwF_o (by omega) (by omega)]; exact g1, fun i hi => ?_, fun i hi => ?_⟩
    · rw [gA_sF, gA_sF, drwF_o (by omega) (by omega)]; exact g2 i hi
    · rw [gA_sF, gA_sF, drwF_o (by omega) (by omega)]; exact g3 i hi
theorem x_pass {q n x y : Nat} {wr : Bool} {tp : Option Nat} {o : Option Cd} (hq : isRw q) (h : DT) {A : Nat → Int32} (H : RV A n) (HX : XQ wr h q A) (HT : TxS h tp o) (hN : NmA h 41) (ex : A 8 = nI x) (hx : x < 100000) (ey : A 7 = nI y) (hy : y < 9999) : ∃ h1, cal X (d + 5) 6 [vP (some 40), vP (some q), vP tp, vI 1] (SK tx tu gu tl, h) = some (some (vI (nI (pasC o n wr A x))), (SK tx tu gu tl, h1)) ∧ smX (isPs q) h h1 ∧ XQ wr h1 q (pasF o n wr A x y) ∧ NmA h1 41 := by
  obtain ⟨h1, a1, a2, a3⟩ := x_draw X (d + 2) tx tu gu tl hq HX ex hx
  have HT1 : TxS h1 tp o := HT.cg (smT_of a2 (by unfold isRw at hq; omega) (fun c _ _ => by unfold isRw at hq; omega))
  obtain ⟨h2, b1, b2, b3, b4⟩ := x_psl X d tx tu gu tl (n := n) (wr := wr) (tp := tp) (o := o) 1 hq n 0 999999 0 h1 (drwF A x) H.dr a3 HT1 (fun k hk => by rw [smA a2 (by unfold isRw at hq; omega)]; exact hN k hk) (by omega) (by have := H.1.2.1; omega)
  have e7 : (lnI o n wr n 0 (drwF A x)).1 7 = nI y := by rw [lnI_o (by omega) (by omega) (by omega) n 0 _ (by omega) H.dr, drwF_o (by omega) (by omega), ey]
  have f3 : gF h2 q 3 = nI y := b3.1.2.2.2.1.trans e7
  refine ⟨sF h2 q 3 (nI (y + 1)), ?_, ((a2.mo fun c hc => Or.inl hc).tr b2).tr (smX_sF (Or.inl rfl)), ?_, fun k hk => by rw [gA_sF]; exact b4 k hk⟩
  · rw [c_ps X (d + 4) HT.tp, ps_0 X (d + 4) tx tu gu tl hq HT.tp, if_neg (by decide), a1, bV_s]
    refine b1.trans ?_
    rw [if_neg (by decide), f3, nI_1, Nat.zero_add]
    rfl
  · obtain ⟨⟨r0, r1, r2, r3, r4, r5, r6, r7⟩, b, hb, e5, g⟩ := b3
    unfold pasF
    refine ⟨⟨?_, ?_, ?_, ?_, ?_, fun i hi => ?_, fun i hi => ?_, fun i hi => ?_⟩, b, hb, by rw [gF_sF, if_neg (by omega)]; exact e5, fun hw => ?_⟩
    · rw [gF_sF, if_neg (by omega), pk_un (by omega)]; exact r0
    · rw [gF_sF, if_neg (by omega), pk_un (by omega)]; exact r1
    · rw [gF_sF, if_neg (by omega), pk_un (by omega)]; exact r2
    · rw [gF_sF, if_pos ⟨rfl, rfl⟩, pk_us]
    · rw [gF_sF, if_neg (by omega), pk_un (by omega)]; exact r4
    · rw [gA_sF, pk_un (by omega)]; exact r5 i hi
    · rw [gA_sF, pk_un (by omega)]; exact r6 i hi
    · rw [gA_sF, pk_un (by omega)]; exact r7 i hi
    · obtain ⟨g1, g2, g3⟩ := g hw
      refine ⟨by rw [pk_un (by omega)]; exact g1, fun i hi => ?_, fun i hi => ?_⟩
      · rw [gA_sF, pk_un (by omega)]; exact g2 i hi
      · rw [gA_sF, pk_un (by omega)]; exact g3 i hi
theorem x_lall {q n : Nat} {wr : Bool} {tp : Option Nat} {o : Option Cd} (hq : isRw q) (h : DT) {A : Nat → Int32} (H : RV A n) (HX : XQ wr h q A) (HT : TxS h tp o) (hN : NmA h 41) : ∃ h1, cal X (d + 5) 6 [vP (some 40), vP (some q), vP tp, vI 0] (SK tx tu gu tl, h) = some (some (vI (nI (lnI o n wr n 0 A).2)), (SK tx tu gu tl, h1)) ∧ smX (isPs q) h h1 ∧ XQ wr h1 q (lnI o n wr n 0 A).1 ∧ NmA h1 41 := by
  obtain ⟨h2, b1, b2, b3, b4⟩ := x_psl X d tx tu gu tl (n := n) (wr := wr) (tp := tp) (o := o) 0 hq n 0 999999 0 h A H HX HT hN (by omega) (by have := H.1.2.1; omega)
  refine ⟨h2, ?_, b2, b3, b4⟩
  rw [c_ps X (d + 4) HT.tp, ps_0 X (d + 4) tx tu gu tl hq HT.tp, if_pos rfl]
  refine b1.trans ?_
  rw [if_pos rfl, Nat.zero_add]
end YM
