/-! A YEAR in the class and in the reference -/
/-- the text that rules, as the class hands it on, and its law of leaning -/
def TxS (h : DT) (tp : Option Nat) (o : Option Cd) : Prop := (tp = none ∧ o = none) ∨ ∃ j T, j < 4 ∧ tp = some (txc j) ∧ TxR h j T ∧ o = T.2.1
theorem TxS.cg {h h' : DT} {tp : Option Nat} {o : Option Cd} (H : TxS h tp o) (s : smT h h') : TxS h' tp o := by
  rcases H with q | ⟨j, T, h1, h2, h3, h4⟩
  · exact Or.inl q
  · exact Or.inr ⟨j, T, h1, h2, h3.cg h1 s, h4⟩
def isTp (tp : Option Nat) : Prop := tp = none ∨ ∃ t, isTx t ∧ tp = some t
theorem TxS.tp {h : DT} {tp : Option Nat} {o : Option Cd} (H : TxS h tp o) : isTp tp := by
  rcases H with q | ⟨j, T, h1, h2, h3, h4⟩
  · exact Or.inl q.1
  · exact Or.inr ⟨_, txc_tx h1, h2⟩
def isPs (q c : Nat) : Prop := c = q ∨ c = q + 1 ∨ c = q + 5 ∨ c = 40 ∨ c = 41 ∨ c = 42
section YE
variable (X : XS) (d : Nat) (tx tu gu : Option Nat) (tl : List SC)
theorem x_lean {h : DT} {q n p : Nat} {A : Nat → Int32} {tp : Option Nat} {o : Option Cd} (hq : isRw q) (H : RV A n) (HX : XR0 h q A) (hp : p < n) (HT : TxS h tp o) (hN : NmA h 41) : ∃ h1, cal X (d + 4) 7 [vP (some 40), vP (some q), vI (nI p), vP tp] (SK tx tu gu tl, h) = some (some (vI (zI (lnV o A n p))), (SK tx tu gu tl, h1)) ∧ smX (fun c => c = 40 ∨ c = 41 ∨ c = 42) h h1 ∧ NmA h1 41 := by
  rcases HT with ⟨rfl, rfl⟩ | ⟨j, T, h1, rfl, h3, rfl⟩
  · exact ⟨h, x_leaning_n X d tx tu gu tl hq H HX hp, smX.rf _ h, hN⟩
  · exact x_leaning X d tx tu gu tl hq H HX hp h1 h3.2.2.2.2.1 hN
theorem ps_14 {q f : Nat} {tp : Option Nat} (hq : isRw q) (ht : isTp tp) (x3 x4 x5 : Int32) (h : DT) : m_X1_pass X d (f + 1) 14 [(0, vP (some 40)), (1, vP (some q)), (2, vP tp), (3, vI x3), (4, vI x4), (5, vI x5)] [] (SK tx tu gu tl, h) = if (gF h q 0) ≤ x5 then (if x3 = 0 then (some (some (vI (x4)), (SK tx tu gu tl, h))) else some (some (vI (x4)), (SK tx tu gu tl, sF h q 3 ((gF h q 3) + 1)))) else bI (cal X d 60 [vP (some q), vI x5] (SK tx tu gu tl, h)) fun r1 H1 => m_X1_pass X d f 29 [(0, vP (some 40)), (1, vP (some q)), (2, vP tp), (3, vI x3), (4, vI x4), (5, vI x5)] [vI r1] H1 := by
  rcases ht with rfl | ⟨t, ht, rfl⟩
  · exact e_X1_passn_14 (hp := hq) ..
  · exact e_X1_pass_14 (hp := hq) (ht := ht) ..
theorem ps_29 {q f : Nat} {tp : Option Nat} (hq : isRw q) (ht : isTp tp) (x3 x4 x5 s0 : Int32) (h : DT) : m_X1_pass X d (f + 1) 29 [(0, vP (some 40)), (1, vP (some q)), (2, vP tp), (3, vI x3), (4, vI x4), (5, vI x5)] [vI s0] (SK tx tu gu tl, h) = if s0 = 0 then (inb x5 5 fun j1 => inb (gA h (q + 4) j1) 5 fun j2 => bI (cal X d 7 [vP (some 40), vP (some q), vI (gA h (q + 4) j1), vP tp] (SK tx tu gu tl, h)) fun r3 H3 => m_X1_pass X d f 61 [(0, vP (some 40)), (1, vP (some q)), (2, vP tp), (3, vI x3), (4, vI x4), (5, vI x5), (6, vI (gA h (q + 4) j1)), (7, vI (gA h (q + 1) j2))] [vI r3] H3) else m_X1_pass X d f 14 [(0, vP (some 40)), (1, vP (some q)), (2, vP tp), (3, vI x3), (4, vI x4), (5, vI (x5 + 1))] [] (SK tx tu gu tl, h) := by
  rcases ht with rfl | ⟨t, ht, rfl⟩
  · exact e_X1_passn_29 (hp := hq) ..
  · exact e_X1_pass_29 (hp := hq) (ht := ht) ..
theorem ps_61 {q f : Nat} {tp : Option Nat} (hq : isRw q) (ht : isTp tp) (x3 x4 x5 x6 x7 s0 : Int32) (h : DT) : m_X1_pass X d (f + 1) 61 [(0, vP (some 40)), (1, vP (some q)), (2, vP tp), (3, vI x3), (4, vI x4), (5, vI x5), (6, vI x6), (7, vI x7)] [vI s0] (SK tx tu gu tl, h) = inb x6 5 fun j1 => if s0 = 0 then (if x7 = 0 then (m_X1_pass X d f 14 [(0, vP (some 40)), (1, vP (some q)), (2, vP tp), (3, vI x3), (4, vI x4), (5, vI (x5 + 1))] [] (SK tx tu gu tl, sA h (q + 1) j1 s0)) else bV (cal X d 68 [vP (some q), vI x6] (SK tx tu gu tl, sA h (q + 1) j1 s0)) fun H2 => m_X1_pass X d f 14 [(0, vP (some 40)), (1, vP (some q)), (2, vP tp), (3, vI x3), (4, vI (x4 + 1)), (5, vI (x5 + 1))] [] H2) else m_X1_pass X d f 14 [(0, vP (some 40)), (1, vP (some q)), (2, vP tp), (3, vI x3), (4, vI x4), (5, vI (x5 + 1))] [] (SK tx tu gu tl, sA h (q + 1) j1 s0) := by
  rcases ht with rfl | ⟨t, ht, rfl⟩
  · exact e_X1_passn_61 (hp := hq) ..
  · exact e_X1_pass_61 (hp := hq) (ht := ht) ..
theorem ps_0 {q f : Nat} {tp : Option Nat} (hq : isRw q) (ht : isTp tp) (x3 : Int32) (h : DT) : m_X1_pass X d (f + 1) 0 [(0, vP (some 40)), (1, vP (some q)), (2, vP tp), (3, vI x3)] [] (SK tx tu gu tl, h) = if x3 = 0 then (m_X1_pass X d f 14 [(0, vP (some 40)), (1, vP (some q)), (2, vP tp), (3, vI x3), (4, vI 0), (5, vI 0)] [] (SK tx tu gu tl, h)) else bV (cal X d 67 [vP (some q)] (SK tx tu gu tl, h)) fun H1 => m_X1_pass X d f 14 [(0, vP (some 40)), (1, vP (some q)), (2, vP tp), (3, vI x3), (4, vI 0), (5, vI 0)] [] H1 := by
  rcases ht with rfl | ⟨t, ht, rfl⟩
  · exact e_X1_passn_0 (hp := hq) ..
  · exact e_X1_pass_0 (hp := hq) (ht := ht) ..
theorem c_ps {q : Nat} {tp : Option Nat} (ht : isTp tp) (x3 : Int32) (H : HP) : cal X (d + 1) 6 [vP (some 40), vP (some q), vP tp, vI x3] H = m_X1_pass X d 1000000 0 [(0, vP (some 40)), (1, vP (some q)), (2, vP tp), (3, vI x3)] [] H := by
  rcases ht with rfl | ⟨t, ht, rfl⟩
  · exact c_X1_passn ..
  · exact c_X1_pass ..
theorem x_psl {q n : Nat} {wr : Bool} {tp : Option Nat} {o : Option Cd} (x3 : Int32) (hq : isRw q) : ∀ (c s f k : Nat) (h : DT) (A : Nat → Int32), RV A n → XQ wr h q A → TxS h tp o → NmA h 41 → s + c = n → 3 * c + 1 ≤ f → ∃ h1, m_X1_pass X (d + 4) f 14 [(0, vP (some 40)), (1, vP (some q)), (2, vP tp), (3, vI x3), (4, vI (nI k)), (5, vI (nI s))] [] (SK tx tu gu tl, h) = (if x3 = 0 then some (some (vI (nI (k + (lnI o n wr c s A).2))), (SK tx tu gu tl, h1)) else some (some (vI (nI (k + (lnI o n wr c s A).2))), (SK tx tu gu tl, sF h1 q 3 ((gF h1 q 3) + 1)))) ∧ smX (isPs q) h h1 ∧ XQ wr h1 q (lnI o n wr c s A).1 ∧ NmA h1 41
  | 0, s, f, k, h, A, H, HX, HT, hN, hs, hf => by
    obtain ⟨f, rfl⟩ : ∃ f', f = f' + 1 := ⟨f - 1, by omega⟩
    have hn := H.1.2.1
    refine ⟨h, ?_, smX.rf _ h, HX, hN⟩
    rw [ps_14 X (d + 4) tx tu gu tl hq HT.tp, HX.1.1, H.1.1, if_pos (nI_le (by omega) (by omega))]
    rfl
  | c + 1, s, f, k, h, A, H, HX, HT, hN, hs, hf => by
    obtain ⟨f, rfl⟩ : ∃ f', f = f' + 1 + 1 + 1 := ⟨f - 3, by omega⟩
    have hn := H.1.2.1
    have ht := HT.tp
    obtain ⟨p, hp, e⟩ := H.at (s := s) (by omega)
    obtain ⟨b, hb, eb⟩ := H.bk
    obtain ⟨pq, hpq, epq⟩ := H.pq
    have hv := lnV_b (o := o) H hp
    have xq : gF h q 1 = nI pq := HX.1.2.1.trans epq
    have bt := bt_get pq hpq s (by omega)
    have xs : gA h (q + 4) s = nI p := (HX.1.2.2.2.2.2.2.2 s (by omega)).trans e
    have xl : gA h (q + 1) p = A (12 + p) := HX.1.2.2.2.2.2.1 p (by omega)
    have isP : cal X (d + 4) 60 [vP (some q), vI (nI s)] (SK tx tu gu tl, h) = some (some (vI (bzB (Nat.testBit pq s))), (SK tx tu gu tl, h)) := by
      rw [c_X5_isPropped, e_X5_isPropped_0 (hp := hq), xq, bt]
      cases Nat.testBit pq s <;> rfl
    have eS : lnSt o n wr A s = bif Nat.testBit pq s then (A, 0) else if lnV o A n p = 0 ∧ A (12 + p) ≠ 0 then (bif wr then wrF (upd A (12 + p) (zI (lnV o A n p))) b p else upd A (12 + p) (zI (lnV o A n p)), 1) else (upd A (12 + p) (zI (lnV o A n p)), 0) := by
      unfold lnSt
      rw [epq, clI (by omega), e, clI (by omega), eb, clI (by omega)]
    have eI : lnI o n wr (c + 1) s A = ((lnI o n wr c (s + 1) (lnSt o n wr A s).1).1, (lnSt o n wr A s).2 + (lnI o n wr c (s + 1) (lnSt o n wr A s).1).2) := rfl
    have HS := lnSt_rv (o := o) (wr := wr) H (s := s) (by omega)
    rw [eI]
    rw [ps_14 X (d + 4) tx tu gu tl hq ht, HX.1.1, H.1.1, if_neg (nI_ge (by omega) (by omega)), isP, bI_s, ps_29 X (d + 4) tx tu gu tl hq ht]
    cases hbt : Nat.testBit pq s with
    | true =>
      have e1 : lnSt o n wr A s = (A, 0) := by rw [eS, hbt]; rfl
      obtain ⟨h1, g1, g2, g3, g4⟩ := x_psl x3 hq c (s + 1) (f + 1) k h A H HX HT hN (by omega) (by omega)
      refine ⟨h1, ?_, g2, ?_, g4⟩
      · rw [if_neg (by decide), nI_1, g1, e1, Nat.zero_add]
      · rw [e1]; exact g3
    | false =>
      obtain ⟨h1, l1, l2, l3⟩ := x_lean X d tx tu gu tl hq H HX.1 hp HT hN
      have HX1 : XQ wr h1 q A := HX.cg fun c _ _ => ⟨smF l2 (by unfold isRw at hq; omega), smA l2 (by unfold isRw at hq; omega)⟩
      have HT1 : TxS h1 tp o := HT.cg (smT_of l2 (by omega) (fun c _ _ => by omega))
      have s2 : smX (fun c => c = q + 1) h1 (sA h1 (q + 1) p (zI (lnV o A n p))) := smX_sA rfl
      have HX2 : XQ wr (sA h1 (q + 1) p (zI (lnV o A n p))) q (upd A (12 + p) (zI (lnV o A n p))) := HX1.s (by omega)
      have HT2 : TxS (sA h1 (q + 1) p (zI (lnV o A n p))) tp o := HT1.cg (smT_of s2 (by unfold isRw at hq; omega) (fun c _ _ => by unfold isRw at hq; omega))
      have hN2 : NmA (sA h1 (q + 1) p (zI (lnV o A n p))) 41 := fun k hk => by rw [smA s2 (by unfold isRw at hq; omega)]; exact l3 k hk
      have l2' : smX (isPs q) h h1 := l2.mo fun c hc => by unfold isPs; omega
      have s2' : smX (isPs q) h1 (sA h1 (q + 1) p (zI (lnV o A n p))) := s2.mo fun c hc => by unfold isPs; omega
      rw [if_pos (by decide), inbI (by omega) (by omega), xs, inbI (by omega) (by omega), xl, l1, bI_s, ps_61 X (d + 4) tx tu gu tl hq ht, inbI (by omega) (by omega), nI_1]
      rw [hbt] at eS
      change lnSt o n wr A s = if lnV o A n p = 0 ∧ A (12 + p) ≠ 0 then (bif wr then wrF (upd A (12 + p) (zI (lnV o A n p))) b p else upd A (12 + p) (zI (lnV o A n p)), 1) else (upd A (12 + p) (zI (lnV o A n p)), 0) at eS
      have z0 : (0 : Int32) = zI 0 := rfl
      by_cases v0 : lnV o A n p = 0
      · rw [if_pos (show zI (lnV o A n p) = 0 by rw [v0]; rfl)]
        by_cases a0 : A (12 + p) = 0
        · rw [if_neg (fun g => g.2 a0)] at eS
          obtain ⟨h3, g1, g2, g3, g4⟩ := x_psl x3 hq c (s + 1) f k _ _ (eS ▸ HS) HX2 HT2 hN2 (by omega) (by omega)
          refine ⟨h3, ?_, (l2'.tr s2').tr g2, ?_, g4⟩
          · rw [if_pos a0, g1, eS, Nat.zero_add]
          · rw [eS]; exact g3
        · rw [if_pos ⟨v0, a0⟩] at eS
          obtain ⟨h4, w1, w2, w3⟩ := x_write X (d + 3) tx tu gu tl (wr := wr) (b := b) (p := p) hq HX2 (fun _ => by rw [pk_un (by omega)]; exact eb) hb
          have HT4 : TxS h4 tp o := HT2.cg (smT_of w2 (by unfold isRw at hq; omega) (fun c _ _ => by unfold isRw at hq; omega))
          have hN4 : NmA h4 41 := fun k hk => by rw [smA w2 (by unfold isRw at hq; omega)]; exact hN2 k hk
          rw [eS] at HS
          obtain ⟨h3, g1, g2, g3, g4⟩ := x_psl x3 hq c (s + 1) f (k + 1) _ _ HS w3 HT4 hN4 (by omega) (by omega)
          refine ⟨h3, ?_, ((l2'.tr s2').tr (w2.mo fun c hc => by unfold isPs; omega)).tr g2, ?_, g4⟩
          · rw [if_neg a0, w1, bV_s, nI_1, g1, eS, Nat.add_assoc]
          · rw [eS]; exact g3
      · rw [if_neg (fun g => v0 g.1)] at eS
        obtain ⟨h3, g1, g2, g3, g4⟩ := x_psl x3 hq c (s + 1) f k _ _ (eS ▸ HS) HX2 HT2 hN2 (by omega) (by omega)
        refine ⟨h3, ?_, (l2'.tr s2').tr g2, ?_, g4⟩
        · rw [if_neg (by rw [z0]; exact zne (by omega) (by omega) v0), g1, eS, Nat.zero_add]
        · rw [eS]; exact g3
end YE
