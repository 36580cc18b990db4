/-! A YEAR: everybody leans, from the first seat on -/
def wr1 (A : Nat → Int32) (b p : Nat) : Nat → Int32 := upd (upd A (1456 + b) ((((A 7 * 5) + nI p) * 19 + A 9) + 9)) 11 (nI (b + 1))
def wrF (A : Nat → Int32) (b p : Nat) : Nat → Int32 := if b = 30 then wr1 (upd (cpA A A 1457 1456 29) 11 (nI 29)) 29 p else wr1 A b p
theorem wrF_o {A : Nat → Int32} {b p i : Nat} (hb : b ≤ 30) (h1 : i ≠ 11) (h2 : i < 1456) : wrF A b p i = A i := by
  unfold wrF wr1
  by_cases g : b = 30
  · rw [if_pos g, pk_un h1, pk_un (by omega), pk_un h1, cpA_at, if_neg (by omega)]
  · rw [if_neg g, pk_un h1, pk_un (by omega)]
theorem wrF_11 {A : Nat → Int32} {b p : Nat} : wrF A b p 11 = nI (kN b) := by
  unfold wrF wr1 kN
  by_cases g : b = 30
  · rw [if_pos g, if_pos g, pk_us]
  · rw [if_neg g, if_neg g, pk_us]
theorem kN_le {b : Nat} (h : b ≤ 30) : kN b ≤ 30 := by
  unfold kN
  by_cases g : b = 30
  · rw [if_pos g]; omega
  · rw [if_neg g]; omega
theorem RowOk.cb {A B : Nat → Int32} {n k : Nat} (H : RowOk A 7 n) (e : ∀ i, 7 ≤ i → i < 22 → i ≠ 11 → B i = A i) (e11 : B 11 = nI k) (hk : k ≤ 30) : RowOk B 7 n := by
  obtain ⟨r0, r1, r2, r3, r4, r5, r6, r7, r8, r9⟩ := H
  refine ⟨r0, ?_, ?_, ?_, ?_, ⟨k, hk, e11⟩, fun i hi => ?_, fun i hi1 hi => ?_, fun s hs => ?_, fun p hp => ?_⟩
  · rw [e _ (by omega) (by omega) (by omega)]; exact r1
  · rw [e _ (by omega) (by omega) (by omega)]; exact r2
  · rw [e _ (by omega) (by omega) (by omega)]; exact r3
  · rw [e _ (by omega) (by omega) (by omega)]; exact r4
  · rw [e _ (by omega) (by omega) (by omega)]; exact r6 i hi
  · rw [e _ (by omega) (by omega) (by omega), e _ (by omega) (by omega) (by omega)]; exact r7 i hi1 hi
  · rw [e _ (by omega) (by omega) (by omega)]; exact r8 s hs
  · obtain ⟨s, hs, e2⟩ := r9 p hp
    exact ⟨s, hs, by rw [e _ (by omega) (by omega) (by omega)]; exact e2⟩
theorem RowOk.cs {A : Nat → Int32} {n p : Nat} {v : Int32} (H : RowOk A 7 n) (hp : p < n) (hv : stp9 v) : RowOk (upd A (12 + p) v) 7 n := by
  obtain ⟨r0, r1, r2, r3, r4, r5, r6, r7, r8, r9⟩ := H
  refine ⟨r0, ?_, ?_, ?_, ?_, ?_, fun i hi => ?_, fun i hi1 hi => ?_, fun s hs => ?_, fun p hp => ?_⟩
  · rw [pk_un (by omega)]; exact r1
  · rw [pk_un (by omega)]; exact r2
  · rw [pk_un (by omega)]; exact r3
  · rw [pk_un (by omega)]; exact r4
  · rw [pk_un (by omega)]; exact r5
  · by_cases e1 : i = p
    · subst e1
      rw [show 7 + 5 + i = 12 + i by omega, pk_us]
      exact hv
    · rw [pk_un (by omega)]; exact r6 i hi
  · rw [pk_un (by omega), pk_un (by omega)]; exact r7 i hi1 hi
  · rw [pk_un (by omega)]; exact r8 s hs
  · obtain ⟨s, hs, e2⟩ := r9 p hp
    exact ⟨s, hs, by rw [pk_un (by omega)]; exact e2⟩
theorem RV.cb {A B : Nat → Int32} {n k : Nat} (H : RV A n) (e : ∀ i, i < 38 → i ≠ 11 → B i = A i) (e11 : B 11 = nI k) (hk : k ≤ 30) : RV B n := ⟨H.1.cg (e _ (by omega) (by omega)) (fun i _ _ => e _ (by omega) (by omega)), H.2.cb (fun i _ _ h => e _ (by omega) h) e11 hk⟩
theorem RV.cs {A : Nat → Int32} {n p : Nat} {v : Int32} (H : RV A n) (hp : p < n) (hv : stp9 v) : RV (upd A (12 + p) v) n := by
  have hn := H.1.2.1
  exact ⟨H.1.cg (pk_un (by omega)) (fun i _ _ => pk_un (by omega)), H.2.cs hp hv⟩
theorem RV.bk {A : Nat → Int32} {n : Nat} (H : RV A n) : ∃ b, b ≤ 30 ∧ A 11 = nI b := H.2.2.2.2.2.2.1
theorem RV.pq {A : Nat → Int32} {n : Nat} (H : RV A n) : ∃ q, q < 32 ∧ A 10 = nI q := H.2.2.2.2.2.1
/-- one seat: what comes of the row, and whether anybody came to stand straight -/
def lnSt (o : Option Cd) (n : Nat) (wr : Bool) (A : Nat → Int32) (s : Nat) : (Nat → Int32) × Nat :=
  bif Nat.testBit (A 10).toNatClampNeg s then (A, 0) else
  if lnV o A n (A (17 + s)).toNatClampNeg = 0 ∧ A (12 + (A (17 + s)).toNatClampNeg) ≠ 0 then
    (bif wr then wrF (upd A (12 + (A (17 + s)).toNatClampNeg) (zI (lnV o A n (A (17 + s)).toNatClampNeg))) (A 11).toNatClampNeg (A (17 + s)).toNatClampNeg else upd A (12 + (A (17 + s)).toNatClampNeg) (zI (lnV o A n (A (17 + s)).toNatClampNeg)), 1)
  else (upd A (12 + (A (17 + s)).toNatClampNeg) (zI (lnV o A n (A (17 + s)).toNatClampNeg)), 0)
def lnI (o : Option Cd) (n : Nat) (wr : Bool) : Nat → Nat → (Nat → Int32) → (Nat → Int32) × Nat
  | 0, _, A => (A, 0)
  | c + 1, s, A => ((lnI o n wr c (s + 1) (lnSt o n wr A s).1).1, (lnSt o n wr A s).2 + (lnI o n wr c (s + 1) (lnSt o n wr A s).1).2)
theorem lnSt_rv {o : Option Cd} {n s : Nat} {wr : Bool} {A : Nat → Int32} (H : RV A n) (hs : s < n) : RV (lnSt o n wr A s).1 n := by
  have hn := H.1.2.1
  obtain ⟨p, hp, e⟩ := H.at hs
  obtain ⟨b, hb, eb⟩ := H.bk
  have hv := lnV_b (o := o) H hp
  unfold lnSt
  rw [e, clI (by omega), eb, clI (by omega)]
  have H1 := H.cs (v := zI (lnV o A n p)) hp (z9s hv.1 hv.2)
  cases Nat.testBit (A 10).toNatClampNeg s with
  | true => exact H
  | false =>
    show RV (if lnV o A n p = 0 ∧ A (12 + p) ≠ 0 then (bif wr then wrF (upd A (12 + p) (zI (lnV o A n p))) b p else upd A (12 + p) (zI (lnV o A n p)), 1) else (upd A (12 + p) (zI (lnV o A n p)), 0)).1 n
    by_cases g : lnV o A n p = 0 ∧ A (12 + p) ≠ 0
    · rw [if_pos g]
      cases wr with
      | false => exact H1
      | true => exact H1.cb (fun i h1 h2 => wrF_o hb h2 (by omega)) wrF_11 (kN_le hb)
    · rw [if_neg g]; exact H1
theorem lnSt_o {o : Option Cd} {n s : Nat} {wr : Bool} {A : Nat → Int32} (H : RV A n) (hs : s < n) {i : Nat} (h1 : ¬ (12 ≤ i ∧ i < 17)) (h2 : i ≠ 11) (h3 : i < 1456) : (lnSt o n wr A s).1 i = A i := by
  have hn := H.1.2.1
  obtain ⟨p, hp, e⟩ := H.at hs
  obtain ⟨b, hb, eb⟩ := H.bk
  unfold lnSt
  rw [e, clI (by omega), eb, clI (by omega)]
  cases Nat.testBit (A 10).toNatClampNeg s with
  | true => rfl
  | false =>
    show (if lnV o A n p = 0 ∧ A (12 + p) ≠ 0 then (bif wr then wrF (upd A (12 + p) (zI (lnV o A n p))) b p else upd A (12 + p) (zI (lnV o A n p)), 1) else (upd A (12 + p) (zI (lnV o A n p)), 0)).1 i = A i
    by_cases g : lnV o A n p = 0 ∧ A (12 + p) ≠ 0
    · rw [if_pos g]
      cases wr with
      | false => exact pk_un (by omega)
      | true => exact (wrF_o hb h2 h3).trans (pk_un (by omega))
    · rw [if_neg g]; exact pk_un (by omega)
theorem lnI_rv {o : Option Cd} {n : Nat} {wr : Bool} : ∀ (c s : Nat) (A : Nat → Int32), s + c ≤ n → RV A n → RV (lnI o n wr c s A).1 n
  | 0, s, A, hs, H => H
  | c + 1, s, A, hs, H => lnI_rv c (s + 1) _ (by omega) (lnSt_rv H (by omega))
theorem lnI_o {o : Option Cd} {n : Nat} {wr : Bool} {i : Nat} (h1 : ¬ (12 ≤ i ∧ i < 17)) (h2 : i ≠ 11) (h3 : i < 1456) : ∀ (c s : Nat) (A : Nat → Int32), s + c ≤ n → RV A n → (lnI o n wr c s A).1 i = A i
  | 0, s, A, hs, H => rfl
  | c + 1, s, A, hs, H => (lnI_o h1 h2 h3 c (s + 1) _ (by omega) (lnSt_rv H (by omega))).trans (lnSt_o H (by omega) h1 h2 h3)
theorem lnI_c {o : Option Cd} {n : Nat} {wr : Bool} : ∀ (c s : Nat) (A : Nat → Int32), (lnI o n wr c s A).2 ≤ c
  | 0, s, A => Nat.le_refl 0
  | c + 1, s, A => by
    have h1 := lnI_c (o := o) (n := n) (wr := wr) c (s + 1) (lnSt o n wr A s).1
    have h2 : (lnSt o n wr A s).2 ≤ 1 := by
      unfold lnSt
      cases Nat.testBit (A 10).toNatClampNeg s with
      | true => exact Nat.zero_le _
      | false =>
        show (if _ then (_, 1) else (_, 0)).2 ≤ 1
        split <;> simp
    show (lnSt o n wr A s).2 + (lnI o n wr c (s + 1) (lnSt o n wr A s).1).2 ≤ c + 1
    omega
/-- the class's row, with its book or without -/
def XQ (wr : Bool) (h : DT) (q : Nat) (A : Nat → Int32) : Prop := XR0 h q A ∧ ∃ b, b ≤ 30 ∧ gF h q 5 = nI b ∧ (wr = true → A 11 = nI b ∧ (∀ i, i < 5 → gA h (q + 3) i = A (27 + i)) ∧ ∀ i, i < 30 → gA h (q + 5) i = A (1456 + i))
theorem XQ.row {h : DT} {q : Nat} {A : Nat → Int32} (H : XQ true h q A) : XRow h q A := by
  obtain ⟨⟨r0, r1, r2, r3, r4, r5, r6, r7⟩, b, hb, e, g⟩ := H
  obtain ⟨g1, g2, g3⟩ := g rfl
  exact ⟨r0, r1, r2, r3, r4, e.trans g1.symm, r5, r6, g2, r7, g3⟩
theorem XRow.q {h : DT} {q n : Nat} {A : Nat → Int32} (H : XRow h q A) (HV : RV A n) : XQ true h q A := by
  obtain ⟨b, hb, e⟩ := HV.bk
  exact ⟨H.r0, b, hb, H.2.2.2.2.2.1.trans e, fun _ => ⟨e, H.2.2.2.2.2.2.2.2.1, H.2.2.2.2.2.2.2.2.2.2⟩⟩
theorem XQ.cg {wr : Bool} {h h' : DT} {q : Nat} {A : Nat → Int32} (H : XQ wr h q A) (e : ∀ c, q ≤ c → c ≤ q + 5 → gF h' c = gF h c ∧ gA h' c = gA h c) : XQ wr h' q A := by
  obtain ⟨r, b, hb, e1, g⟩ := H
  refine ⟨r.cg fun c h1 h2 => e c h1 (by omega), b, hb, by rw [(e q (by omega) (by omega)).1]; exact e1, fun hw => ?_⟩
  rw [(e (q + 3) (by omega) (by omega)).2, (e (q + 5) (by omega) (by omega)).2]
  exact g hw
theorem XR0.s {h : DT} {q p : Nat} {A : Nat → Int32} {v : Int32} (H : XR0 h q A) (hp : p < 5) : XR0 (sA h (q + 1) p v) q (upd A (12 + p) v) := by
  obtain ⟨r0, r1, r2, r3, r4, r5, r6, r7⟩ := H
  refine ⟨?_, ?_, ?_, ?_, ?_, fun i hi => ?_, fun i hi => ?_, fun i hi => ?_⟩
  · rw [gF_sA, pk_un (by omega)]; exact r0
  · rw [gF_sA, pk_un (by omega)]; exact r1
  · rw [gF_sA, pk_un (by omega)]; exact r2
  · rw [gF_sA, pk_un (by omega)]; exact r3
  · rw [gF_sA, pk_un (by omega)]; exact r4
  · rw [gA_sA, upd_at]; exact if2 (by omega) (fun _ => r5 i hi)
  · rw [gA_sA, if_neg (by omega), pk_un (by omega)]; exact r6 i hi
  · rw [gA_sA, if_neg (by omega), pk_un (by omega)]; exact r7 i hi
theorem XQ.s {wr : Bool} {h : DT} {q p : Nat} {A : Nat → Int32} {v : Int32} (H : XQ wr h q A) (hp : p < 5) : XQ wr (sA h (q + 1) p v) q (upd A (12 + p) v) := by
  obtain ⟨r, b, hb, e1, g⟩ := H
  refine ⟨r.s hp, b, hb, e1, fun hw => ?_⟩
  obtain ⟨g1, g2, g3⟩ := g hw
  refine ⟨by rw [pk_un (by omega)]; exact g1, fun i hi => ?_, fun i hi => ?_⟩
  · rw [gA_sA, if_neg (by omega), pk_un (by omega)]; exact g2 i hi
  · rw [gA_sA, if_neg (by omega), pk_un (by omega)]; exact g3 i hi
section PA
variable (X : XS) (d : Nat) (tx tu gu : Option Nat) (tl : List SC)
theorem x_wr34 {wr : Bool} {h : DT} {q b p f : Nat} {A : Nat → Int32} (hq : isRw q) (H : XR0 h q A) (hb : b < 30) (e5 : gF h q 5 = nI b) (g : wr = true → A 11 = nI b ∧ (∀ i, i < 5 → gA h (q + 3) i = A (27 + i)) ∧ ∀ i, i < 30 → gA h (q + 5) i = A (1456 + i)) : ∃ h1, m_X5_write X d (f + 1) 34 [(0, vP (some q)), (1, vI (nI p))] [] (SK tx tu gu tl, h) = some (none, (SK tx tu gu tl, h1)) ∧ smX (fun c => c = q ∨ c = q + 5) h h1 ∧ XQ wr h1 q (bif wr then wr1 A b p else A) := by
  obtain ⟨r0, r1, r2, r3, r4, r5, r6, r7⟩ := id H
  refine ⟨sF (sA h (q + 5) b ((((A 7 * 5) + nI p) * 19 + A 9) + 9)) q 5 (nI (b + 1)), ?_, (smX_sA (Or.inr rfl)).tr (smX_sF (Or.inl rfl)), ?_⟩
  · rw [e_X5_write_34 (hp := hq), e5, inbI (by omega) (by omega), r3, r2, nI_1]
  · have rd : ∀ B : Nat → Int32, (∀ i, i < 32 → i ≠ 11 → B i = A i) → XR0 (sF (sA h (q + 5) b ((((A 7 * 5) + nI p) * 19 + A 9) + 9)) q 5 (nI (b + 1))) q B := fun B e => by
      refine ⟨?_, ?_, ?_, ?_, ?_, fun i hi => ?_, fun i hi => ?_, fun i hi => ?_⟩
      · rw [gF_sF, if_neg (by omega), gF_sA, e _ (by omega) (by omega)]; exact r0
      · rw [gF_sF, if_neg (by omega), gF_sA, e _ (by omega) (by omega)]; exact r1
      · rw [gF_sF, if_neg (by omega), gF_sA, e _ (by omega) (by omega)]; exact r2
      · rw [gF_sF, if_neg (by omega), gF_sA, e _ (by omega) (by omega)]; exact r3
      · rw [gF_sF, if_neg (by omega), gF_sA, e _ (by omega) (by omega)]; exact r4
      · rw [gA_sF, gA_sA, if_neg (by omega), e _ (by omega) (by omega)]; exact r5 i hi
      · rw [gA_sF, gA_sA, if_neg (by omega), e _ (by omega) (by omega)]; exact r6 i hi
      · rw [gA_sF, gA_sA, if_neg (by omega), e _ (by omega) (by omega)]; exact r7 i hi
    cases wr with
    | false => exact ⟨rd A (fun i _ _ => rfl), b + 1, by omega, by rw [gF_sF, if_pos ⟨rfl, rfl⟩], fun hw => by cases hw⟩
    | true =>
      obtain ⟨g1, g2, g3⟩ := g rfl
      show XQ true _ q (wr1 A b p)
      refine ⟨rd _ (fun i h1 h2 => by unfold wr1; rw [pk_un h2, pk_un (by omega)]), b + 1, by omega, by rw [gF_sF, if_pos ⟨rfl, rfl⟩], fun _ => ⟨by unfold wr1; rw [pk_us], fun i hi => ?_, fun i hi => ?_⟩⟩
      · unfold wr1
        rw [gA_sF, gA_sA, if_neg (by omega), pk_un (by omega), pk_un (by omega)]
        exact g2 i hi
      · unfold wr1
        rw [gA_sF, gA_sA, pk_un (by omega), upd_at]
        exact if2 (by omega) (fun _ => g3 i hi)
theorem x_write {wr : Bool} {h : DT} {q b p : Nat} {A : Nat → Int32} (hq : isRw q) (H : XQ wr h q A) (hwb : wr = true → A 11 = nI b) (hb0 : b ≤ 30) : ∃ h1, cal X (d + 1) 68 [vP (some q), vI (nI p)] (SK tx tu gu tl, h) = some (none, (SK tx tu gu tl, h1)) ∧ smX (fun c => c = q ∨ c = q + 5) h h1 ∧ XQ wr h1 q (bif wr then wrF A b p else A) := by
  obtain ⟨r, b', hb, e5, g⟩ := H
  have hbb : wr = true → b < 2147483648 → b' = b := fun hw h2 => by
    have h3 := (g hw).1.symm.trans (hwb hw)
    have h4 : nI b' = nI b := h3
    rw [eqI (by omega) h2] at h4
    exact h4
  have hbb2 : wr = true → nI b' = nI b := fun hw => (g hw).1.symm.trans (hwb hw)
  rw [c_X5_write, e_X5_write_0 (hp := hq), e5]
  by_cases h30 : b' = 30
  · subst h30
    rw [if_pos (by decide), show nI 30 - 1 = nI 29 from nI_pred 29]
    have s1 : smX (fun c => c = q ∨ c = q + 5) h (sF (yA h (q + 5) (q + 5) 1 0 29) q 5 (nI 29)) := (smX_yA (Or.inr rfl)).tr (smX_sF (Or.inl rfl))
    have r' : ∀ B : Nat → Int32, (∀ i, i < 32 → i ≠ 11 → B i = A i) → XR0 (sF (yA h (q + 5) (q + 5) 1 0 29) q 5 (nI 29)) q B := fun B e => by
      obtain ⟨r0, r1, r2, r3, r4, r5, r6, r7⟩ := id r
      refine ⟨?_, ?_, ?_, ?_, ?_, fun i hi => ?_, fun i hi => ?_, fun i hi => ?_⟩
      · rw [gF_sF, if_neg (by omega), gF_yA, e _ (by omega) (by omega)]; exact r0
      · rw [gF_sF, if_neg (by omega), gF_yA, e _ (by omega) (by omega)]; exact r1
      · rw [gF_sF, if_neg (by omega), gF_yA, e _ (by omega) (by omega)]; exact r2
      · rw [gF_sF, if_neg (by omega), gF_yA, e _ (by omega) (by omega)]; exact r3
      · rw [gF_sF, if_neg (by omega), gF_yA, e _ (by omega) (by omega)]; exact r4
      · rw [gA_sF, gA_yA, if_neg (by omega), e _ (by omega) (by omega)]; exact r5 i hi
      · rw [gA_sF, gA_yA, if_neg (by omega), e _ (by omega) (by omega)]; exact r6 i hi
      · rw [gA_sF, gA_yA, if_neg (by omega), e _ (by omega) (by omega)]; exact r7 i hi
    obtain ⟨h1, k1, k2, k3⟩ := x_wr34 X d tx tu gu tl (wr := wr) (b := 29) (p := p) (f := 999998) (A := bif wr then upd (cpA A A 1457 1456 29) 11 (nI 29) else A) hq (r' _ (fun i h1 h2 => by
      cases wr with
      | false => rfl
      | true => exact (pk_un h2).trans (by rw [cpA_at, if_neg (by omega)]))) (by omega) (by rw [gF_sF, if_pos ⟨rfl, rfl⟩]) (fun hw => by
      subst hw
      obtain ⟨g1, g2, g3⟩ := g rfl
      refine ⟨pk_us, fun i hi => ?_, fun i hi => ?_⟩
      · show _ = upd (cpA A A 1457 1456 29) 11 (nI 29) (27 + i)
        rw [gA_sF, gA_yA, if_neg (by omega), pk_un (by omega), cpA_at, if_neg (by omega)]
        exact g2 i hi
      · show _ = upd (cpA A A 1457 1456 29) 11 (nI 29) (1456 + i)
        rw [gA_sF, gA_yA, if_pos rfl, pk_un (by omega), cpA_at]
        by_cases hi2 : i < 29
        · rw [if_pos (by omega), if_pos (by omega), g3 _ (by omega), show 1456 + (1 + (i - 0)) = 1457 + (1456 + i - 1456) by omega]
        · rw [if_neg (by omega), if_neg (by omega)]
          exact g3 i hi)
    refine ⟨h1, k1, s1.tr k2, ?_⟩
    cases wr with
    | false => exact k3
    | true =>
      have hb30 : b = 30 := by
        have h4 := hbb2 rfl
        by_cases hbig : b < 2147483648
        · exact (hbb rfl hbig).symm
        · omega
      show XQ true h1 q (wrF A b p)
      unfold wrF
      rw [if_pos hb30]
      exact k3
  · rw [if_neg (by rw [litI 30, eqI (by omega) (by omega)]; exact h30)]
    obtain ⟨h1, k1, k2, k3⟩ := x_wr34 X d tx tu gu tl (wr := wr) (b := b') (p := p) (f := 999998) hq r (by omega) e5 g
    refine ⟨h1, k1, k2, ?_⟩
    cases wr with
    | false => exact k3
    | true =>
      have hb30 : b' = b := by
        by_cases hbig : b < 2147483648
        · exact hbb rfl hbig
        · omega
      subst hb30
      show XQ true h1 q (wrF A b' p)
      unfold wrF
      rw [if_neg h30]
      exact k3
end PA
