/-! TEXTS as both hold them; what leans and hears come to -/
abbrev TXT : Type := List (Nat × Nat × Nat) × Option Cd × Option Cd
def txc (j : Nat) : Nat := 52 + 5 * j
theorem txc_tx {j : Nat} (h : j < 4) : isTx (txc j) := by unfold isTx txc; omega
def dOf (e : Cd) (E : EV) : Int := match rRun E e ([], []) with
  | some (x :: _, _) => x
  | _ => 0
theorem dOf_VC {e : Cd} {D : EV → Int} (h : VC e D) (E : EV) : dOf e E = D E := by
  unfold dOf
  rw [h.1]
def NOk (lw : Nat) (e : Cd) : Prop := ∀ q ∈ e, okQ q ∧ (q.1 = 1 → gOf lw q.2 = true)
theorem rOp_cg {E E' : EV} {q : Nat × Nat} (h1 : q.1 = 1 → E.1 q.2 = E'.1 q.2) (h2 : E.2 = E'.2) (s : RS) : rOp E q s = rOp E' q s := by
  unfold rOp
  rw [h2]
  by_cases q1 : q.1 = 1
  · rw [h1 q1]
  · simp only [if_neg q1]
theorem rRun_cg {E E' : EV} {lw : Nat} (h1 : ∀ k, gOf lw k = true → k < 9 → E.1 k = E'.1 k) (h2 : E.2 = E'.2) : ∀ (e : Cd) (s : RS), NOk lw e → rRun E e s = rRun E' e s
  | [], s, _ => rfl
  | q :: e, s, H => by
    show (rOp E q s).bind (rRun E e) = (rOp E' q s).bind (rRun E' e)
    have hq := H q List.mem_cons_self
    rw [rOp_cg (fun g => h1 _ (hq.2 g) (hq.1.2.2 g)) h2 s]
    cases rOp E' q s with
    | none => rfl
    | some s' => exact rRun_cg h1 h2 e s' (fun p hp => H p (List.mem_cons_of_mem _ hp))
theorem D_cg {E E' : EV} {lw : Nat} {e : Cd} {D : EV → Int} (hv : VC e D) (h1 : ∀ k, gOf lw k = true → k < 9 → E.1 k = E'.1 k) (h2 : E.2 = E'.2) (H : NOk lw e) : D E = D E' := by
  have := rRun_cg h1 h2 e ([], []) H
  rw [hv.1, hv.1] at this
  injection this with this
  injection this with this
  injection this
def srt (cl : List (Nat × Nat × Nat)) (i : Nat) : Nat := (cl.getD i (9, 0, 0)).1
def LawR (h : DT) (j lw : Nat) (cl : List (Nat × Nat × Nat)) (o : Option Cd) : Prop := match o with
  | none => (∀ i, i < cl.length → srt cl i ≠ lw) ∧ gF h (txc j) (2 + lw) = -1
  | some e => NOk lw e ∧ (∃ k w0 w1, k < cl.length ∧ srt cl k = lw ∧ (∀ i, i < k → srt cl i ≠ lw) ∧ gA h 75 (681 * j + 1 + 3 * k + 1) = nI w0 ∧ gA h 75 (681 * j + 1 + 3 * k + 2) = nI w1 ∧ w1 ≤ 304 ∧ w0 + e.length = w1 ∧ cdA h (681 * j + 73) w0 e) ∧
    ∃ a b w C, gF h (txc j) (2 + lw) = nI a ∧ Cod h (txc j) C ∧ VS C a b w e ∧ w ≤ 64 ∧ b < 300 ∧ C b = 0
def ClR (h : DT) (j i : Nat) (q : Nat × Nat × Nat) : Prop := q.1 ≤ 8 ∧ gA h 75 (681 * j + 1 + 3 * i) = nI q.1 ∧ gA h (txc j + 1) i = nI (q.1 + 1) ∧
  (2 ≤ q.1 → gA h 75 (681 * j + 1 + 3 * i + 1) = nI q.2.1 ∧ gA h (txc j + 2) i = nI q.2.1 ∧ q.2.1 ≤ 60) ∧
  (2 ≤ q.1 → q.1 ≤ 4 → gA h 75 (681 * j + 1 + 3 * i + 2) = nI q.2.2 ∧ gA h (txc j + 3) i = nI q.2.2 ∧ q.2.2 ≤ 9)
def TxR (h : DT) (j : Nat) (T : TXT) : Prop := T.1.length ≤ 24 ∧ gA h 75 (681 * j) = nI T.1.length ∧ gF h (txc j) 0 = nI T.1.length ∧ (∀ i, i < T.1.length → ClR h j i (T.1.getD i (9, 0, 0))) ∧ LawR h j 0 T.1 T.2.1 ∧ LawR h j 1 T.1 T.2.2
/-- cells of a text and the reference's texts are the same -/
def smT (h h' : DT) : Prop := gA h' 75 = gA h 75 ∧ ∀ c, 52 ≤ c → c ≤ 71 → gF h' c = gF h c ∧ gA h' c = gA h c
theorem smT.rf (h : DT) : smT h h := ⟨rfl, fun _ _ _ => ⟨rfl, rfl⟩⟩
theorem smT.tr {a b c : DT} (p : smT a b) (q : smT b c) : smT a c := ⟨q.1.trans p.1, fun x h1 h2 => ⟨(q.2 x h1 h2).1.trans (p.2 x h1 h2).1, (q.2 x h1 h2).2.trans (p.2 x h1 h2).2⟩⟩
theorem smT_of {S : Nat → Prop} {h h' : DT} (H : smX S h h') (h1 : ¬ S 75) (h2 : ∀ c, 52 ≤ c → c ≤ 71 → ¬ S c) : smT h h' := ⟨smA H h1, fun c a b => ⟨smF H (h2 c a b), smA H (h2 c a b)⟩⟩
theorem LawR.cg {h h' : DT} {j lw : Nat} {cl : List (Nat × Nat × Nat)} {o : Option Cd} (H : LawR h j lw cl o) (hj : j < 4) (s : smT h h') : LawR h' j lw cl o := by
  have f := (s.2 (txc j) (by unfold txc; omega) (by unfold txc; omega)).1
  have g := (s.2 (txc j + 4) (by unfold txc; omega) (by unfold txc; omega)).2
  cases o with
  | none => exact ⟨H.1, by rw [f]; exact H.2⟩
  | some e =>
    obtain ⟨h0, ⟨k, w0, w1, k1, k2, k3, k4, k5, k6, k7, k8⟩, a, b, w, C, c1, ⟨sz, z1, z2, z3, z4⟩, c3, c4⟩ := H
    exact ⟨h0, ⟨k, w0, w1, k1, k2, k3, by rw [s.1]; exact k4, by rw [s.1]; exact k5, k6, k7, cdA_cg s.1 _ e w0 k8⟩, a, b, w, C, by rw [f]; exact c1, ⟨sz, z1, by rw [f]; exact z2, fun i hi => by rw [g]; exact z3 i hi, z4⟩, c3, c4⟩
theorem TxR.cg {h h' : DT} {j : Nat} {T : TXT} (H : TxR h j T) (hj : j < 4) (s : smT h h') : TxR h' j T := by
  obtain ⟨h1, h2, h3, h4, h5, h6⟩ := H
  refine ⟨h1, by rw [s.1]; exact h2, by rw [(s.2 (txc j) (by unfold txc; omega) (by unfold txc; omega)).1]; exact h3, fun i hi => ?_, h5.cg hj s, h6.cg hj s⟩
  have := h4 i hi
  unfold ClR at this ⊢
  rw [s.1, (s.2 (txc j + 1) (by unfold txc; omega) (by unfold txc; omega)).2, (s.2 (txc j + 2) (by unfold txc; omega) (by unfold txc; omega)).2, (s.2 (txc j + 3) (by unfold txc; omega) (by unfold txc; omega)).2]
  exact this
/-- the seat of a person -/
def stF (A : Nat → Int32) (p : Nat) : Nat → Nat → Nat
  | 0, s => s
  | f + 1, s => if A (17 + s) = nI p then s else stF A p f (s + 1)
theorem stF_sp {A : Nat → Int32} {p s : Nat} (hs : A (17 + s) = nI p) : ∀ (f i : Nat), i ≤ s → s < i + f → (∀ j, j < i → A (17 + j) ≠ nI p) → stF A p f i ≤ s ∧ A (17 + stF A p f i) = nI p ∧ ∀ j, j < stF A p f i → A (17 + j) ≠ nI p
  | 0, i, h1, h2, h3 => by omega
  | f + 1, i, h1, h2, h3 => by
    unfold stF
    by_cases g : A (17 + i) = nI p
    · rw [if_pos g]; exact ⟨h1, g, h3⟩
    · rw [if_neg g]
      have hne : i ≠ s := fun e => g (e ▸ hs)
      exact stF_sp hs f (i + 1) (by omega) (by omega) (fun j hj => by
        by_cases e : j = i
        · rw [e]; exact g
        · exact h3 j (by omega))
def seatF (A : Nat → Int32) (p : Nat) : Nat := stF A p 5 0
/-- the row holds -/
def RV (A : Nat → Int32) (n : Nat) : Prop := PplOk A n ∧ RowOk A 7 n
theorem Inv.rv {A : Nat → Int32} {n t k : Nat} (H : Inv A n t k) : RV A n := ⟨H.1, H.2.2.2.1⟩
theorem RV.seat {A : Nat → Int32} {n p : Nat} (H : RV A n) (hp : p < n) : seatF A p < n ∧ A (17 + seatF A p) = nI p ∧ ∀ j, j < seatF A p → A (17 + j) ≠ nI p := by
  obtain ⟨s, hs, e⟩ := H.2.2.2.2.2.2.2.2.2.2 p hp
  have hn := H.1.2.1
  have := stF_sp (A := A) (p := p) (s := s) e 5 0 (by omega) (by omega) (fun j hj => by omega)
  exact ⟨by unfold seatF; omega, this.2.1, this.2.2⟩
theorem RV.at {A : Nat → Int32} {n s : Nat} (H : RV A n) (hs : s < n) : ∃ p, p < n ∧ A (17 + s) = nI p := H.2.2.2.2.2.2.2.2.2.1 s hs
theorem RV.s9 {A : Nat → Int32} {n i : Nat} (H : RV A n) (hi : i < 5) : stp9 (A (12 + i)) := H.2.2.2.2.2.2.2.1 i hi
def slI (A : Nat → Int32) (n : Nat) (x : Int) : Int := if 0 ≤ x ∧ x < n then (A (12 + (A (17 + x.toNat)).toNatClampNeg)).toInt else 0
theorem s9t {x : Int32} (h : stp9 x) : -9 ≤ x.toInt ∧ x.toInt ≤ 9 := by
  obtain ⟨z, h1, h2, rfl⟩ := s9z h
  rw [zI_toInt (by omega) (by omega)]
  omega
theorem slI_b {A : Nat → Int32} {n : Nat} (H : RV A n) (x : Int) : -9 ≤ slI A n x ∧ slI A n x ≤ 9 := by
  unfold slI
  by_cases h : 0 ≤ x ∧ x < n
  · rw [if_pos h]
    obtain ⟨p, hp, e⟩ := H.at (s := x.toNat) (by omega)
    have hn := H.1.2.1
    rw [e, clI (by omega)]
    exact s9t (H.s9 (by omega))
  · rw [if_neg h]; omega
def E5 (A : Nat → Int32) (p k : Nat) : Int := if k = 0 then (A 7).toInt else if k = 1 then (A 9).toInt else if k = 2 then (A (22 + p)).toInt else if k = 3 then (p : Int) else (A (12 + p)).toInt
def EL (A : Nat → Int32) (n p : Nat) : EV := (fun k => if k < 5 then E5 A p k else if k = 5 then slI A n ((seatF A p : Int) - 1) else if k = 6 then slI A n ((seatF A p : Int) + 1) else 0, slI A n)
def EH (A : Nat → Int32) (n p q : Nat) (w : Int) : EV := (fun k => if k < 5 then E5 A p k else if k = 7 then w else if k = 8 then (A (12 + q)).toInt else 0, slI A n)
theorem E5_b {A : Nat → Int32} {n p k : Nat} (H : RV A n) (hp : p < n) : -1000000 ≤ E5 A p k ∧ E5 A p k ≤ 1000000 := by
  have hn := H.1.2.1
  unfold E5
  by_cases h0 : k = 0
  · rw [if_pos h0]
    obtain ⟨y, hy, e⟩ := H.2.2.1
    rw [e, nIt (by omega)]
    omega
  rw [if_neg h0]
  by_cases h1 : k = 1
  · rw [if_pos h1]
    have := s9t (show stp9 (A 9) from H.2.2.2.2.1)
    omega
  rw [if_neg h1]
  by_cases h2 : k = 2
  · rw [if_pos h2]
    obtain ⟨v, v1, v2, e⟩ := H.1.2.2.1 p hp
    rw [e, nIt (by omega)]
    omega
  rw [if_neg h2]
  by_cases h3 : k = 3
  · rw [if_pos h3]; omega
  · rw [if_neg h3]
    have := s9t (H.s9 (i := p) (by omega))
    omega
/-- how a person leans: the law's value, or a step to the wind -/
def lnV (o : Option Cd) (A : Nat → Int32) (n p : Nat) : Int := match o with
  | none => stI (A (12 + p)).toInt (A 9).toInt
  | some e => clm (dOf e (EL A n p)) 9
def hrV (o : Option Cd) (A : Nat → Int32) (n p q : Nat) (w : Int) : Int := match o with
  | none => w + (A (12 + q)).toInt - (A (12 + p)).toInt
  | some e => clm (dOf e (EH A n p q w)) 999
theorem clm_b (z : Int) {m : Int} (hm : 0 ≤ m) : -m ≤ clm z m ∧ clm z m ≤ m := by
  unfold clm
  by_cases h1 : z ≤ m
  · rw [if_pos h1]
    by_cases h2 : -m ≤ z
    · rw [if_pos h2]; omega
    · rw [if_neg h2]; omega
  · rw [if_neg h1]; omega
theorem clm_id {z m : Int} (h1 : -m ≤ z) (h2 : z ≤ m) : clm z m = z := by
  unfold clm
  rw [if_pos h2, if_pos h1]
theorem stI_9 {x y : Int} (hx : -9 ≤ x ∧ x ≤ 9) (hy : -9 ≤ y ∧ y ≤ 9) : -9 ≤ stI x y ∧ stI x y ≤ 9 := by
  unfold stI
  by_cases h1 : x < y
  · rw [if_pos h1]; omega
  · rw [if_neg h1]
    by_cases h2 : y < x
    · rw [if_pos h2]; omega
    · rw [if_neg h2]; omega
theorem lnV_b {o : Option Cd} {A : Nat → Int32} {n p : Nat} (H : RV A n) (hp : p < n) : -9 ≤ lnV o A n p ∧ lnV o A n p ≤ 9 := by
  have hn := H.1.2.1
  cases o with
  | none => exact stI_9 (s9t (H.s9 (by omega))) (s9t (show stp9 (A 9) from H.2.2.2.2.1))
  | some e => exact clm_b _ (by omega)
/-- the class's row but for its book -/
def XR0 (h : DT) (q : Nat) (A : Nat → Int32) : Prop := gF h q 0 = A 0 ∧ gF h q 1 = A 10 ∧ gF h q 2 = A 9 ∧ gF h q 3 = A 7 ∧ gF h q 4 = A 8 ∧ (∀ i, i < 5 → gA h (q + 1) i = A (12 + i)) ∧ (∀ i, i < 5 → gA h (q + 2) i = A (22 + i)) ∧ (∀ i, i < 5 → gA h (q + 4) i = A (17 + i))
theorem XRow.r0 {h : DT} {q : Nat} {A : Nat → Int32} (H : XRow h q A) : XR0 h q A := ⟨H.1, H.2.1, H.2.2.1, H.2.2.2.1, H.2.2.2.2.1, H.2.2.2.2.2.2.1, H.2.2.2.2.2.2.2.1, H.2.2.2.2.2.2.2.2.2.1⟩
theorem XR0.cg {h h' : DT} {q : Nat} {A : Nat → Int32} (H : XR0 h q A) (e : ∀ c, q ≤ c → c ≤ q + 4 → gF h' c = gF h c ∧ gA h' c = gA h c) : XR0 h' q A := by
  unfold XR0
  rw [(e q (by omega) (by omega)).1, (e (q + 1) (by omega) (by omega)).2, (e (q + 2) (by omega) (by omega)).2, (e (q + 4) (by omega) (by omega)).2]
  exact H
def isRw (q : Nat) : Prop := q = 1 ∨ q = 31
section LE
variable (X : XS) (d : Nat) (tx tu gu : Option Nat) (tl : List SC)
theorem x_slI {h : DT} {q n : Nat} {A : Nat → Int32} (hq : isRw q) (H : RV A n) (HX : XR0 h q A) {x : Int} (hx : -2000000 ≤ x ∧ x ≤ 2000000) : cal X (d + 1) 58 [vP (some q), vI (zI x)] (SK tx tu gu tl, h) = some (some (vI (zI (slI A n x))), (SK tx tu gu tl, h)) := by
  have hn := H.1.2.1
  have x0 : gF h q 0 = nI n := HX.1.trans H.1.1
  unfold slI
  by_cases g : 0 ≤ x ∧ x < n
  · obtain ⟨p, hp, e⟩ := H.at (s := x.toNat) (by omega)
    have xz : zI x = nI x.toNat := by rw [zI_nI]; congr 1; omega
    rw [if_pos g, e, clI (by omega), zI_to, xz, x_slantIn_t X d tx tu gu tl h hq x0 hn (by omega) ((HX.2.2.2.2.2.2.2 _ (by omega)).trans e) (by omega), HX.2.2.2.2.2.1 p (by omega)]
  · rw [if_neg g, x_slantIn_f X d tx tu gu tl h hq x0]
    · rfl
    · by_cases g1 : x < 0
      · left
        exact zlt (by omega) (by omega) g1
      · right
        rw [zI_nI]
        exact zle (by omega) (by omega) (by omega)
theorem x_setNames {h : DT} {q n p : Nat} {A : Nat → Int32} (hq : isRw q) (H : RV A n) (HX : XR0 h q A) (hp : p < n) : ∃ h1, cal X (d + 1) 9 [vP (some 40), vP (some q), vI (nI p)] (SK tx tu gu tl, h) = some (none, (SK tx tu gu tl, h1)) ∧ smX (fun c => c = 41) h h1 ∧ ∀ k, gA h1 41 k = if k < 5 then zI (E5 A p k) else gA h 41 k := by
  have hn := H.1.2.1
  refine ⟨sA (sA (sA (sA (sA h 41 0 (gF h q 3)) 41 1 (gF h q 2)) 41 2 (gA h (q + 2) p)) 41 3 (nI p)) 41 4 (gA h (q + 1) p), ?_, ((((smX_sA (S := fun c => c = 41) rfl).tr (smX_sA rfl)).tr (smX_sA rfl)).tr (smX_sA rfl)).tr (smX_sA rfl), fun k => ?_⟩
  · rw [c_X1_setNames, e_X1_setNames_0 (hp := hq), inbI (by omega) (by omega), inbI (by omega) (by omega)]
  · have f3 := HX.2.2.2.1
    have f2 := HX.2.2.1
    have w := HX.2.2.2.2.2.2.1 p (by omega)
    have s := HX.2.2.2.2.2.1 p (by omega)
    rw [f3, f2, w, s]
    unfold E5
    by_cases k4 : k = 4
    · subst k4; rw [gA_sA, if_pos ⟨rfl, rfl⟩]; exact (zI_to _).symm
    rw [gA_sA, if_neg (fun g => k4 g.2)]
    by_cases k3 : k = 3
    · subst k3; rw [gA_sA, if_pos ⟨rfl, rfl⟩]; exact zI_nI p
    rw [gA_sA, if_neg (fun g => k3 g.2)]
    by_cases k2 : k = 2
    · subst k2; rw [gA_sA, if_pos ⟨rfl, rfl⟩]; exact (zI_to _).symm
    rw [gA_sA, if_neg (fun g => k2 g.2)]
    by_cases k1 : k = 1
    · subst k1; rw [gA_sA, if_pos ⟨rfl, rfl⟩]; exact (zI_to _).symm
    rw [gA_sA, if_neg (fun g => k1 g.2)]
    by_cases k0 : k = 0
    · subst k0; rw [gA_sA, if_pos ⟨rfl, rfl⟩]; exact (zI_to _).symm
    rw [gA_sA, if_neg (fun g => k0 g.2), if_neg (by omega)]
theorem x_leaning {h : DT} {q n p j : Nat} {A : Nat → Int32} {cl : List (Nat × Nat × Nat)} {o : Option Cd} (hq : isRw q) (H : RV A n) (HX : XR0 h q A) (hp : p < n) (hj : j < 4) (HL : LawR h j 0 cl o) (hN : NmA h 41) : ∃ h1, cal X (d + 4) 7 [vP (some 40), vP (some q), vI (nI p), vP (some (txc j))] (SK tx tu gu tl, h) = some (some (vI (zI (lnV o A n p))), (SK tx tu gu tl, h1)) ∧ smX (fun c => c = 40 ∨ c = 41 ∨ c = 42) h h1 ∧ NmA h1 41 := by
  have hn := H.1.2.1
  have ht := txc_tx hj
  have s9p := s9t (H.s9 (i := p) (by omega))
  have s9w := s9t (show stp9 (A 9) from H.2.2.2.2.1)
  cases o with
  | none =>
    refine ⟨h, ?_, smX.rf _ h, hN⟩
    have l0 : gF h (txc j) 2 = -1 := HL.2
    rw [c_X1_leaning, e_X1_leaning_0 (hp := hq) (ht := ht), l0, if_pos rfl, inbI (by omega) (by omega), HX.2.2.2.2.2.1 p (by omega), HX.2.2.1, ← zI_to (A (12 + p)), ← zI_to (A 9), x_stepTo X (d + 2) tx tu gu tl h (by omega) (by omega), bI_s]
    rfl
  | some e =>
    obtain ⟨hno, -, a, b, w, C, la, hC, ⟨D, hv, hS⟩, hw, hb, h0⟩ := HL
    obtain ⟨hs1, hs2, hs3⟩ := H.seat hp
    have x0 : gF h q 0 = nI n := HX.1.trans H.1.1
    have xs : ∀ i, i < 5 → gA h (q + 4) i = A (17 + i) := HX.2.2.2.2.2.2.2
    have la' : gF h (txc j) 2 = nI a := la
    have lz : ¬ nI a = -1 := by
      intro g
      have := congrArg Int32.toInt g
      rw [nIt (by have := hS.1; omega), im1t] at this
      omega
    obtain ⟨h1, g1, g2, g3⟩ := x_setNames X (d + 2) tx tu gu tl hq H HX hp
    have HX1 : XR0 h1 q A := HX.cg fun c _ _ => ⟨smF g2 (by unfold isRw at hq; omega), smA g2 (by unfold isRw at hq; omega)⟩
    have b5 := slI_b H ((seatF A p : Int) - 1)
    have b6' := slI_b H ((seatF A p : Int) + 1)
    have q1 := x_slI X (d + 2) tx tu gu tl hq H HX1 (x := (seatF A p : Int) - 1) (by omega)
    have s2 : smX (fun c => c = 41) h1 (sA h1 41 5 (zI (slI A n ((seatF A p : Int) - 1)))) := smX_sA rfl
    have HX2 : XR0 (sA h1 41 5 (zI (slI A n ((seatF A p : Int) - 1)))) q A := HX1.cg fun c _ _ => ⟨smF s2 (by unfold isRw at hq; omega), smA s2 (by unfold isRw at hq; omega)⟩
    have q2 := x_slI X (d + 2) tx tu gu tl hq H HX2 (x := (seatF A p : Int) + 1) (by omega)
    generalize hH : sA (sA h1 41 5 (zI (slI A n ((seatF A p : Int) - 1)))) 41 6 (zI (slI A n ((seatF A p : Int) + 1))) = h3 at *
    have s3 : smX (fun c => c = 41) h h3 := by
      rw [← hH]
      exact (g2.tr s2).tr (smX_sA rfl)
    have HX3 : XR0 h3 q A := HX.cg fun c _ _ => ⟨smF s3 (by unfold isRw at hq; omega), smA s3 (by unfold isRw at hq; omega)⟩
    have nm : ∀ k, gA h3 41 k = if k < 5 then zI (E5 A p k) else if k = 5 then zI (slI A n ((seatF A p : Int) - 1)) else if k = 6 then zI (slI A n ((seatF A p : Int) + 1)) else gA h 41 k := fun k => by
      rw [← hH]
      by_cases k6 : k = 6
      · subst k6; rw [gA_sA, if_pos ⟨rfl, rfl⟩]; rfl
      rw [gA_sA, if_neg (fun g => k6 g.2)]
      by_cases k5 : k = 5
      · subst k5; rw [gA_sA, if_pos ⟨rfl, rfl⟩]; rfl
      rw [gA_sA, if_neg (fun g => k5 g.2), g3]
      by_cases k4 : k < 5
      · rw [if_pos k4, if_pos k4]
      · rw [if_neg k4, if_neg k4, if_neg k5, if_neg k6]
    have nb : NmA h3 41 := fun k hk => by
      rw [nm k]
      by_cases k4 : k < 5
      · rw [if_pos k4]
        have := E5_b (k := k) H hp
        exact ⟨_, this.1, this.2, rfl⟩
      rw [if_neg k4]
      by_cases k5 : k = 5
      · rw [if_pos k5]; exact ⟨_, by omega, by omega, rfl⟩
      rw [if_neg k5]
      by_cases k6 : k = 6
      · rw [if_pos k6]; exact ⟨_, by omega, by omega, rfl⟩
      rw [if_neg k6]
      exact hN k hk
    have hE : ∃ E : EV, (∀ k, k < 9 → gA h3 41 k = zI (E.1 k)) ∧ EB E ∧ E.2 = slI A n ∧ ∀ k, k < 7 → E.1 k = (EL A n p).1 k := by
      obtain ⟨z7, a7, b7, e7⟩ := nb 7 (by omega)
      obtain ⟨z8, a8, b8, e8⟩ := nb 8 (by omega)
      refine ⟨(fun k => if k < 7 then (EL A n p).1 k else if k = 7 then z7 else z8, slI A n), fun k hk => ?_, ⟨fun k hk => ?_, fun x => ?_⟩, rfl, fun k hk => if_pos hk⟩
      · show gA h3 41 k = zI (if k < 7 then (EL A n p).1 k else if k = 7 then z7 else z8)
        by_cases k7 : k < 7
        · rw [if_pos k7, nm k]
          unfold EL
          by_cases k4 : k < 5
          · rw [if_pos k4]; show _ = zI (if k < 5 then E5 A p k else _); rw [if_pos k4]
          · rw [if_neg k4]
            show _ = zI (if k < 5 then E5 A p k else _)
            rw [if_neg k4]
            by_cases k5 : k = 5
            · rw [if_pos k5, if_pos k5]
            · rw [if_neg k5, if_neg k5, if_pos (show k = 6 by omega), if_pos (show k = 6 by omega)]
        · rw [if_neg k7]
          by_cases k8 : k = 7
          · subst k8; rw [if_pos rfl]; exact e7
          · obtain rfl : k = 8 := by omega
            rw [if_neg (by omega)]; exact e8
      · show b6 (if k < 7 then (EL A n p).1 k else if k = 7 then z7 else z8)
        by_cases k7 : k < 7
        · rw [if_pos k7]
          unfold EL
          show b6 (if k < 5 then E5 A p k else if k = 5 then slI A n ((seatF A p : Int) - 1) else if k = 6 then slI A n ((seatF A p : Int) + 1) else 0)
          by_cases k4 : k < 5
          · rw [if_pos k4]; exact E5_b H hp
          · rw [if_neg k4]
            by_cases k5 : k = 5
            · rw [if_pos k5]; unfold b6; omega
            · rw [if_neg k5, if_pos (show k = 6 by omega)]; unfold b6; omega
        · rw [if_neg k7]
          by_cases k8 : k = 7
          · rw [if_pos k8]; exact ⟨a7, b7⟩
          · rw [if_neg k8]; exact ⟨a8, b8⟩
      · have := slI_b H x
        show b6 (slI A n x)
        unfold b6; omega
    obtain ⟨E, en, eb, e2, e7⟩ := hE
    have HEx : EnvX X tx tu gu tl h3 q E := ⟨en, eb, fun d' h' x hs hx => by
      rw [e2]
      exact x_slI X d' tx tu gu tl hq H (HX3.cg fun c _ _ => ⟨smF hs (by unfold isRw at hq; omega), smA hs (by unfold isRw at hq; omega)⟩) hx⟩
    have hC3 : Cod h3 (txc j) C := by
      obtain ⟨sz, z1, z2, z3, z4⟩ := hC
      exact ⟨sz, z1, by rw [smF s3 (by unfold txc; omega)]; exact z2, fun i hi => by rw [smA s3 (by unfold txc; omega)]; exact z3 i hi, z4⟩
    obtain ⟨h4, r1, r2⟩ := x_reckon X d tx tu gu tl (a := a) hq ht h3 HEx hC3 hS hw hb h0
    have hD : D E = dOf e (EL A n p) := by
      rw [dOf_VC hv]
      refine D_cg (lw := 0) hv (fun k hk hk9 => ?_) e2 hno
      refine e7 k ?_
      unfold gOf at hk
      rcases Nat.lt_or_ge k 7 with g | g
      · exact g
      · have h5 : Nat.blt k 5 = false := by
          cases hq5 : Nat.blt k 5 with
          | false => rfl
          | true => have := Nat.le_of_ble_eq_true hq5; omega
        have h7 : Nat.blt k 7 = false := by
          cases hq5 : Nat.blt k 7 with
          | false => rfl
          | true => have := Nat.le_of_ble_eq_true hq5; omega
        rw [h5, h7] at hk
        cases hk
    have hDb := hv.2 E eb
    unfold b6 at hDb
    refine ⟨h4, ?_, (s3.mo fun c hc => Or.inr (Or.inl hc)).tr (r2.mo fun c hc => by omega), fun k hk => by rw [smA r2 (by omega)]; exact nb k hk⟩
    rw [c_X1_leaning, e_X1_leaning_0 (hp := hq) (ht := ht), la', if_neg lz, x_seatOf X (d + 2) tx tu gu tl h hq x0 hn ((xs _ (by omega)).trans hs2) hs1 (fun i hi => by rw [xs i (by omega)]; exact hs3 i hi), bI_s, e_X1_leaning_31 (hp := hq) (ht := ht), g1, bV_s, e_X1_leaning_39 (hp := hq) (ht := ht), show nI (seatF A p) - 1 = zI ((seatF A p : Int) - 1) by rw [zI_nI, show (1 : Int32) = zI 1 from rfl, zI_sub], q1, bI_s, e_X1_leaning_52 (hp := hq) (ht := ht), show (5 : Int32) = nI 5 from rfl, inbI (by omega) (by omega), show nI (seatF A p) + 1 = zI ((seatF A p : Int) + 1) by rw [zI_nI, show (1 : Int32) = zI 1 from rfl, zI_add], q2, bI_s, e_X1_leaning_67 (hp := hq) (ht := ht), show (6 : Int32) = nI 6 from rfl, inbI (by omega) (by omega), hH, smF s2 (show ¬ txc j = 41 by unfold txc; omega), smF g2 (show ¬ txc j = 41 by unfold txc; omega), la', r1, bI_s, show (9 : Int32) = zI 9 from rfl, x_clamp X (d + 2) tx tu gu tl h4 (by omega) (by omega), bI_s, hD]
    rfl
theorem x_leaning_n {h : DT} {q n p : Nat} {A : Nat → Int32} (hq : isRw q) (H : RV A n) (HX : XR0 h q A) (hp : p < n) : cal X (d + 4) 7 [vP (some 40), vP (some q), vI (nI p), vP none] (SK tx tu gu tl, h) = some (some (vI (zI (lnV none A n p))), (SK tx tu gu tl, h)) := by
  have hn := H.1.2.1
  have s9p := s9t (H.s9 (i := p) (by omega))
  have s9w := s9t (show stp9 (A 9) from H.2.2.2.2.1)
  rw [c_X1_leaningn, e_X1_leaningn_0 (hp := hq), inbI (by omega) (by omega), HX.2.2.2.2.2.1 p (by omega), HX.2.2.1, ← zI_to (A (12 + p)), ← zI_to (A 9), x_stepTo X (d + 2) tx tu gu tl h (by omega) (by omega), bI_s]
  rfl
end LE
