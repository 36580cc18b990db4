/-! WHAT MAY HAVE BEEN MEANT: pairs that fit -/
def ftB (F : Nat → Bool) : Nat → Nat → Bool
  | 0, _ => true
  | c + 1, i => F i && ftB F c (i + 1)
def whN (A : Nat → Int32) (i : Nat) : Nat := (A (48 + 2 * i)).toNatClampNeg
def asZ (A : Nat → Int32) (i : Nat) : Int := (A (49 + 2 * i)).toInt
def fiQ (o : Option Cd) (A : Nat → Int32) (n err pair i : Nat) : Bool := decide ((hrV o A n (whN A i) (pair / 100) ((pair % 100 : Nat) : Int) - asZ A i).natAbs ≤ err)
def fit (o : Option Cd) (A : Nat → Int32) (n err q pair : Nat) : Bool := ftB (fiQ o A n err pair) q 0
theorem hrV_b {o : Option Cd} {A : Nat → Int32} {n t k p q w : Nat} (H : Inv A n t k) (hp : p < 5) (hq : q < 5) (hw : w < 100) : -999 ≤ hrV o A n p q (w : Int) ∧ hrV o A n p q (w : Int) ≤ 999 := by
  unfold hrV
  cases o with
  | some e => exact clm_b _ (by omega)
  | none =>
    obtain ⟨_, _, _, ⟨_, _, _, _, _, _, s, _⟩, _⟩ := H
    obtain ⟨z1, a1, a2, a3⟩ := s9z (s q hq)
    obtain ⟨z2, b1, b2, b3⟩ := s9z (s p hp)
    have e1 : (A (12 + q)).toInt = z1 := by
      rw [show 12 + q = 7 + 5 + q by omega, a3, zI_toInt (by omega) (by omega)]
    have e2 : (A (12 + p)).toInt = z2 := by
      rw [show 12 + p = 7 + 5 + p by omega, b3, zI_toInt (by omega) (by omega)]
    show -999 ≤ (w : Int) + (A (12 + q)).toInt - (A (12 + p)).toInt ∧ (w : Int) + (A (12 + q)).toInt - (A (12 + p)).toInt ≤ 999
    rw [e1, e2]
    omega
theorem abs_x {z : Int} {e : Nat} (h1 : -2000 ≤ z) (h2 : z ≤ 2000) (he : e ≤ 9) : ((if (0 : Int32) ≤ zI z then zI z else 0 - zI z) ≤ nI e) = (z.natAbs ≤ e) := by
  have c0 : ((0 : Int32) ≤ zI z) = (0 ≤ z) := zI_le (a := 0) (by omega) (by omega) (by omega) (by omega)
  by_cases g : 0 ≤ z
  · rw [if_pos (c0.mpr g), zI_nI, zI_le (by omega) (by omega) (by omega) (by omega)]
    exact propext (by omega)
  · rw [if_neg (fun y => g (c0.mp y)), show (0 : Int32) = zI 0 from rfl, zI_sub, zI_nI, zI_le (by omega) (by omega) (by omega) (by omega)]
    exact propext (by omega)
theorem abs_k {z : Int} {e : Nat} (h1 : -2000 ≤ z) (h2 : z ≤ 2000) (he : e ≤ 9) : ((if (0 : Int32) ≤ zI z then zI z else -zI z) ≤ nI e) = (z.natAbs ≤ e) := by
  rw [← abs_x h1 h2 he, zI_neg, show (0 : Int32) = zI 0 from rfl, zI_sub, Int.zero_sub]
/-- what the class needs of its cells, and the reference of its -/
def CX (A : Nat → Int32) (n t k : Nat) (TT : Nat → TXT) (h : DT) : Prop := Inv A n t k ∧ XRow h 1 A ∧ XTold h 9 A ∧ (∀ j, j < t → TxR h j (TT j)) ∧ NmA h 41
def KX (A : Nat → Int32) (n t k : Nat) (TT : Nat → TXT) (h : DT) : Prop := Inv A n t k ∧ gA h 73 = A ∧ (∀ j, j < t → TxR h j (TT j)) ∧ NmA h 78
def isG (c : Nat) : Prop := c = 40 ∨ c = 41 ∨ c = 42 ∨ 95 ≤ c
def isW3 (c : Nat) : Prop := c = 40 ∨ c = 41 ∨ c = 42
def isGg (g c : Nat) : Prop := c = 40 ∨ c = 41 ∨ c = 42 ∨ (g ≤ c ∧ c ≤ g + 2)
theorem isGg_G {g c : Nat} (hg : 95 ≤ g) (h : isGg g c) : isG c := by unfold isGg at h; unfold isG; omega
theorem isW3_g {g c : Nat} (h : isW3 c) : isGg g c := by unfold isW3 at h; unfold isGg; omega
theorem isW3_G {c : Nat} (h : isW3 c) : isG c := by unfold isW3 at h; unfold isG; omega
def isH (c : Nat) : Prop := c = 78 ∨ c = 79 ∨ c = 80 ∨ c = 91
theorem CX.cg {A : Nat → Int32} {n t k : Nat} {TT : Nat → TXT} {h h' : DT} (H : CX A n t k TT h) (s : smX isG h h') (hN : NmA h' 41) : CX A n t k TT h' := by
  obtain ⟨a1, a2, a3, a4, a5⟩ := H
  have ht := a1.t.2.1
  exact ⟨a1, a2.cg (fun c _ _ => ⟨smF s (by unfold isG; omega), smA s (by unfold isG; omega)⟩), a3.cg (fun c _ _ => ⟨smF s (by unfold isG; omega), smA s (by unfold isG; omega)⟩), fun j hj => (a4 j hj).cg (by omega) ⟨smA s (by unfold isG; omega), fun c _ _ => ⟨smF s (by unfold isG; omega), smA s (by unfold isG; omega)⟩⟩, hN⟩
theorem KX.cg {A : Nat → Int32} {n t k : Nat} {TT : Nat → TXT} {h h' : DT} (H : KX A n t k TT h) (s : smX isH h h') (hN : NmA h' 78) : KX A n t k TT h' := by
  obtain ⟨a1, a2, a4, a5⟩ := H
  have ht := a1.t.2.1
  exact ⟨a1, (smA s (by unfold isH; omega)).trans a2, fun j hj => (a4 j hj).cg (by omega) ⟨smA s (by unfold isH; omega), fun c _ _ => ⟨smF s (by unfold isH; omega), smA s (by unfold isH; omega)⟩⟩, hN⟩
theorem hrd_q {A : Nat → Int32} {n q i : Nat} (H : HrdOk A n q) (hn : n ≤ 5) (hi : i < q) : A (48 + 2 * i) = nI (whN A i) ∧ whN A i < n ∧ A (49 + 2 * i) = zI (asZ A i) ∧ -999 ≤ asZ A i ∧ asZ A i ≤ 999 := by
  obtain ⟨h0, h1, h2⟩ := H
  obtain ⟨⟨p, p1, p2⟩, z, z1, z2, z3⟩ := h2 i hi
  unfold whN asZ
  rw [p2, z3, clI (by omega), zI_toInt (by omega) (by omega)]
  exact ⟨rfl, p1, rfl, z1, z2⟩
section FI
variable (X : XS) (d : Nat) (tx tu gu : Option Nat) (tl : List SC)
theorem x_hof {A : Nat → Int32} {n t k p pair : Nat} {TT : Nat → TXT} (h : DT) (H : CX A n t k TT h) (hn : n ≤ 5) (hp : p < n) (hpr : pair < 100 * n) : ∃ h', cal X (d + 5) 8 [vP (some 40), vP (some 1), vI (nI p), vI (nI pair / 100), vI (nI pair - nI pair / 100 * 100), vP (rulP (A 2))] (SK tx tu gu tl, h) = some (some (vI (zI (hrV (rulH (A 2) TT) A n p (pair / 100) ((pair % 100 : Nat) : Int)))), (SK tx tu gu tl, h')) ∧ smX isW3 h h' ∧ NmA h' 41 := by
  obtain ⟨a1, a2, a3, a4, a5⟩ := H
  obtain ⟨h', e1, e2, e3⟩ := x_hear X (d + 1) tx tu gu tl h a1 a2 a4 a5 hp (q := pair / 100) (by omega) (w := pair % 100) (by omega)
  refine ⟨h', ?_, e2.mo (fun c hc => by unfold isW3; omega), e3⟩
  rw [show (100 : Int32) = nI 100 from rfl, divI (by omega) (by omega) (by omega), mulI, subI (by omega), show pair - pair / 100 * 100 = pair % 100 by omega]
  exact e1
theorem x_fits {A : Nat → Int32} {n t k g q err pair : Nat} {TT : Nat → TXT} (hg : GuA g tl) (htp : TpA (rulP (A 2))) (hQ : HrdOk A n q) (hn : n ≤ 5) (he : err ≤ 9) (hpr : pair < 100 * n) : ∀ (c i : Nat) (h : DT), i + c = q → CX A n t k TT h → ∃ h', (∀ f, 2 * c + 1 ≤ f → m_X0_fits X (d + 5) f 3 [(0, vP (some g)), (1, vP (some 1)), (2, vP (some 9)), (3, vP (rulP (A 2))), (4, vI (nI err)), (5, vI (nI pair)), (6, vI (nI i))] [] (SK tx tu gu tl, h) = some (some (vI (bzB (ftB (fiQ (rulH (A 2) TT) A n err pair) c i))), (SK tx tu gu tl, h'))) ∧ smX isW3 h h' ∧ NmA h' 41
  | 0, i, h, hi, H => by
    have q6 := hQ.2.1
    refine ⟨h, fun f hf => ?_, smX.rf _ h, H.2.2.2.2⟩
    obtain ⟨f, rfl⟩ : ∃ g, f = g + 1 := ⟨f - 1, by omega⟩
    rw [e_X0_fits_3 (hg := hg) (htp := htp), H.2.2.1.2.2.2.2.1, hQ.1, if_pos (nI_le (by omega) (by omega))]
    rfl
  | c + 1, i, h, hi, H => by
    have q6 := hQ.2.1
    obtain ⟨w1, w2, w3, w4, w5⟩ := hrd_q hQ hn (i := i) (by omega)
    obtain ⟨h1, e1, e2, e3⟩ := x_hof X d tx tu gu tl h H hn w2 hpr
    have H1 := H.cg (e2.mo fun c => isW3_G) e3
    obtain ⟨h2, k1, k2, k3⟩ := x_fits hg htp hQ hn he hpr c (i + 1) h1 (by omega) H1
    have t12 : gA h 12 i = nI (whN A i) := (H.2.2.1.2.2.2.2.2.2.2.2.1 i (by omega)).trans w1
    have t13 : gA h1 13 i = zI (asZ A i) := (H1.2.2.1.2.2.2.2.2.2.2.2.2.1 i (by omega)).trans w3
    obtain ⟨b1, b2⟩ := hrV_b (o := rulH (A 2) TT) H.1 (p := whN A i) (q := pair / 100) (w := pair % 100) (by omega) (by omega) (by omega)
    unfold ftB
    by_cases g : fiQ (rulH (A 2) TT) A n err pair i = true
    · rw [g, Bool.true_and]
      refine ⟨h2, fun f hf => ?_, e2.tr k2, k3⟩
      obtain ⟨f, rfl⟩ : ∃ g, f = g + 2 := ⟨f - 2, by omega⟩
      unfold fiQ at g
      rw [e_X0_fits_3 (hg := hg) (htp := htp), H.2.2.1.2.2.2.2.1, hQ.1, if_neg (nI_ge (by omega) (by omega)), inbI (by omega) (by omega), t12, e1, bI_s, e_X0_fits_38 (hg := hg) (htp := htp), inbI (by omega) (by omega), t13, zI_sub, if_pos ((abs_x (by omega) (by omega) he).mpr (of_decide_eq_true g)), nI_1]
      exact k1 f (by omega)
    · rw [Bool.eq_false_iff.mpr g, Bool.false_and]
      refine ⟨h1, fun f hf => ?_, e2, e3⟩
      obtain ⟨f, rfl⟩ : ∃ g, f = g + 2 := ⟨f - 2, by omega⟩
      unfold fiQ at g
      rw [e_X0_fits_3 (hg := hg) (htp := htp), H.2.2.1.2.2.2.2.1, hQ.1, if_neg (nI_ge (by omega) (by omega)), inbI (by omega) (by omega), t12, e1, bI_s, e_X0_fits_38 (hg := hg) (htp := htp), inbI (by omega) (by omega), t13, zI_sub, if_neg (fun y => g (decide_eq_true ((abs_x (by omega) (by omega) he).mp y)))]
      rfl
/-- places that fit, in their order -/
def fL (P : Nat → Bool) : Nat → Nat → List Nat
  | 0, _ => []
  | c + 1, p => bif P p then p :: fL P c (p + 1) else fL P c (p + 1)
theorem fL_add (P : Nat → Bool) : ∀ (a b p : Nat), fL P (a + b) p = fL P a p ++ fL P b (p + a)
  | 0, b, p => by rw [Nat.zero_add]; rfl
  | a + 1, b, p => by
    rw [show a + 1 + b = a + b + 1 by omega]
    show (bif P p then p :: fL P (a + b) (p + 1) else fL P (a + b) (p + 1)) = (bif P p then p :: fL P a (p + 1) else fL P a (p + 1)) ++ fL P b (p + (a + 1))
    rw [fL_add P a b (p + 1), show p + 1 + a = p + (a + 1) by omega]
    cases P p <;> rfl
theorem fL_len (P : Nat → Bool) : ∀ (c p : Nat), (fL P c p).length ≤ c
  | 0, _ => Nat.le_refl _
  | c + 1, p => by
    have := fL_len P c (p + 1)
    unfold fL
    cases P p with
    | true => rw [cond_true, List.length_cons]; omega
    | false => rw [cond_false]; omega
def prA (h : DT) (g : Nat) (l : List Nat) : Prop := gF h g 0 = nI l.length ∧ ∀ i, i < l.length → gA h (g + 1) i = nI (l.getD i 0)
theorem prA_g {h h' : DT} {g : Nat} {l : List Nat} (H : prA h g l) (e : gF h' g 0 = gF h g 0) (e2 : gA h' (g + 1) = gA h (g + 1)) : prA h' g l := ⟨e.trans H.1, fun i hi => by rw [e2]; exact H.2 i hi⟩
theorem getD_app0 (l : List Nat) (x i : Nat) : (l ++ [x]).getD i 0 = if i < l.length then l.getD i 0 else if i = l.length then x else 0 := getD_app l x 0 i
theorem x_gin {A : Nat → Int32} {n t k g q err sp : Nat} {TT : Nat → TXT} (hg : GuA g tl) (htp : TpA (rulP (A 2))) (hQ : HrdOk A n q) (hn : n ≤ 5) (he : err ≤ 9) (hsp : sp < n) : ∀ (c w : Nat) (l : List Nat) (h : DT), w + c = 100 → CX A n t k TT h → prA h g l → l.length ≤ 100 * sp + w → ∃ h', (∀ F f, F + (2 * c + 1) ≤ f → ∃ f', F ≤ f' ∧ m_X0_gather X (d + 6) f 20 [(0, vP (some g)), (1, vP (some 1)), (2, vP (some 9)), (3, vP (rulP (A 2))), (4, vI (nI err)), (5, vI (nI sp)), (6, vI (nI w))] [] (SK tx tu gu tl, h) = m_X0_gather X (d + 6) f' 8 [(0, vP (some g)), (1, vP (some 1)), (2, vP (some 9)), (3, vP (rulP (A 2))), (4, vI (nI err)), (5, vI (nI (sp + 1)))] [] (SK tx tu gu tl, h')) ∧ CX A n t k TT h' ∧ prA h' g (l ++ fL (fit (rulH (A 2) TT) A n err q) c (100 * sp + w)) ∧ smX (isGg g) h h'
  | 0, w, l, h, hw, H, hp, hl => by
    refine ⟨h, fun F f hf => ?_, H, by rw [show fL (fit (rulH (A 2) TT) A n err q) 0 (100 * sp + w) = [] from rfl, List.append_nil]; exact hp, smX.rf _ h⟩
    obtain ⟨f, rfl⟩ : ∃ g, f = g + 1 := ⟨f - 1, by omega⟩
    refine ⟨f, by omega, ?_⟩
    rw [e_X0_gather_20 (hg := hg) (htp := htp), show (100 : Int32) = nI 100 from rfl, if_pos (nI_le (by omega) (by omega)), nI_1]
  | c + 1, w, l, h, hw, H, hp, hl => by
    have q6 := hQ.2.1
    have g95 : 95 ≤ g := by rcases hg with ⟨z, _⟩ | ⟨z, _⟩ <;> omega
    obtain ⟨h1, k1, k2, k3⟩ := x_fits X d tx tu gu tl hg htp hQ hn he (pair := 100 * sp + w) (by omega) q 0 h (by omega) H
    have H1 := H.cg (k2.mo fun c => isW3_G) k3
    have p1 : prA h1 g l := prA_g hp (by rw [smF k2 (by unfold isW3; omega)]) (smA k2 (by unfold isW3; omega))
    have st : ∀ f, m_X0_gather X (d + 6) (f + 2) 20 [(0, vP (some g)), (1, vP (some 1)), (2, vP (some 9)), (3, vP (rulP (A 2))), (4, vI (nI err)), (5, vI (nI sp)), (6, vI (nI w))] [] (SK tx tu gu tl, h) = m_X0_gather X (d + 6) (f + 1) 48 [(0, vP (some g)), (1, vP (some 1)), (2, vP (some 9)), (3, vP (rulP (A 2))), (4, vI (nI err)), (5, vI (nI sp)), (6, vI (nI w)), (7, vI (nI (100 * sp + w)))] [vI (bzB (fit (rulH (A 2) TT) A n err q (100 * sp + w)))] (SK tx tu gu tl, h1) := fun f => by
      rw [e_X0_gather_20 (hg := hg) (htp := htp), show (100 : Int32) = nI 100 from rfl, if_neg (nI_ge (by omega) (by omega)), mulI, addI, show sp * 100 + w = 100 * sp + w by omega, c_X0_fits, e_X0_fits_0 (hg := hg) (htp := htp), show (0 : Int32) = nI 0 from rfl, k1 999999 (by omega), bI_s]
      rfl
    have fe : fL (fit (rulH (A 2) TT) A n err q) (c + 1) (100 * sp + w) = bif fit (rulH (A 2) TT) A n err q (100 * sp + w) then (100 * sp + w) :: fL (fit (rulH (A 2) TT) A n err q) c (100 * sp + (w + 1)) else fL (fit (rulH (A 2) TT) A n err q) c (100 * sp + (w + 1)) := rfl
    cases hF : fit (rulH (A 2) TT) A n err q (100 * sp + w) with
    | false =>
      rw [hF] at fe
      obtain ⟨h2, j1, j2, j3, j4⟩ := x_gin hg htp hQ hn he hsp c (w + 1) l h1 (by omega) H1 p1 (by omega)
      refine ⟨h2, fun F f hf => ?_, j2, by rw [fe, cond_false]; exact j3, smX.tr (k2.mo fun c => isW3_g) j4⟩
      obtain ⟨f, rfl⟩ : ∃ g, f = g + 2 := ⟨f - 2, by omega⟩
      obtain ⟨f', f1, f2⟩ := j1 F f (by omega)
      refine ⟨f', f1, ?_⟩
      rw [st, hF, bz_f, e_X0_gather_48 (hg := hg) (htp := htp), if_pos rfl, nI_1]
      exact f2
    | true =>
      rw [hF] at fe
      generalize hh : sF (wA h1 (g + 1) (upd (gA h1 (g + 1)) l.length (nI (100 * sp + w)))) g 0 (nI (l.length + 1)) = h2
      have s2 : smX (isGg g) h1 h2 := by rw [← hh]; exact smX.tr (smX_wA (by unfold isGg; omega)) (smX_sF (by unfold isGg; omega))
      have n2 : NmA h2 41 := by
        have : gA h2 41 = gA h1 41 := by
          rw [← hh]
          show gA (wA h1 (g + 1) _) 41 = _
          rw [gA_wA, if_neg (by omega)]
        intro k hk
        rw [this]
        exact k3 k hk
      have p2 : prA h2 g (l ++ [100 * sp + w]) := by
        refine ⟨by rw [← hh, gF_sF, if_pos ⟨rfl, rfl⟩, List.length_append]; rfl, fun i hi => ?_⟩
        rw [List.length_append] at hi
        simp only [List.length_cons, List.length_nil] at hi
        rw [getD_app0, ← hh]
        show gA (wA h1 (g + 1) _) (g + 1) i = _
        rw [gA_wA']
        by_cases y : i < l.length
        · rw [if_pos y, pk_un (by omega)]
          exact p1.2 i y
        · rw [if_neg y, if_pos (by omega), show i = l.length by omega, pk_us]
      obtain ⟨h3, j1, j2, j3, j4⟩ := x_gin hg htp hQ hn he hsp c (w + 1) (l ++ [100 * sp + w]) h2 (by omega) (H1.cg (s2.mo fun c => isGg_G g95) n2) p2 (by rw [List.length_append]; simp only [List.length_cons, List.length_nil]; omega)
      refine ⟨h3, fun F f hf => ?_, j2, ?_, smX.tr (smX.tr (k2.mo fun c => isW3_g) s2) j4⟩
      · obtain ⟨f, rfl⟩ : ∃ g, f = g + 2 := ⟨f - 2, by omega⟩
        obtain ⟨f', f1, f2⟩ := j1 F f (by omega)
        refine ⟨f', f1, ?_⟩
        rw [st, hF, bz_t, e_X0_gather_48 (hg := hg) (htp := htp), if_neg one0, p1.1, inbI (by omega) (by omega), nI_1, nI_1, sA_w, hh]
        exact f2
      · rw [fe, cond_true]
        rw [List.append_assoc] at j3
        exact j3
theorem x_gout {A : Nat → Int32} {n t k g q err : Nat} {TT : Nat → TXT} (hg : GuA g tl) (htp : TpA (rulP (A 2))) (hQ : HrdOk A n q) (hn : n ≤ 5) (he : err ≤ 9) (h0 : A 0 = nI n) : ∀ (c sp : Nat) (l : List Nat) (h : DT), sp + c = n → CX A n t k TT h → prA h g l → l.length ≤ 100 * sp → ∃ h', (∀ f, 203 * c + 1 ≤ f → m_X0_gather X (d + 6) f 8 [(0, vP (some g)), (1, vP (some 1)), (2, vP (some 9)), (3, vP (rulP (A 2))), (4, vI (nI err)), (5, vI (nI sp))] [] (SK tx tu gu tl, h) = some (none, (SK tx tu gu tl, h'))) ∧ CX A n t k TT h' ∧ prA h' g (l ++ fL (fit (rulH (A 2) TT) A n err q) (100 * c) (100 * sp)) ∧ smX (isGg g) h h'
  | 0, sp, l, h, hs, H, hp, hl => by
    refine ⟨h, fun f hf => ?_, H, by rw [show fL (fit (rulH (A 2) TT) A n err q) (100 * 0) (100 * sp) = [] from rfl, List.append_nil]; exact hp, smX.rf _ h⟩
    obtain ⟨f, rfl⟩ : ∃ g, f = g + 1 := ⟨f - 1, by omega⟩
    rw [e_X0_gather_8 (hg := hg) (htp := htp), H.2.1.1, h0, if_pos (nI_le (by omega) (by omega))]
  | c + 1, sp, l, h, hs, H, hp, hl => by
    obtain ⟨h1, k1, k2, k3, k4⟩ := x_gin X d tx tu gu tl hg htp hQ hn he (sp := sp) (by omega) 100 0 l h rfl H hp (by omega)
    have ll := fL_len (fit (rulH (A 2) TT) A n err q) 100 (100 * sp + 0)
    obtain ⟨h2, j1, j2, j3, j4⟩ := x_gout hg htp hQ hn he h0 c (sp + 1) _ h1 (by omega) k2 k3 (by rw [List.length_append]; omega)
    refine ⟨h2, fun f hf => ?_, j2, ?_, k4.tr j4⟩
    · obtain ⟨f, rfl⟩ : ∃ g, f = g + 1 := ⟨f - 1, by omega⟩
      obtain ⟨f', f1, f2⟩ := k1 (203 * c + 1) f (by omega)
      rw [e_X0_gather_8 (hg := hg) (htp := htp), H.2.1.1, h0, if_neg (nI_ge (by omega) (by omega)), show (0 : Int32) = nI 0 from rfl, f2]
      exact j1 f' f1
    · rw [show 100 * (c + 1) = 100 + 100 * c by omega, fL_add, ← List.append_assoc]
      exact j3
theorem x_gather {A : Nat → Int32} {n t k g q err : Nat} {TT : Nat → TXT} (hg : GuA g tl) (htp : TpA (rulP (A 2))) (hQ : HrdOk A n q) (he : err ≤ 9) (h : DT) (H : CX A n t k TT h) : ∃ h', cal X (d + 7) 1 [vP (some g), vP (some 1), vP (some 9), vP (rulP (A 2)), vI (nI err)] (SK tx tu gu tl, h) = some (none, (SK tx tu gu tl, h')) ∧ CX A n t k TT h' ∧ prA h' g (fL (fit (rulH (A 2) TT) A n err q) (100 * n) 0) ∧ smX (isGg g) h h' := by
  have g95 : 95 ≤ g := by rcases hg with ⟨z, _⟩ | ⟨z, _⟩ <;> omega
  have hn := H.1.1.2.1
  have s1 : smX (isGg g) h (sF h g 0 0) := smX_sF (by unfold isGg; omega)
  obtain ⟨h', k1, k2, k3, k4⟩ := x_gout X d tx tu gu tl hg htp hQ hn he H.1.1.1 n 0 [] (sF h g 0 0) (by omega) (H.cg (s1.mo fun c => isGg_G g95) H.2.2.2.2) ⟨by rw [gF_sF, if_pos ⟨rfl, rfl⟩]; rfl, fun i hi => absurd hi (by simp)⟩ (by simp)
  refine ⟨h', ?_, k2, k3, s1.tr k4⟩
  rw [c_X0_gather, e_X0_gather_0 (hg := hg) (htp := htp)]
  exact k1 999999 (by omega)
end FI
