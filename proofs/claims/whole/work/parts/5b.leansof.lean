/-! WHAT LEANS AND HEARS COME TO in the reference -/
section LO
variable (X : XS) (d : Nat) (tx tu gu : Option Nat) (tl : List SC)
theorem k_cut (h : DT) {z m : Int} (hz : -4611686018427387904 ≤ z ∧ z < 4611686018427387904) (hm : 0 ≤ m ∧ m < 2147483648) : cal X (d + 1) 163 [vL (lI z), vI (zI (-m)), vI (zI m)] (SK tx tu gu tl, h) = some (some (vI (zI (clm z m))), (SK tx tu gu tl, h)) := by
  rw [c_X11_cut, e_X11_cut_0, z_l (by omega) (by omega), z_l (by omega) (by omega)]
  unfold clm
  by_cases h2 : -m ≤ z
  · rw [if_pos ((lg_cmp_ge _ _).mpr (lle (by omega) (by omega) h2))]
    by_cases h1 : z ≤ m
    · rw [if_pos ((lg_cmp_le _ _).mpr (lle (by omega) (by omega) h1)), if_pos h1, if_pos h2, l_z (by omega) (by omega)]
    · rw [if_neg (fun q => nlle (by omega) (by omega) h1 ((lg_cmp_le _ _).mp q)), if_neg h1]
  · rw [if_neg (fun q => nlle (by omega) (by omega) h2 ((lg_cmp_ge _ _).mp q)), if_pos (show z ≤ m by omega), if_neg h2]
theorem k_seatSlant (h : DT) {n : Nat} (H : RV (gA h 73) n) {x : Int} (hx : b6 x) : cal X (d + 4) 220 [vP (some 72), vL (lI x)] (SK tx tu gu tl, h) = some (some (vL (lI (slI (gA h 73) n x))), (SK tx tu gu tl, h)) := by
  have hn := H.1.2.1
  have hx' := b6w hx
  rw [c_X11_seatSlant, e_X11_seatSlant_0, H.1.1, zI_nI n, z_l (by omega) (by omega), show (0 : Int64) = lI 0 from rfl]
  unfold slI
  by_cases g1 : x < 0
  · rw [if_pos ((lg_cmp_lt _ _).mpr (llt (by omega) (by omega) g1)), if_neg (by omega)]
  rw [if_neg (fun q => nllt (by omega) (by omega) g1 ((lg_cmp_lt _ _).mp q))]
  by_cases g2 : (n : Int) ≤ x
  · rw [if_pos ((lg_cmp_ge _ _).mpr (lle (by omega) (by omega) g2)), if_neg (by omega)]
  rw [if_neg (fun q => nlle (by omega) (by omega) g2 ((lg_cmp_ge _ _).mp q)), if_pos (by omega)]
  obtain ⟨p, hp, e⟩ := H.at (s := x.toNat) (by omega)
  have s9 := s9t (H.s9 (i := p) (by omega))
  have xz : (lI x).toInt32 = nI x.toNat := by rw [l_z (by omega) (by omega), zI_nI]; congr 1; omega
  rw [xz, k_slantIn_t X d tx tu gu tl h H.1.1 hn (by omega) e (by omega), bI_s, e, clI (by omega), ← z_l (by omega) (by omega), zI_to]
theorem k_name (h : DT) {n p : Nat} (H : RV (gA h 73) n) (hp : p < n) : ∃ h1, cal X (d + 1) 225 [vP (some 72), vI (nI p)] (SK tx tu gu tl, h) = some (none, (SK tx tu gu tl, h1)) ∧ smX (fun c => c = 78) h h1 ∧ ∀ k, gA h1 78 k = if k < 5 then zI (E5 (gA h 73) p k) else gA h 78 k := by
  have hn := H.1.2.1
  refine ⟨sA (sA (sA (sA (sA h 78 0 (gA h 73 7)) 78 1 (gA h 73 9)) 78 2 (gA h 73 (22 + p))) 78 3 (nI p)) 78 4 (gA h 73 (12 + p)), ?_, ((((smX_sA (S := fun c => c = 78) rfl).tr (smX_sA rfl)).tr (smX_sA rfl)).tr (smX_sA rfl)).tr (smX_sA rfl), fun k => ?_⟩
  · rw [c_X11_name, e_X11_name_0, litI 22, addI, inbI (by omega) (by omega), litI 12, addI, inbI (by omega) (by omega)]
  · unfold E5
    by_cases k4 : k = 4
    · subst k4; rw [gA_sA, if_pos ⟨rfl, rfl⟩]; exact (zI_to _).symm
    rw [gA_sA, if_neg (fun g => k4 g.2)]
    by_cases k3 : k = 3
    · subst k3; rw [gA_sA, if_pos ⟨rfl, rfl⟩]; exact zI_nI p
    rw [gA_sA, if_neg (fun g => k3 g.2)]
    by_cases k2 : k = 2
    · subst k2; rw [gA_sA, if_pos ⟨rfl, rfl⟩]; exact (zI_to _).symm
    rw [gA_sA, if_neg (fun g => k2 g.2)]
    by_cases k1 : k = 1
    · subst k1; rw [gA_sA, if_pos ⟨rfl, rfl⟩]; exact (zI_to _).symm
    rw [gA_sA, if_neg (fun g => k1 g.2)]
    by_cases k0 : k = 0
    · subst k0; rw [gA_sA, if_pos ⟨rfl, rfl⟩]; exact (zI_to _).symm
    rw [gA_sA, if_neg (fun g => k0 g.2), if_neg (by omega)]
/-- what a text says by its law of a kind -/
def syV (o : Option Cd) (E : EV) (wo top : Int) : Int := match o with
  | none => clm wo top
  | some e => clm (dOf e E) top
theorem k_says_n (h : DT) {lw : Nat} {wo top : Int} (hw : -2000000 ≤ wo ∧ wo ≤ 2000000) (ht : 0 ≤ top ∧ top ≤ 2000000) : cal X (d + 6) 224 [vP (some 72), vI (-1), vI (nI lw), vI (zI wo), vI (zI top)] (SK tx tu gu tl, h) = some (some (vI (zI (clm wo top))), (SK tx tu gu tl, h)) := by
  rw [c_X11_says, e_X11_says_0, e_X11_says_3, if_pos (by decide), z_l (by omega) (by omega), zI_neg, k_cut X (d + 4) tx tu gu tl h (by omega) (by omega), bI_s]
theorem k_says (h : DT) {j lw : Nat} {T : TXT} {o : Option Cd} {E : EV} {wo top : Int} (hj : j < 4) (HT : TxR h j T) (HL : LawR h j lw T.1 o) (hlw : lw ≤ 1) (HE : EnvK X tx tu gu tl h E) (hw : -2000000 ≤ wo ∧ wo ≤ 2000000) (ht : 0 ≤ top ∧ top ≤ 2000000) : ∃ h', cal X (d + 6) 224 [vP (some 72), vI (nI j), vI (nI lw), vI (zI wo), vI (zI top)] (SK tx tu gu tl, h) = some (some (vI (zI (syV o E wo top))), (SK tx tu gu tl, h')) ∧ smX (fun c => c = 79 ∨ c = 80) h h' := by
  obtain ⟨hm, hm1, hm2, hcl, -, -⟩ := HT
  have st : ∀ i, i < T.1.length → gA h 75 (681 * j + 1 + 3 * i) = nI (srt T.1 i) ∧ srt T.1 i ≤ 8 := fun i hi => ⟨(hcl i hi).2.1, (hcl i hi).1⟩
  have stp : ∀ (f k : Nat), k < T.1.length → srt T.1 k ≠ lw → m_X11_says X (d + 5) (f + 1) 3 [(0, vP (some 72)), (1, vI (nI j)), (2, vI (nI lw)), (3, vI (zI wo)), (4, vI (zI top)), (5, vI (nI k))] [] (SK tx tu gu tl, h) = m_X11_says X (d + 5) f 3 [(0, vP (some 72)), (1, vI (nI j)), (2, vI (nI lw)), (3, vI (zI wo)), (4, vI (zI top)), (5, vI (nI (k + 1)))] [] (SK tx tu gu tl, h) := fun f k hk hne => by
    have s8 := (st k hk).2
    rw [e_X11_says_3, if_neg (nI_pos (by omega)), litI 681, mulI, inbI (by omega) (by omega), hm1, if_neg (nI_ge hk (by omega)), nI_1, litI 3, mulI, addI, inbI (by omega) (by omega), (st k hk).1, if_neg (by rw [eqI (by omega) (by omega)]; exact hne), nI_1]
  have lp : ∀ (c k f : Nat), k + c ≤ T.1.length → (∀ i, k ≤ i → i < k + c → srt T.1 i ≠ lw) → c ≤ f → m_X11_says X (d + 5) f 3 [(0, vP (some 72)), (1, vI (nI j)), (2, vI (nI lw)), (3, vI (zI wo)), (4, vI (zI top)), (5, vI (nI k))] [] (SK tx tu gu tl, h) = m_X11_says X (d + 5) (f - c) 3 [(0, vP (some 72)), (1, vI (nI j)), (2, vI (nI lw)), (3, vI (zI wo)), (4, vI (zI top)), (5, vI (nI (k + c)))] [] (SK tx tu gu tl, h) := by
    intro c
    induction c with
    | zero => intro k f _ _ _; rfl
    | succ c ih =>
      intro k f hk hs hf
      obtain ⟨f, rfl⟩ : ∃ g, f = g + 1 := ⟨f - 1, by omega⟩
      rw [stp f k (by omega) (hs k (by omega) (by omega)), ih (k + 1) f (by omega) (fun i h1 h2 => hs i (by omega) (by omega)) (by omega), show f + 1 - (c + 1) = f - c by omega, show k + 1 + c = k + (c + 1) by omega]
  cases o with
  | none =>
    refine ⟨h, ?_, smX.rf _ h⟩
    have e1 := lp T.1.length 0 999999 (by omega) (fun i _ hi => HL.1 i (by omega)) (by omega)
    obtain ⟨f, hf⟩ : ∃ g, 999999 - T.1.length = g + 1 := ⟨999999 - T.1.length - 1, by omega⟩
    rw [c_X11_says, e_X11_says_0]
    refine e1.trans ?_
    rw [hf, Nat.zero_add, e_X11_says_3, if_neg (nI_pos (by omega)), litI 681, mulI, inbI (by omega) (by omega), hm1, if_pos (nI_le (by omega) (by omega)), z_l (by omega) (by omega), zI_neg, k_cut X (d + 4) tx tu gu tl h (by omega) (by omega), bI_s]
    rfl
  | some e =>
    obtain ⟨hno, ⟨k, w0, w1, k1, k2, k3, k4, k5, k6, k7, k8⟩, a, b, w, C, -, -, ⟨D, hv, -⟩, -⟩ := HL
    obtain ⟨h', g1, g2⟩ := k_summed X d tx tu gu tl (t := j) (k := k) h hj (by omega) HE k4 k5 k6 k7 k8 (fun q hq => (hno q hq).1) hv
    have hb := b6w (hv.2 E HE.2.1)
    refine ⟨h', ?_, g2⟩
    have e1 := lp k 0 999999 (by omega) (fun i _ hi => k3 i (by omega)) (by omega)
    obtain ⟨f, hf⟩ : ∃ g, 999999 - k = g + 1 := ⟨999999 - k - 1, by omega⟩
    rw [c_X11_says, e_X11_says_0]
    refine e1.trans ?_
    rw [hf, Nat.zero_add, e_X11_says_3, if_neg (nI_pos (by omega)), litI 681, mulI, inbI (by omega) (by omega), hm1, if_neg (nI_ge k1 (by omega)), nI_1, litI 3, mulI, addI, inbI (by omega) (by omega), (st k k1).1, if_pos (by rw [k2]), g1, bL_s, zI_neg, k_cut X (d + 4) tx tu gu tl h' (by omega) (by omega), bI_s]
    show some (some (vI (zI (clm (D E) top))), (SK tx tu gu tl, h')) = some (some (vI (zI (clm (dOf e E) top))), (SK tx tu gu tl, h'))
    rw [dOf_VC hv]
/-- the text that rules: none, or one of those there -/
def rulT (A2 : Int32) (TT : Nat → TXT) (lw : Nat) : Option Cd := if A2 = -1 then none else bif Nat.beq lw 0 then (TT A2.toNatClampNeg).2.1 else (TT A2.toNatClampNeg).2.2
theorem gOf_0 {k : Nat} (hk : gOf 0 k = true) : k < 7 := by
  unfold gOf at hk
  rcases Nat.lt_or_ge k 7 with g | g
  · exact g
  · have h5 : Nat.blt k 5 = false := by
      cases hq5 : Nat.blt k 5 with
      | false => rfl
      | true => have := Nat.le_of_ble_eq_true hq5; omega
    have h7 : Nat.blt k 7 = false := by
      cases hq5 : Nat.blt k 7 with
      | false => rfl
      | true => have := Nat.le_of_ble_eq_true hq5; omega
    rw [h5, h7] at hk
    cases hk
theorem gOf_1 {k : Nat} (hk : gOf 1 k = true) : k < 5 ∨ 7 ≤ k := by
  unfold gOf at hk
  rcases Nat.lt_or_ge k 5 with g | g
  · exact Or.inl g
  · rcases Nat.lt_or_ge k 7 with g7 | g7
    · have h5 : Nat.blt k 5 = false := by
        cases hq5 : Nat.blt k 5 with
        | false => rfl
        | true => have := Nat.le_of_ble_eq_true hq5; omega
      have h7 : Nat.blt k 7 = true := Nat.ble_eq_true_of_le (by omega)
      rw [h5, h7] at hk
      cases hk
    · exact Or.inr g7
theorem syV_cg {o : Option Cd} {E E' : EV} {wo top : Int} {lw : Nat} (ho : ∀ e, o = some e → NOk lw e ∧ ∃ D, VC e D) (h1 : ∀ k, gOf lw k = true → k < 9 → E.1 k = E'.1 k) (h2 : E.2 = E'.2) : syV o E wo top = syV o E' wo top := by
  cases o with
  | none => rfl
  | some e =>
    obtain ⟨hn, D, hv⟩ := ho e rfl
    show clm (dOf e E) top = clm (dOf e E') top
    rw [dOf_VC hv, dOf_VC hv, D_cg hv h1 h2 hn]
theorem LawR.vc {h : DT} {j lw : Nat} {cl : List (Nat × Nat × Nat)} {o : Option Cd} (H : LawR h j lw cl o) : ∀ e, o = some e → NOk lw e ∧ ∃ D, VC e D := fun e he => by
  subst he
  obtain ⟨hno, -, a, b, w, C, -, -, ⟨D, hv, -⟩, -⟩ := H
  exact ⟨hno, D, hv⟩
/-- the names as the reference has set them -/
theorem envK {h : DT} {n : Nat} (H : RV (gA h 73) n) (hN : NmA h 78) : ∃ E : EV, EnvK X tx tu gu tl h E ∧ E.2 = slI (gA h 73) n ∧ ∀ k, k < 9 → E.1 k = (gA h 78 k).toInt := by
  have ev : ∀ k, k < 9 → -1000000 ≤ (gA h 78 k).toInt ∧ (gA h 78 k).toInt ≤ 1000000 := fun k hk => by
    obtain ⟨z, h1, h2, e⟩ := hN k hk
    rw [e, zI_toInt (by omega) (by omega)]
    omega
  refine ⟨(fun k => (gA h 78 k).toInt, slI (gA h 73) n), ⟨fun k hk => (zI_to _).symm, ⟨fun k hk => ev k hk, fun x => ?_⟩, fun d' h' x hs hx => ?_⟩, rfl, fun k hk => rfl⟩
  · have := slI_b H x
    show b6 (slI (gA h 73) n x)
    unfold b6; omega
  · have e73 : gA h' 73 = gA h 73 := smA hs (by omega)
    have := k_seatSlant X d' tx tu gu tl h' (n := n) (by rw [e73]; exact H) hx
    rw [e73] at this
    exact this
theorem k_leansOf (h : DT) {n p : Nat} {x1 : Int32} {o : Option Cd} (H : RV (gA h 73) n) (hp : p < n) (hN : NmA h 78) (hx : (x1 = -1 ∧ o = none) ∨ ∃ j T, j < 4 ∧ x1 = nI j ∧ TxR h j T ∧ o = T.2.1) : ∃ h', cal X (d + 7) 226 [vP (some 72), vI x1, vI (nI p)] (SK tx tu gu tl, h) = some (some (vI (zI (lnV o (gA h 73) n p))), (SK tx tu gu tl, h')) ∧ smX (fun c => c = 78 ∨ c = 79 ∨ c = 80) h h' ∧ NmA h' 78 := by
  have hn := H.1.2.1
  obtain ⟨hs1, hs2, hs3⟩ := H.seat hp
  have s9p := s9t (H.s9 (i := p) (by omega))
  have s9w := s9t (show stp9 (gA h 73 9) from H.2.2.2.2.1)
  obtain ⟨h1, g1, g2, g3⟩ := k_name X (d + 5) tx tu gu tl h H hp
  have b5 := slI_b H ((seatF (gA h 73) p : Int) - 1)
  have b6' := slI_b H ((seatF (gA h 73) p : Int) + 1)
  have slk : ∀ (h' : DT) (x : Int), gA h' 73 = gA h 73 → -2000000 ≤ x ∧ x ≤ 2000000 → cal X (d + 6) 170 [vP (some 72), vI (zI x)] (SK tx tu gu tl, h') = some (some (vI (zI (slI (gA h 73) n x))), (SK tx tu gu tl, h')) := fun h' x e' hx => by
    have a0 : gA h' 73 0 = nI n := by rw [e']; exact H.1.1
    unfold slI
    by_cases g : 0 ≤ x ∧ x < n
    · obtain ⟨q, hq, e⟩ := H.at (s := x.toNat) (by omega)
      have xz : zI x = nI x.toNat := by rw [zI_nI]; congr 1; omega
      rw [if_pos g, e, clI (by omega), zI_to, xz, k_slantIn_t X (d + 3) tx tu gu tl h' a0 hn (by omega) (by rw [e']; exact e) (by omega), e']
    · rw [if_neg g, k_slantIn_f X (d + 3) tx tu gu tl h' a0 hn]
      · rfl
      · by_cases g1 : x < 0
        · left
          exact zlt (by omega) (by omega) g1
        · right
          rw [zI_nI]
          exact zle (by omega) (by omega) (by omega)
  have e1 : gA h1 73 = gA h 73 := smA g2 (by omega)
  have q1 := slk h1 ((seatF (gA h 73) p : Int) - 1) e1 (by omega)
  have s2 : smX (fun c => c = 78) h1 (sA h1 78 5 (zI (slI (gA h 73) n ((seatF (gA h 73) p : Int) - 1)))) := smX_sA rfl
  have q2 := slk (sA h1 78 5 (zI (slI (gA h 73) n ((seatF (gA h 73) p : Int) - 1)))) ((seatF (gA h 73) p : Int) + 1) ((smA s2 (by omega)).trans e1) (by omega)
  generalize hH : sA (sA h1 78 5 (zI (slI (gA h 73) n ((seatF (gA h 73) p : Int) - 1)))) 78 6 (zI (slI (gA h 73) n ((seatF (gA h 73) p : Int) + 1))) = h3 at *
  have s3 : smX (fun c => c = 78) h h3 := by
    rw [← hH]
    exact (g2.tr s2).tr (smX_sA rfl)
  have e3 : gA h3 73 = gA h 73 := smA s3 (by omega)
  have nm : ∀ k, gA h3 78 k = if k < 5 then zI (E5 (gA h 73) p k) else if k = 5 then zI (slI (gA h 73) n ((seatF (gA h 73) p : Int) - 1)) else if k = 6 then zI (slI (gA h 73) n ((seatF (gA h 73) p : Int) + 1)) else gA h 78 k := fun k => by
    rw [← hH]
    by_cases k6 : k = 6
    · subst k6; rw [gA_sA, if_pos ⟨rfl, rfl⟩]; rfl
    rw [gA_sA, if_neg (fun g => k6 g.2)]
    by_cases k5 : k = 5
    · subst k5; rw [gA_sA, if_pos ⟨rfl, rfl⟩]; rfl
    rw [gA_sA, if_neg (fun g => k5 g.2), g3]
    by_cases k4 : k < 5
    · rw [if_pos k4, if_pos k4]
    · rw [if_neg k4, if_neg k4, if_neg k5, if_neg k6]
  have nb : NmA h3 78 := fun k hk => by
    rw [nm k]
    by_cases k4 : k < 5
    · rw [if_pos k4]
      have := E5_b (k := k) H hp
      exact ⟨_, this.1, this.2, rfl⟩
    rw [if_neg k4]
    by_cases k5 : k = 5
    · rw [if_pos k5]; exact ⟨_, by omega, by omega, rfl⟩
    rw [if_neg k5]
    by_cases k6 : k = 6
    · rw [if_pos k6]; exact ⟨_, by omega, by omega, rfl⟩
    rw [if_neg k6]
    exact hN k hk
  obtain ⟨E, HE, eE2, eE1⟩ := envK X tx tu gu tl (n := n) (by rw [e3]; exact H) nb
  have wo9 : -9 ≤ stI (gA h 73 (12 + p)).toInt (gA h 73 9).toInt ∧ stI (gA h 73 (12 + p)).toInt (gA h 73 9).toInt ≤ 9 := stI_9 s9p s9w
  have sy : syV o E (stI (gA h 73 (12 + p)).toInt (gA h 73 9).toInt) 9 = lnV o (gA h 73) n p := by
    have ho : ∀ e, o = some e → NOk 0 e ∧ ∃ D, VC e D := by
      rcases hx with ⟨-, rfl⟩ | ⟨j, T, hj, -, hT, rfl⟩
      · intro e he; cases he
      · exact hT.2.2.2.2.1.vc
    rw [syV_cg (E' := EL (gA h 73) n p) ho (fun k hk hk9 => ?_) (by rw [eE2, e3]; rfl)]
    · cases o with
      | none => exact clm_id (by omega) (by omega)
      | some e => rfl
    · have k7 := gOf_0 hk
      rw [eE1 k hk9, nm k]
      show _ = (if k < 5 then E5 (gA h 73) p k else if k = 5 then slI (gA h 73) n ((seatF (gA h 73) p : Int) - 1) else if k = 6 then slI (gA h 73) n ((seatF (gA h 73) p : Int) + 1) else 0)
      by_cases k4 : k < 5
      · have := E5_b (k := k) H hp
        rw [if_pos k4, if_pos k4, zI_toInt (by omega) (by omega)]
      rw [if_neg k4, if_neg k4]
      by_cases k5 : k = 5
      · rw [if_pos k5, if_pos k5, zI_toInt (by omega) (by omega)]
      rw [if_neg k5, if_neg k5, if_pos (show k = 6 by omega), if_pos (show k = 6 by omega), zI_toInt (by omega) (by omega)]
  have fin : ∃ h', cal X (d + 6) 224 [vP (some 72), vI x1, vI (nI 0), vI (zI (stI (gA h 73 (12 + p)).toInt (gA h 73 9).toInt)), vI (zI 9)] (SK tx tu gu tl, h3) = some (some (vI (zI (lnV o (gA h 73) n p))), (SK tx tu gu tl, h')) ∧ smX (fun c => c = 79 ∨ c = 80) h3 h' := by
    rcases hx with ⟨rfl, rfl⟩ | ⟨j, T, hj, rfl, hT, rfl⟩
    · refine ⟨h3, ?_, smX.rf _ _⟩
      rw [k_says_n X d tx tu gu tl h3 (lw := 0) (by omega) (by omega), ← sy]
      rfl
    · have hT3 : TxR h3 j T := hT.cg hj (smT_of s3 (by omega) (fun c _ _ => by omega))
      obtain ⟨h', r1, r2⟩ := k_says X d tx tu gu tl h3 (lw := 0) hj hT3 hT3.2.2.2.2.1 (by omega) HE (wo := stI (gA h 73 (12 + p)).toInt (gA h 73 9).toInt) (top := 9) (by omega) (by omega)
      exact ⟨h', by rw [r1, sy], r2⟩
  obtain ⟨h', r1, r2⟩ := fin
  refine ⟨h', ?_, (s3.mo fun c hc => Or.inl hc).tr (r2.mo fun c hc => Or.inr hc), fun k hk => by rw [smA r2 (by omega)]; exact nb k hk⟩
  rw [c_X11_leansOf, e_X11_leansOf_0, k_seatOf X (d + 5) tx tu gu tl h hs2 (by omega) hs3, bI_s, e_X11_leansOf_5, g1, bV_s, e_X11_leansOf_11, show nI (seatF (gA h 73) p) - 1 = zI ((seatF (gA h 73) p : Int) - 1) by rw [zI_nI, show (1 : Int32) = zI 1 from rfl, zI_sub], q1, bI_s, e_X11_leansOf_23, show (5 : Int32) = nI 5 from rfl, inbI (by omega) (by omega), show nI (seatF (gA h 73) p) + 1 = zI ((seatF (gA h 73) p : Int) + 1) by rw [zI_nI, show (1 : Int32) = zI 1 from rfl, zI_add], q2, bI_s, e_X11_leansOf_37, show (6 : Int32) = nI 6 from rfl, inbI (by omega) (by omega), litI 12, addI, inbI (by omega) (by omega), hH, smA s2 (show ¬ (73 : Nat) = 78 by omega), e1, ← zI_to (gA h 73 (12 + p)), ← zI_to (gA h 73 9), z_l (by omega) (by omega), z_l (by omega) (by omega), k_stepOf X (d + 5) tx tu gu tl h3 (by omega) (by omega), bL_s, e_X11_leansOf_62, l_z (by omega) (by omega)]
  show (bI (cal X (d + 6) 224 [vP (some 72), vI x1, vI (nI 0), vI (zI (stI (gA h 73 (12 + p)).toInt (gA h 73 9).toInt)), vI (zI 9)] (SK tx tu gu tl, h3)) fun r1 H1 => some (some (vI r1), H1)) = _
  rw [r1, bI_s]
theorem k_hearsOf (h : DT) {n p q w : Nat} {o : Option Cd} (H : RV (gA h 73) n) (hp : p < n) (hq : q < n) (hw : w < 100) (hN : NmA h 78) (hx : (gA h 73 2 = -1 ∧ o = none) ∨ ∃ j T, j < 4 ∧ gA h 73 2 = nI j ∧ TxR h j T ∧ o = T.2.2) : ∃ h', cal X (d + 7) 227 [vP (some 72), vI (nI p), vI (nI q), vI (nI w)] (SK tx tu gu tl, h) = some (some (vI (zI (hrV o (gA h 73) n p q w))), (SK tx tu gu tl, h')) ∧ smX (fun c => c = 78 ∨ c = 79 ∨ c = 80) h h' ∧ NmA h' 78 := by
  have hn := H.1.2.1
  have s9p := s9t (H.s9 (i := p) (by omega))
  have s9q := s9t (H.s9 (i := q) (by omega))
  obtain ⟨h1, g1, g2, g3⟩ := k_name X (d + 5) tx tu gu tl h H hp
  have e1 : gA h1 73 = gA h 73 := smA g2 (by omega)
  generalize hH : sA (sA h1 78 7 (nI w)) 78 8 (gA h 73 (12 + q)) = h3 at *
  have s3 : smX (fun c => c = 78) h h3 := by
    rw [← hH]
    exact (g2.tr (smX_sA rfl)).tr (smX_sA rfl)
  have e3 : gA h3 73 = gA h 73 := smA s3 (by omega)
  have nm : ∀ k, gA h3 78 k = if k < 5 then zI (E5 (gA h 73) p k) else if k = 7 then zI w else if k = 8 then gA h 73 (12 + q) else gA h 78 k := fun k => by
    rw [← hH]
    by_cases k8 : k = 8
    · subst k8; rw [gA_sA, if_pos ⟨rfl, rfl⟩]; rfl
    rw [gA_sA, if_neg (fun g => k8 g.2)]
    by_cases k7 : k = 7
    · subst k7; rw [gA_sA, if_pos ⟨rfl, rfl⟩, zI_nI]; rfl
    rw [gA_sA, if_neg (fun g => k7 g.2), g3]
    by_cases k4 : k < 5
    · rw [if_pos k4, if_pos k4]
    · rw [if_neg k4, if_neg k4, if_neg k7, if_neg k8]
  have nb : NmA h3 78 := fun k hk => by
    rw [nm k]
    by_cases k4 : k < 5
    · rw [if_pos k4]
      have := E5_b (k := k) H hp
      exact ⟨_, this.1, this.2, rfl⟩
    rw [if_neg k4]
    by_cases k7 : k = 7
    · rw [if_pos k7]; exact ⟨_, by omega, by omega, rfl⟩
    rw [if_neg k7]
    by_cases k8 : k = 8
    · rw [if_pos k8]; exact ⟨_, by omega, by omega, (zI_to _).symm⟩
    rw [if_neg k8]
    exact hN k hk
  obtain ⟨E, HE, eE2, eE1⟩ := envK X tx tu gu tl (n := n) (by rw [e3]; exact H) nb
  have sy : syV o E ((w : Int) + (gA h 73 (12 + q)).toInt - (gA h 73 (12 + p)).toInt) 999 = hrV o (gA h 73) n p q w := by
    have ho : ∀ e, o = some e → NOk 1 e ∧ ∃ D, VC e D := by
      rcases hx with ⟨-, rfl⟩ | ⟨j, T, hj, -, hT, rfl⟩
      · intro e he; cases he
      · exact hT.2.2.2.2.2.vc
    rw [syV_cg (E' := EH (gA h 73) n p q w) ho (fun k hk hk9 => ?_) (by rw [eE2, e3]; rfl)]
    · cases o with
      | none => exact clm_id (by omega) (by omega)
      | some e => rfl
    · have k7 := gOf_1 hk
      rw [eE1 k hk9, nm k]
      show _ = (if k < 5 then E5 (gA h 73) p k else if k = 7 then (w : Int) else if k = 8 then (gA h 73 (12 + q)).toInt else 0)
      by_cases k4 : k < 5
      · have := E5_b (k := k) H hp
        rw [if_pos k4, if_pos k4, zI_toInt (by omega) (by omega)]
      rw [if_neg k4, if_neg k4]
      by_cases k5 : k = 7
      · rw [if_pos k5, if_pos k5, zI_toInt (by omega) (by omega)]
      rw [if_neg k5, if_neg k5, if_pos (show k = 8 by omega), if_pos (show k = 8 by omega)]
  have fin : ∃ h', cal X (d + 6) 224 [vP (some 72), vI (gA h 73 2), vI (nI 1), vI (zI ((w : Int) + (gA h 73 (12 + q)).toInt - (gA h 73 (12 + p)).toInt)), vI (zI 999)] (SK tx tu gu tl, h3) = some (some (vI (zI (hrV o (gA h 73) n p q w))), (SK tx tu gu tl, h')) ∧ smX (fun c => c = 79 ∨ c = 80) h3 h' := by
    rcases hx with ⟨hx1, rfl⟩ | ⟨j, T, hj, hx1, hT, rfl⟩
    · refine ⟨h3, ?_, smX.rf _ _⟩
      rw [hx1, k_says_n X d tx tu gu tl h3 (lw := 1) (by omega) (by omega), ← sy]
      rfl
    · have hT3 : TxR h3 j T := hT.cg hj (smT_of s3 (by omega) (fun c _ _ => by omega))
      obtain ⟨h', r1, r2⟩ := k_says X d tx tu gu tl h3 (lw := 1) hj hT3 hT3.2.2.2.2.2 (by omega) HE (wo := (w : Int) + (gA h 73 (12 + q)).toInt - (gA h 73 (12 + p)).toInt) (top := 999) (by omega) (by omega)
      exact ⟨h', by rw [hx1, r1, sy], r2⟩
  obtain ⟨h', r1, r2⟩ := fin
  refine ⟨h', ?_, (s3.mo fun c hc => Or.inl hc).tr (r2.mo fun c hc => Or.inr hc), fun k hk => by rw [smA r2 (by omega)]; exact nb k hk⟩
  rw [c_X11_hearsOf, e_X11_hearsOf_0, g1, bV_s, e_X11_hearsOf_5, litI 12, addI, addI, inbI (by omega) (by omega), inbI (by omega) (by omega), inbI (by omega) (by omega), e1, hH, show nI w + gA h 73 (12 + q) - gA h 73 (12 + p) = zI ((w : Int) + (gA h 73 (12 + q)).toInt - (gA h 73 (12 + p)).toInt) by rw [← zI_sub, ← zI_add, zI_to, zI_to, zI_nI]]
  show (bI (cal X (d + 6) 224 [vP (some 72), vI (gA h 73 2), vI (nI 1), vI (zI ((w : Int) + (gA h 73 (12 + q)).toInt - (gA h 73 (12 + p)).toInt)), vI (zI 999)] (SK tx tu gu tl, h3)) fun r1 H1 => some (some (vI r1), H1)) = _
  rw [r1, bI_s]
theorem x_hearing {h : DT} {n p q w j : Nat} {A : Nat → Int32} {cl : List (Nat × Nat × Nat)} {o : Option Cd} (H : RV A n) (HX : XR0 h 1 A) (hp : p < n) (hq : q < n) (hw0 : w < 100) (hj : j < 4) (HL : LawR h j 1 cl o) (hN : NmA h 41) : ∃ h1, cal X (d + 4) 8 [vP (some 40), vP (some 1), vI (nI p), vI (nI q), vI (nI w), vP (some (txc j))] (SK tx tu gu tl, h) = some (some (vI (zI (hrV o A n p q w))), (SK tx tu gu tl, h1)) ∧ smX (fun c => c = 40 ∨ c = 41 ∨ c = 42) h h1 ∧ NmA h1 41 := by
  have hn := H.1.2.1
  have ht := txc_tx hj
  have hr : isRw 1 := Or.inl rfl
  have s9p := s9t (H.s9 (i := p) (by omega))
  have s9q := s9t (H.s9 (i := q) (by omega))
  have hsum : nI w + A (12 + q) - A (12 + p) = zI ((w : Int) + (A (12 + q)).toInt - (A (12 + p)).toInt) := by rw [← zI_sub, ← zI_add, zI_to, zI_to, zI_nI]
  cases o with
  | none =>
    refine ⟨h, ?_, smX.rf _ h, hN⟩
    have l0 : gF h (txc j) 3 = -1 := HL.2
    rw [c_X1_hearing, e_X1_hearing_0 (hp := hr) (ht := ht), l0, if_pos rfl, inbI (by omega) (by omega), inbI (by omega) (by omega), HX.2.2.2.2.2.1 p (by omega), HX.2.2.2.2.2.1 q (by omega), hsum]
    rfl
  | some e =>
    obtain ⟨hno, -, a, b, w1, C, la, hC, ⟨D, hv, hS⟩, hw, hb, h0⟩ := HL
    have la' : gF h (txc j) 3 = nI a := la
    have lz : ¬ nI a = -1 := by
      intro g
      have := congrArg Int32.toInt g
      rw [nIt (by have := hS.1; omega), im1t] at this
      omega
    obtain ⟨h1, g1, g2, g3⟩ := x_setNames X (d + 2) tx tu gu tl hr H HX hp
    have x1q : gA h1 (1 + 1) q = A (12 + q) := by rw [smA g2 (by omega)]; exact HX.2.2.2.2.2.1 q (by omega)
    generalize hH : sA (sA h1 41 7 (nI w)) 41 8 (A (12 + q)) = h3 at *
    have s3 : smX (fun c => c = 41) h h3 := by
      rw [← hH]
      exact (g2.tr (smX_sA rfl)).tr (smX_sA rfl)
    have HX3 : XR0 h3 1 A := HX.cg fun c _ _ => ⟨smF s3 (by omega), smA s3 (by omega)⟩
    have nm : ∀ k, gA h3 41 k = if k < 5 then zI (E5 A p k) else if k = 7 then zI w else if k = 8 then A (12 + q) else gA h 41 k := fun k => by
      rw [← hH]
      by_cases k8 : k = 8
      · subst k8; rw [gA_sA, if_pos ⟨rfl, rfl⟩]; rfl
      rw [gA_sA, if_neg (fun g => k8 g.2)]
      by_cases k7 : k = 7
      · subst k7; rw [gA_sA, if_pos ⟨rfl, rfl⟩, zI_nI]; rfl
      rw [gA_sA, if_neg (fun g => k7 g.2), g3]
      by_cases k4 : k < 5
      · rw [if_pos k4, if_pos k4]
      · rw [if_neg k4, if_neg k4, if_neg k7, if_neg k8]
    have nb : NmA h3 41 := fun k hk => by
      rw [nm k]
      by_cases k4 : k < 5
      · rw [if_pos k4]
        have := E5_b (k := k) H hp
        exact ⟨_, this.1, this.2, rfl⟩
      rw [if_neg k4]
      by_cases k7 : k = 7
      · rw [if_pos k7]; exact ⟨_, by omega, by omega, rfl⟩
      rw [if_neg k7]
      by_cases k8 : k = 8
      · rw [if_pos k8]; exact ⟨_, by omega, by omega, (zI_to _).symm⟩
      rw [if_neg k8]
      exact hN k hk
    have ev : ∀ k, k < 9 → -1000000 ≤ (gA h3 41 k).toInt ∧ (gA h3 41 k).toInt ≤ 1000000 := fun k hk => by
      obtain ⟨z, h1, h2, e⟩ := nb k hk
      rw [e, zI_toInt (by omega) (by omega)]
      omega
    have HEx : EnvX X tx tu gu tl h3 1 (fun k => (gA h3 41 k).toInt, slI A n) := ⟨fun k hk => (zI_to _).symm, ⟨fun k hk => ev k hk, fun x => by
      have := slI_b H x
      show b6 (slI A n x)
      unfold b6; omega⟩, fun d' h' x hs hx => x_slI X d' tx tu gu tl hr H (HX3.cg fun c _ _ => ⟨smF hs (by omega), smA hs (by omega)⟩) hx⟩
    have hC3 : Cod h3 (txc j) C := by
      obtain ⟨sz, z1, z2, z3, z4⟩ := hC
      exact ⟨sz, z1, by rw [smF s3 (by unfold txc; omega)]; exact z2, fun i hi => by rw [smA s3 (by unfold txc; omega)]; exact z3 i hi, z4⟩
    obtain ⟨h4, r1, r2⟩ := x_reckon X d tx tu gu tl (a := a) hr ht h3 HEx hC3 hS hw hb h0
    have hD : D (fun k => (gA h3 41 k).toInt, slI A n) = dOf e (EH A n p q w) := by
      rw [dOf_VC hv]
      refine D_cg (lw := 1) hv (fun k hk hk9 => ?_) rfl hno
      have k7 := gOf_1 hk
      show (gA h3 41 k).toInt = (if k < 5 then E5 A p k else if k = 7 then (w : Int) else if k = 8 then (A (12 + q)).toInt else 0)
      rw [nm k]
      by_cases k4 : k < 5
      · have := E5_b (k := k) H hp
        rw [if_pos k4, if_pos k4, zI_toInt (by omega) (by omega)]
      rw [if_neg k4, if_neg k4]
      by_cases k5 : k = 7
      · rw [if_pos k5, if_pos k5, zI_toInt (by omega) (by omega)]
      rw [if_neg k5, if_neg k5, if_pos (show k = 8 by omega), if_pos (show k = 8 by omega)]
    have hDb := hv.2 _ HEx.2.1
    unfold b6 at hDb
    refine ⟨h4, ?_, (s3.mo fun c hc => Or.inr (Or.inl hc)).tr (r2.mo fun c hc => by omega), fun k hk => by rw [smA r2 (by omega)]; exact nb k hk⟩
    rw [c_X1_hearing, e_X1_hearing_0 (hp := hr) (ht := ht), la', if_neg lz, g1, bV_s, e_X1_hearing_37 (hp := hr) (ht := ht), inbI (by omega) (by omega), x1q, hH, smF g2 (show ¬ txc j = 41 by unfold txc; omega), la', r1, bI_s, show (999 : Int32) = zI 999 from rfl, x_clamp X (d + 2) tx tu gu tl h4 (by omega) (by omega), bI_s, hD]
    rfl
theorem x_hearing_n {h : DT} {n p q w : Nat} {A : Nat → Int32} (H : RV A n) (HX : XR0 h 1 A) (hp : p < n) (hq : q < n) : cal X (d + 1) 8 [vP (some 40), vP (some 1), vI (nI p), vI (nI q), vI (nI w), vP none] (SK tx tu gu tl, h) = some (some (vI (zI (hrV none A n p q w))), (SK tx tu gu tl, h)) := by
  have hn := H.1.2.1
  have hsum : nI w + A (12 + q) - A (12 + p) = zI ((w : Int) + (A (12 + q)).toInt - (A (12 + p)).toInt) := by rw [← zI_sub, ← zI_add, zI_to, zI_to, zI_nI]
  rw [c_X1_hearingn, e_X1_hearingn_0 (hp := Or.inl rfl), inbI (by omega) (by omega), inbI (by omega) (by omega), HX.2.2.2.2.2.1 p (by omega), HX.2.2.2.2.2.1 q (by omega), hsum]
  rfl
end LO
