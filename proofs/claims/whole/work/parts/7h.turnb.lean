/-! TURNS of the reference: all that can be reached, nearest first -/
theorem php : ∀ (m q : Nat) (f : Nat → Nat), (∀ i, i < q → f i < m) → (∀ i j, i < q → j < q → f i = f j → i = j) → q ≤ m
  | 0, q, f, h, _ => by
    by_cases z : q = 0
    · omega
    · exact absurd (h 0 (by omega)) (by omega)
  | m + 1, q, f, h, hi => by
    by_cases z : ∃ k, k < q ∧ f k = m
    · obtain ⟨k, k1, k2⟩ := z
      have := php m (q - 1) (fun i => if i = k then f (q - 1) else f i) (fun i hq => by
        show (if i = k then f (q - 1) else f i) < m
        by_cases y : i = k
        · rw [if_pos y]
          have h1 := h (q - 1) (by omega)
          have h2 : f (q - 1) ≠ m := fun e => by
            have := hi (q - 1) k (by omega) k1 (e.trans k2.symm)
            omega
          omega
        · rw [if_neg y]
          have h1 := h i (by omega)
          have h2 : f i ≠ m := fun e => y (hi i k (by omega) k1 (e.trans k2.symm))
          omega) (fun i j iq jq e => by
        have e : (if i = k then f (q - 1) else f i) = (if j = k then f (q - 1) else f j) := e
        by_cases y : i = k
        · by_cases y2 : j = k
          · rw [y, y2]
          · rw [if_pos y, if_neg y2] at e
            have := hi (q - 1) j (by omega) (by omega) e
            omega
        · by_cases y2 : j = k
          · rw [if_neg y, if_pos y2] at e
            have := hi i (q - 1) (by omega) (by omega) e
            omega
          · rw [if_neg y, if_neg y2] at e
            exact hi i j (by omega) (by omega) e)
      omega
    · have := php m q f (fun i hq => by
        have h1 := h i hq
        have h2 : f i ≠ m := fun e => z ⟨i, hq, e⟩
        omega) hi
      omega
/-- the row of those reached -/
def BfQ (h : DT) (n q : Nat) (Q : Nat → Nat) : Prop := (∀ i, i < q → Q i < 32 * fc n ∧ gA h 84 i = nI (phT n (Q i)) ∧ dsT n (Q i) ≠ 15) ∧ (∀ i j, i < q → j < q → Q i = Q j → i = j) ∧ (∀ i j, i ≤ j → j < q → dsT n (Q i) ≤ dsT n (Q j)) ∧ (∀ a, a < 32 * fc n → (gA h 83 (phT n a) = nI (dsT n a) ∧ ∃ i, i < q ∧ Q i = a) ∨ (gA h 83 (phT n a) = -1 ∧ ∀ i, i < q → Q i ≠ a)) ∧ 0 < q ∧ Q 0 = 0
/-- whose neighbours are all in it -/
def BfP (n q p j : Nat) (Q : Nat → Nat) : Prop := (∀ i u, i < q → u < n → (i < p ∨ i = p ∧ u < j) → ∃ k, k < q ∧ Q k = spT n (Q i) u) ∧ (p < q → ∀ k, k < q → dsT n (Q k) ≤ dsT n (Q p) + 1)
theorem BfQ.le {h : DT} {n q : Nat} {Q : Nat → Nat} (H : BfQ h n q Q) : q ≤ 32 * fc n := php _ q Q (fun i hi => (H.1 i hi).1) H.2.1
theorem BfQ.cg {h h' : DT} {n q : Nat} {Q : Nat → Nat} (H : BfQ h n q Q) (e1 : gA h' 83 = gA h 83) (e2 : gA h' 84 = gA h 84) : BfQ h' n q Q := by
  unfold BfQ
  rw [e1, e2]
  exact H
theorem Bf_near {h : DT} {n q p j : Nat} {Q : Nat → Nat} (hn : n ≤ 5) (H : BfQ h n q Q) (HP : BfP n q p j Q) (t : Nat) (hp : ∀ i, i < q → dsT n (Q i) < t → i < p) : ∀ (m a : Nat), dsT n a = m → m ≤ t → m ≠ 15 → a < 32 * fc n → ∃ i, i < q ∧ Q i = a
  | 0, a, hm, _, _, ha => by
    have := (tk_d (n := n) (by omega) ha).2.1 hm
    exact ⟨0, H.2.2.2.2.1, by rw [H.2.2.2.2.2, this]⟩
  | m + 1, a, hm, hmt, h15, ha => by
    have w1 := (tk_d (n := n) (by omega) ha).1
    have w4 := (tk_d (n := n) (by omega) ha).2.2.2
    obtain ⟨u, u1, u2⟩ := (tk_d (n := n) (by omega) ha).2.2.1 (by omega) (by omega)
    obtain ⟨v1, v2, _, _⟩ := w1 u u1
    obtain ⟨i, i1, i2⟩ := Bf_near hn H HP t hp m (spT n a u) (by omega) (by omega) (by omega) v2
    have i3 := hp i i1 (by rw [i2]; omega)
    obtain ⟨k, k1, k2⟩ := HP.1 i u i1 u1 (Or.inl i3)
    exact ⟨k, k1, by rw [k2, i2, v1]⟩
/-- all distances are known to the reference -/
def FkOk (h : DT) (n : Nat) : Prop := ∀ a, a < 32 * fc n → gA h 83 (phT n a) = if dsT n a = 15 then -1 else nI (dsT n a)
theorem Bf_end {h : DT} {n q j : Nat} {Q : Nat → Nat} (hn : n ≤ 5) (H : BfQ h n q Q) (HP : BfP n q q j Q) : FkOk h n := fun a ha => by
  rcases H.2.2.2.1 a ha with ⟨u, i, i1, i2⟩ | ⟨u, v⟩
  · rw [u, if_neg (by rw [← i2]; exact (H.1 i i1).2.2)]
  · by_cases z : dsT n a = 15
    · rw [u, if_pos z]
    · obtain ⟨i, i1, i2⟩ := Bf_near hn H HP 15 (fun i hi _ => hi) (dsT n a) a rfl (by have := ds_lt n a; omega) z ha
      exact absurd i2 (v i i1)
/-- one more is reached -/
theorem Bf_add {h h' : DT} {n q p j : Nat} {Q : Nat → Nat} (hn : n ≤ 5) (H : BfQ h n q Q) (HP : BfP n q p j Q) (hp : p < q) (hj : j < n) (h3 : ∀ i, i < q → Q i ≠ spT n (Q p) j) (e3 : ∀ k, gA h' 83 k = if k = phT n (spT n (Q p) j) then nI (dsT n (Q p)) + 1 else gA h 83 k) (e4 : ∀ k, gA h' 84 k = if k = q then nI (phT n (spT n (Q p) j)) else gA h 84 k) : BfQ h' n (q + 1) (fun i => if i = q then spT n (Q p) j else Q i) ∧ BfP n (q + 1) p (j + 1) (fun i => if i = q then spT n (Q p) j else Q i) ∧ q < 32 * fc n := by
  obtain ⟨p1, p2, p3⟩ := H.1 p hp
  have w1 := (tk_d (n := n) (by omega) p1).1
  have w4 := (tk_d (n := n) (by omega) p1).2.2.2
  obtain ⟨v1, v2, _, v4⟩ := w1 j hj
  have v5 := v4 p3
  have x4 := (tk_d (n := n) (by omega) v2).2.2.2
  have hD : dsT n (spT n (Q p) j) = dsT n (Q p) + 1 := by
    by_cases z : dsT n (spT n (Q p) j) ≤ dsT n (Q p)
    · obtain ⟨i, i1, i2⟩ := Bf_near hn H HP (dsT n (Q p)) (fun i hi y => by
        by_cases g : i < p
        · exact g
        · have := H.2.2.1 p i (by omega) hi
          omega) _ _ rfl z (by omega) v2
      exact absurd i2 (h3 i i1)
    · omega
  have Qq : (fun i => if i = q then spT n (Q p) j else Q i) q = spT n (Q p) j := if_pos rfl
  have Qi : ∀ i, i < q → (fun i => if i = q then spT n (Q p) j else Q i) i = Q i := fun i hi => if_neg (by omega)
  generalize (fun i => if i = q then spT n (Q p) j else Q i) = Q' at *
  have cs : ∀ i, i < q + 1 → i < q ∨ i = q := fun i hi => by omega
  have hB : BfQ h' n (q + 1) Q' := by
    refine ⟨fun i hi => ?_, fun i k hi hk e => ?_, fun i k hik hk => ?_, fun a ha => ?_, by omega, by rw [Qi 0 (by omega)]; exact H.2.2.2.2.2⟩
    · rcases cs i hi with g | g
      · rw [Qi i g, e4, if_neg (by omega)]
        exact H.1 i g
      · rw [g, Qq, e4, if_pos rfl]
        exact ⟨v2, rfl, by omega⟩
    · rcases cs i hi with g | g
      · rcases cs k hk with g2 | g2
        · rw [Qi i g, Qi k g2] at e
          exact H.2.1 i k g g2 e
        · rw [Qi i g, g2, Qq] at e
          exact absurd e (h3 i g)
      · rcases cs k hk with g2 | g2
        · rw [g, Qq, Qi k g2] at e
          exact absurd e.symm (h3 k g2)
        · omega
    · rcases cs k hk with g2 | g2
      · rw [Qi i (by omega), Qi k g2]
        exact H.2.2.1 i k hik g2
      · rcases cs i (by omega) with g | g
        · rw [g2, Qq, Qi i g, hD]
          exact HP.2 hp i g
        · rw [g, g2]
          exact Nat.le_refl _
    · rw [e3]
      by_cases z : a = spT n (Q p) j
      · rw [if_pos (by rw [z])]
        exact Or.inl ⟨by rw [z, hD, nI_1], q, by omega, by rw [Qq, z]⟩
      · rw [if_neg (fun y => z (ph_in hn ha v2 y))]
        rcases H.2.2.2.1 a ha with ⟨u, i, i1, i2⟩ | ⟨u, v⟩
        · exact Or.inl ⟨u, i, by omega, by rw [Qi i i1, i2]⟩
        · refine Or.inr ⟨u, fun i hi => ?_⟩
          rcases cs i hi with g | g
          · rw [Qi i g]; exact v i g
          · rw [g, Qq]; exact fun y => z y.symm
  refine ⟨hB, ⟨fun i u hi hu hc => ?_, fun _ k hk => ?_⟩, by have := hB.le; omega⟩
  · have iq : i < q := by omega
    rw [Qi i iq]
    by_cases g : i = p ∧ u = j
    · rw [g.1, g.2]
      exact ⟨q, by omega, Qq⟩
    · obtain ⟨k, k1, k2⟩ := HP.1 i u iq hu (by omega)
      exact ⟨k, by omega, by rw [Qi k k1, k2]⟩
  · rw [Qi p hp]
    rcases cs k hk with g | g
    · rw [Qi k g]; exact HP.2 hp k g
    · rw [g, Qq, hD]
      exact Nat.le_refl _
def is85 (c : Nat) : Prop := c = 83 ∨ c = 84 ∨ c = 85
section BF
variable (X : XS) (d : Nat) (tx tu gu : Option Nat) (tl : List SC)
theorem k_lf54 {n p : Nat} (hn : n ≤ 5) : ∀ (c j : Nat) (h : DT) (q : Nat) (Q : Nat → Nat), j + c = n → p < q → gA h 73 0 = nI n → BfQ h n q Q → BfP n q p j Q → ∃ h' q' Q', p < q' ∧ BfQ h' n q' Q' ∧ BfP n q' p n Q' ∧ smX is85 h h' ∧ ∀ f, m_X11_layFars X (d + 1) (f + 2 * c + 1) 54 [(0, vP (some 72)), (1, vI (nI q)), (2, vI (nI p)), (3, vI (nI (j + 1)))] [] (SK tx tu gu tl, h) = m_X11_layFars X (d + 1) f 47 [(0, vP (some 72)), (1, vI (nI q')), (2, vI (nI p + 1))] [] (SK tx tu gu tl, h')
  | 0, j, h, q, Q, hj, hp, h0, H, HP => by
    refine ⟨h, q, Q, hp, H, by rwa [show j = n by omega] at HP, smX.rf _ h, fun f => ?_⟩
    rw [Nat.mul_zero, Nat.add_zero, e_X11_layFars_54, h0, if_pos (by rw [ltI (by omega) (by omega)]; omega)]
  | c + 1, j, h, q, Q, hj, hp, h0, H, HP => by
    have hjn : j < n := by omega
    have hfc := (fc_ok n (by omega)).2.2
    have hq := H.le
    obtain ⟨p1, p2, p3⟩ := H.1 p hp
    obtain ⟨v1, v2, _, _⟩ := (tk_d (n := n) (by omega) p1).1 j hjn
    obtain ⟨h1, a1, a2⟩ := k_turned X d tx tu gu tl hn p1 hjn h h0
    have e73 : gA h1 73 0 = nI n := by rw [a2.A (by omega), h0]
    have H1 : BfQ h1 n q Q := H.cg (smA a2 (by omega)) (smA a2 (by omega))
    have q84 : gA h1 84 p = nI (phT n (Q p)) := (H1.1 p hp).2.1
    have l1 := ph_lt hn v2
    have l2 := ph_lt hn p1
    have q83 : gA h1 83 (phT n (Q p)) = nI (dsT n (Q p)) := by
      rcases H1.2.2.2.1 (Q p) p1 with ⟨u, _⟩ | ⟨_, v⟩
      · exact u
      · exact absurd rfl (v p hp)
    rcases H1.2.2.2.1 (spT n (Q p) j) v2 with ⟨u, v⟩ | ⟨u, v⟩
    · obtain ⟨h', q', Q', b1, b2, b3, b4, b5⟩ := k_lf54 hn c (j + 1) h1 q Q (by omega) hp e73 H1 ⟨fun i u hi hu hc => by
        by_cases g : i = p ∧ u = j
        · rw [g.1, g.2]; exact v
        · exact HP.1 i u hi hu (by omega), HP.2⟩
      refine ⟨h', q', Q', b1, b2, b3, smX.tr (a2.mo fun c hc => Or.inr (Or.inr hc)) b4, fun f => ?_⟩
      rw [show f + 2 * (c + 1) + 1 = f + 2 * c + 1 + 1 + 1 by omega, e_X11_layFars_54, h0, if_neg (by rw [ltI (by omega) (by omega)]; omega), inbI (by omega) (by omega), p2, a1, bI_s, e_X11_layFars_75, inbI l1 (by omega), if_neg (by rw [u]; exact nI_n1 (by have := ds_lt n (spT n (Q p) j); omega)), nI_1]
      exact b5 f
    · obtain ⟨c1, c2, c3⟩ := Bf_add (h' := sA (sA h1 83 (phT n (spT n (Q p) j)) (nI (dsT n (Q p)) + 1)) 84 q (nI (phT n (spT n (Q p) j)))) hn H1 HP hp hjn v (fun k => by
        rw [gA_sA, if_neg (by omega), gA_sA]
        by_cases z : k = phT n (spT n (Q p) j)
        · rw [if_pos ⟨rfl, z⟩, if_pos z]
        · rw [if_neg (fun y => z y.2), if_neg z]) (fun k => by
        rw [gA_sA]
        by_cases z : k = q
        · rw [if_pos ⟨rfl, z⟩, if_pos z]
        · rw [if_neg (fun y => z y.2), if_neg z, gA_sA, if_neg (by omega)])
      obtain ⟨h', q', Q', b1, b2, b3, b4, b5⟩ := k_lf54 hn c (j + 1) _ (q + 1) _ (by omega) (by omega) (by rw [gA_sA, if_neg (by omega), gA_sA, if_neg (by omega), e73]) c1 c2
      refine ⟨h', q', Q', b1, b2, b3, smX.tr (smX.tr (a2.mo fun c hc => Or.inr (Or.inr hc)) (smX.tr (smX_sA (Or.inl rfl)) (smX_sA (Or.inr (Or.inl rfl))))) b4, fun f => ?_⟩
      rw [show f + 2 * (c + 1) + 1 = f + 2 * c + 1 + 1 + 1 by omega, e_X11_layFars_54, h0, if_neg (by rw [ltI (by omega) (by omega)]; omega), inbI (by omega) (by omega), p2, a1, bI_s, e_X11_layFars_75, inbI l1 (by omega), if_pos u, inbI (by omega) (by omega), q84, inbI l2 (by omega), inbI l1 (by omega), inbI (by omega) (by omega), q83, nI_1 (a := q), nI_1 (a := j + 1)]
      exact b5 f
end BF
