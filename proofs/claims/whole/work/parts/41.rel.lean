/-! WHAT HOLDS BETWEEN the class's cells and the reference's row of numbers A -/
def XRow (h : DT) (p : Nat) (A : Nat → Int32) : Prop :=
  gF h p 0 = A 0 ∧ gF h p 1 = A 10 ∧ gF h p 2 = A 9 ∧ gF h p 3 = A 7 ∧ gF h p 4 = A 8 ∧ gF h p 5 = A 11 ∧
  (∀ i, i < 5 → gA h (p + 1) i = A (12 + i)) ∧ (∀ i, i < 5 → gA h (p + 2) i = A (22 + i)) ∧ (∀ i, i < 5 → gA h (p + 3) i = A (27 + i)) ∧
  (∀ i, i < 5 → gA h (p + 4) i = A (17 + i)) ∧ (∀ i, i < 30 → gA h (p + 5) i = A (1456 + i))
def XTold (h : DT) (t : Nat) (A : Nat → Int32) : Prop :=
  gF h t 0 = A 1 ∧ gF h t 1 = A 2 ∧ gF h t 2 = A 37 ∧ gF h t 3 = A 4 ∧ gF h t 4 = A 5 ∧ gF h t 5 = A 6 ∧
  (∀ i, i < 5 → gA h (t + 1) i = A (32 + i)) ∧ (∀ i, i < 10 → gA h (t + 2) i = A (38 + i)) ∧ (∀ i, i < 6 → gA h (t + 3) i = A (48 + 2 * i)) ∧
  (∀ i, i < 6 → gA h (t + 4) i = A (49 + 2 * i)) ∧ (∀ i, i < 8 → gA h (t + 5) i = A (60 + 2 * i)) ∧ (∀ i, i < 8 → gA h (t + 6) i = A (61 + 2 * i))
/-- where a number of a kept row lies in the class's -/
def pxI (i : Nat) : Nat := if i = 1 then 3 else if i = 2 then 4 else if i = 3 then 2 else if i = 4 then 1 else i
def XSteps (h : DT) (s : Nat) (A : Nat → Int32) (k : Nat) : Prop :=
  gF h s 0 = A 3 ∧ ∃ e, e < 30 ∧ gF h s 1 = nI e ∧ ∀ j i, j < k → i < 46 → gA h (s + 1) ((e + j) % 30 * 46 + pxI i) = A (76 + 46 * j + i)
/-- a row as it is or was kept, from the place b on (year, x, wind, props, written, slants, sitters), of n people -/
def RowOk (A : Nat → Int32) (b n : Nat) : Prop := n ≤ 5 ∧
  (∃ y, y ≤ 9999 ∧ A b = nI y) ∧ (∃ x, x < 30809 ∧ A (b + 1) = nI x) ∧ stp9 (A (b + 2)) ∧ (∃ q, q < 32 ∧ A (b + 3) = nI q) ∧ (∃ k, k ≤ 30 ∧ A (b + 4) = nI k) ∧
  (∀ i, i < 5 → stp9 (A (b + 5 + i))) ∧ (∀ i, n ≤ i → i < 5 → A (b + 5 + i) = 0 ∧ A (b + 10 + i) = 0) ∧
  (∀ s, s < n → ∃ p, p < n ∧ A (b + 10 + s) = nI p) ∧ (∀ p, p < n → ∃ s, s < n ∧ A (b + 10 + s) = nI p)
def PplOk (A : Nat → Int32) (n : Nat) : Prop :=
  A 0 = nI n ∧ n ≤ 5 ∧ (∀ i, i < n → ∃ v, 1 ≤ v ∧ v ≤ 9 ∧ A (22 + i) = nI v) ∧ (∀ i, i < n → stp9 (A (27 + i))) ∧ (∀ i, i < 5 → stp9 (A (32 + i))) ∧ ∃ b, b < 32 ∧ A 37 = nI b
def TxtOk (A : Nat → Int32) (t : Nat) : Prop := A 1 = nI t ∧ t ≤ 4 ∧ (A 2 = -1 ∨ ∃ r, r < t ∧ A 2 = nI r)
def StpOk (A : Nat → Int32) (n k : Nat) : Prop := A 3 = nI k ∧ k ≤ 30 ∧ ∀ j, j < k → ∃ m, m ≤ n ∧ A (76 + 46 * j) = nI m ∧ RowOk A (77 + 46 * j) m
def WrdOk (A : Nat → Int32) (w : Nat) : Prop := A 4 = nI w ∧ w ≤ 10 ∧ ∀ i, i < w → ∃ v, 1 ≤ v ∧ v ≤ 20 ∧ A (38 + i) = nI v
def HrdOk (A : Nat → Int32) (n q : Nat) : Prop := A 5 = nI q ∧ q ≤ 6 ∧ ∀ i, i < q → (∃ p, p < n ∧ A (48 + 2 * i) = nI p) ∧ ∃ z : Int, -999 ≤ z ∧ z ≤ 999 ∧ A (49 + 2 * i) = zI z
def SadOk (A : Nat → Int32) (n s : Nat) : Prop := A 6 = nI s ∧ s ≤ 8 ∧ ∀ i, i < s → (∃ p, p < n ∧ A (60 + 2 * i) = nI p) ∧ stp9 (A (61 + 2 * i))
def Inv (A : Nat → Int32) (n t k : Nat) : Prop := PplOk A n ∧ TxtOk A t ∧ StpOk A n k ∧ RowOk A 7 n ∧ (∃ w, WrdOk A w) ∧ (∃ q, HrdOk A n q) ∧ ∃ s, SadOk A n s
/-- a set of the numbers' places stays -/
def agrA (P : Nat → Prop) (A B : Nat → Int32) : Prop := ∀ i, P i → B i = A i
theorem RowOk.cg {A B : Nat → Int32} {b c n : Nat} (H : RowOk A b n) (e : ∀ i, i < 15 → B (c + i) = A (b + i)) : RowOk B c n := by
  obtain ⟨h0, h1, h2, h3, h4, h5, h6, h7, h8, h9⟩ := H
  have e0 := e 0 (by omega)
  simp only [Nat.add_zero] at e0
  have f5 : ∀ i, i < 5 → B (c + 5 + i) = A (b + 5 + i) := fun i hi => by
    have := e (5 + i) (by omega)
    simpa only [Nat.add_assoc] using this
  have f10 : ∀ i, i < 5 → B (c + 10 + i) = A (b + 10 + i) := fun i hi => by
    have := e (10 + i) (by omega)
    simpa only [Nat.add_assoc] using this
  refine ⟨h0, ?_, ?_, ?_, ?_, ?_, ?_, ?_, ?_, ?_⟩
  · rw [e0]; exact h1
  · rw [e 1 (by omega)]; exact h2
  · rw [e 2 (by omega)]; exact h3
  · rw [e 3 (by omega)]; exact h4
  · rw [e 4 (by omega)]; exact h5
  · intro i hi; rw [f5 i hi]; exact h6 i hi
  · intro i h1 hi; rw [f5 i hi, f10 i hi]; exact h7 i h1 hi
  · intro s hs
    rw [f10 s (by omega)]
    exact h8 s hs
  · intro p hp
    obtain ⟨s, hs, q⟩ := h9 p hp
    exact ⟨s, hs, by rw [f10 s (by omega)]; exact q⟩
theorem PplOk.cg {A B : Nat → Int32} {n : Nat} (H : PplOk A n) (e0 : B 0 = A 0) (e : ∀ i, 22 ≤ i → i ≤ 37 → B i = A i) : PplOk B n := by
  obtain ⟨h0, h1, h2, h3, h4, h5⟩ := H
  refine ⟨e0.trans h0, h1, fun i hi => ?_, fun i hi => ?_, fun i hi => ?_, ?_⟩
  · rw [e _ (by omega) (by omega)]; exact h2 i hi
  · rw [e _ (by omega) (by omega)]; exact h3 i hi
  · rw [e _ (by omega) (by omega)]; exact h4 i hi
  · rw [e _ (by omega) (by omega)]; exact h5
theorem StpOk.cg {A B : Nat → Int32} {n m k : Nat} (H : StpOk A n k) (hm : n ≤ m) (e3 : B 3 = A 3) (e : ∀ i, 76 ≤ i → i < 1456 → B i = A i) : StpOk B m k := by
  obtain ⟨h0, h1, h2⟩ := H
  refine ⟨e3.trans h0, h1, fun j hj => ?_⟩
  obtain ⟨q, hq, e0, hr⟩ := h2 j hj
  exact ⟨q, by omega, by rw [e _ (by omega) (by omega)]; exact e0, hr.cg (fun i hi => e _ (by omega) (by omega))⟩
theorem WrdOk.cg {A B : Nat → Int32} {w : Nat} (H : WrdOk A w) (e4 : B 4 = A 4) (e : ∀ i, 38 ≤ i → i < 48 → B i = A i) : WrdOk B w := by
  obtain ⟨h0, h1, h2⟩ := H
  exact ⟨e4.trans h0, h1, fun i hi => by rw [e _ (by omega) (by omega)]; exact h2 i hi⟩
theorem HrdOk.cg {A B : Nat → Int32} {n m q : Nat} (H : HrdOk A n q) (hm : n ≤ m) (e4 : B 5 = A 5) (e : ∀ i, 48 ≤ i → i < 60 → B i = A i) : HrdOk B m q := by
  obtain ⟨h0, h1, h2⟩ := H
  refine ⟨e4.trans h0, h1, fun i hi => ?_⟩
  obtain ⟨⟨p, hp, e1⟩, h3⟩ := h2 i hi
  exact ⟨⟨p, by omega, by rw [e _ (by omega) (by omega)]; exact e1⟩, by rw [e _ (by omega) (by omega)]; exact h3⟩
theorem SadOk.cg {A B : Nat → Int32} {n m q : Nat} (H : SadOk A n q) (hm : n ≤ m) (e4 : B 6 = A 6) (e : ∀ i, 60 ≤ i → i < 76 → B i = A i) : SadOk B m q := by
  obtain ⟨h0, h1, h2⟩ := H
  refine ⟨e4.trans h0, h1, fun i hi => ?_⟩
  obtain ⟨⟨p, hp, e1⟩, h3⟩ := h2 i hi
  exact ⟨⟨p, by omega, by rw [e _ (by omega) (by omega)]; exact e1⟩, by rw [e _ (by omega) (by omega)]; exact h3⟩
theorem TxtOk.cg {A B : Nat → Int32} {t : Nat} (H : TxtOk A t) (e1 : B 1 = A 1) (e2 : B 2 = A 2) : TxtOk B t := by
  rw [TxtOk, e1, e2]; exact H
/-- all of what is held of the class's row, steps and what was told -/
def RA (h : DT) (A : Nat → Int32) (n t k : Nat) : Prop := Inv A n t k ∧ XRow h 1 A ∧ XSteps h 7 A k ∧ XTold h 9 A
/-- cells of the class that most calls may change -/
def isXa (c : Nat) : Prop := 1 ≤ c ∧ c ≤ 15 ∨ 31 ≤ c ∧ c ≤ 36 ∨ c = 40 ∨ 42 ≤ c ∧ c ≤ 51
/-- these, or the class's names of laws -/
def isXl (c : Nat) : Prop := isXa c ∨ c = 41
/-- names of laws are small numbers -/
def NmA (h : DT) (c : Nat) : Prop := ∀ k, k < 9 → ∃ z : Int, -1000000 ≤ z ∧ z ≤ 1000000 ∧ gA h c k = zI z
theorem XRow.cg {h h' : DT} {p : Nat} {A : Nat → Int32} (H : XRow h p A) (e : ∀ c, p ≤ c → c ≤ p + 5 → gF h' c = gF h c ∧ gA h' c = gA h c) : XRow h' p A := by
  rw [XRow, (e p (by omega) (by omega)).1, (e (p + 1) (by omega) (by omega)).2, (e (p + 2) (by omega) (by omega)).2, (e (p + 3) (by omega) (by omega)).2, (e (p + 4) (by omega) (by omega)).2, (e (p + 5) (by omega) (by omega)).2]
  exact H
theorem XTold.cg {h h' : DT} {p : Nat} {A : Nat → Int32} (H : XTold h p A) (e : ∀ c, p ≤ c → c ≤ p + 6 → gF h' c = gF h c ∧ gA h' c = gA h c) : XTold h' p A := by
  rw [XTold, (e p (by omega) (by omega)).1, (e (p + 1) (by omega) (by omega)).2, (e (p + 2) (by omega) (by omega)).2, (e (p + 3) (by omega) (by omega)).2, (e (p + 4) (by omega) (by omega)).2, (e (p + 5) (by omega) (by omega)).2, (e (p + 6) (by omega) (by omega)).2]
  exact H
theorem XSteps.cg {h h' : DT} {p k : Nat} {A : Nat → Int32} (H : XSteps h p A k) (e : ∀ c, p ≤ c → c ≤ p + 1 → gF h' c = gF h c ∧ gA h' c = gA h c) : XSteps h' p A k := by
  rw [XSteps, (e p (by omega) (by omega)).1, (e (p + 1) (by omega) (by omega)).2]
  exact H
theorem XRow.cA {h : DT} {p : Nat} {A B : Nat → Int32} (H : XRow h p A) (e0 : B 0 = A 0) (e : ∀ i, 7 ≤ i → i < 32 → B i = A i) (e2 : ∀ i, 1456 ≤ i → i < 1486 → B i = A i) : XRow h p B := by
  obtain ⟨h0, h1, h2, h3, h4, h5, h6, h7, h8, h9, h10⟩ := H
  refine ⟨e0 ▸ h0, ?_, ?_, ?_, ?_, ?_, fun i hi => ?_, fun i hi => ?_, fun i hi => ?_, fun i hi => ?_, fun i hi => ?_⟩
  · rw [e 10 (by omega) (by omega)]; exact h1
  · rw [e 9 (by omega) (by omega)]; exact h2
  · rw [e 7 (by omega) (by omega)]; exact h3
  · rw [e 8 (by omega) (by omega)]; exact h4
  · rw [e 11 (by omega) (by omega)]; exact h5
  · rw [e _ (by omega) (by omega)]; exact h6 i hi
  · rw [e _ (by omega) (by omega)]; exact h7 i hi
  · rw [e _ (by omega) (by omega)]; exact h8 i hi
  · rw [e _ (by omega) (by omega)]; exact h9 i hi
  · rw [e2 _ (by omega) (by omega)]; exact h10 i hi
theorem XTold.cA {h : DT} {p : Nat} {A B : Nat → Int32} (H : XTold h p A) (e : ∀ i, (1 ≤ i ∧ i ≤ 6 ∧ i ≠ 3) ∨ (32 ≤ i ∧ i < 76) → B i = A i) : XTold h p B := by
  obtain ⟨h0, h1, h2, h3, h4, h5, h6, h7, h8, h9, h10, h11⟩ := H
  refine ⟨?_, ?_, ?_, ?_, ?_, ?_, fun i hi => ?_, fun i hi => ?_, fun i hi => ?_, fun i hi => ?_, fun i hi => ?_, fun i hi => ?_⟩
  · rw [e _ (by omega)]; exact h0
  · rw [e _ (by omega)]; exact h1
  · rw [e _ (by omega)]; exact h2
  · rw [e _ (by omega)]; exact h3
  · rw [e _ (by omega)]; exact h4
  · rw [e _ (by omega)]; exact h5
  · rw [e _ (by omega)]; exact h6 i hi
  · rw [e _ (by omega)]; exact h7 i hi
  · rw [e _ (by omega)]; exact h8 i hi
  · rw [e _ (by omega)]; exact h9 i hi
  · rw [e _ (by omega)]; exact h10 i hi
  · rw [e _ (by omega)]; exact h11 i hi
theorem XSteps.cA {h : DT} {p k : Nat} {A B : Nat → Int32} (H : XSteps h p A k) (e3 : B 3 = A 3) (e : ∀ i, 76 ≤ i → i < 76 + 46 * k → B i = A i) : XSteps h p B k := by
  obtain ⟨h0, q, h1, h2, h3⟩ := H
  refine ⟨e3 ▸ h0, q, h1, h2, fun j i hj hi => ?_⟩
  rw [e _ (by omega) (by omega)]
  exact h3 j i hj hi
/-- a call of both, over the row, the steps and what was told -/
def OpA (X : XS) (tx tu gu : Option Nat) (tl : List SC) (h : DT) (n t k yx : Nat) (ax : List AV) (ym : Nat) (am : List AV) : Prop :=
  ∃ v h1 h2 n' k', cal X 100 yx ax (SK tx tu gu tl, h) = some (some v, (SK tx tu gu tl, h1)) ∧ cal X 100 ym am (SK tx tu gu tl, h1) = some (some v, (SK tx tu gu tl, h2)) ∧
    smX isXl h h1 ∧ mSame h1 h2 ∧ RA h1 (gA h2 73) n' t k' ∧ (NmA h 41 → NmA h1 41) ∧ (NmA h1 78 → NmA h2 78)
/-- a call of both that changes nothing -/
theorem OpA_id {X : XS} {tx tu gu : Option Nat} {tl : List SC} {h : DT} {n t k yx : Nat} {ax : List AV} {ym : Nat} {am : List AV} {v : AV} (H : RA h (gA h 73) n t k) (e1 : cal X 100 yx ax (SK tx tu gu tl, h) = some (some v, (SK tx tu gu tl, h))) (e2 : cal X 100 ym am (SK tx tu gu tl, h) = some (some v, (SK tx tu gu tl, h))) : OpA X tx tu gu tl h n t k yx ax ym am :=
  ⟨v, h, h, n, k, e1, e2, smX.rf _ h, mSame.rf h, H, id, id⟩
/-- a call of both whose reference changes its row of numbers alone -/
theorem OpA_w {X : XS} {tx tu gu : Option Nat} {tl : List SC} {h h1 : DT} {n t k yx : Nat} {ax : List AV} {ym : Nat} {am : List AV} {v : AV} {B : Nat → Int32} {n' k' : Nat} (e1 : cal X 100 yx ax (SK tx tu gu tl, h) = some (some v, (SK tx tu gu tl, h1))) (hs : smX isXa h h1) (e2 : cal X 100 ym am (SK tx tu gu tl, h1) = some (some v, (SK tx tu gu tl, wA h1 73 B))) (H : RA h1 B n' t k') : OpA X tx tu gu tl h n t k yx ax ym am :=
  ⟨v, h1, _, n', k', e1, e2, hs.mo (fun c hc => Or.inl hc), mSame_wA (Or.inl rfl), by rw [gA_wA']; exact H, fun q k hk => by rw [smA hs (by unfold isXa; omega)]; exact q k hk, fun q k hk => by rw [gA_wA, if_neg (by omega)]; exact q k hk⟩
