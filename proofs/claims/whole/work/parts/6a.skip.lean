/-! TOKENS: skipping -/
def CB (h : DT) (B : Nat → Nat) (L : Nat) : Prop := gF h 38 0 = nI L ∧ L ≤ 300 ∧ ∀ p, p < L → gA h 39 p = nI (B p) ∧ B p < 256
def KB (h : DT) (B : Nat → Nat) (L : Nat) : Prop := gF h 72 4 = nI L ∧ L ≤ 300 ∧ ∀ p, p < L → gA h 76 p = nI (B p) ∧ B p < 256
theorem TP.cb {h : DT} {L : Nat} (H : TP h L) : ∃ B, CB h B L ∧ KB h B L := by
  obtain ⟨t1, t2, t3, t4⟩ := H
  have hv : ∀ j, j < L → gA h 76 j = nI (gA h 76 j).toNatClampNeg ∧ (gA h 76 j).toNatClampNeg < 256 := fun j hj => by
    obtain ⟨v, v1, v2⟩ := (t4 j hj).2
    rw [v2, clI (by omega)]
    exact ⟨rfl, v1⟩
  exact ⟨fun j => (gA h 76 j).toNatClampNeg, ⟨t1, t3, fun p hp => ⟨(t4 p hp).1.trans (hv p hp).1, (hv p hp).2⟩⟩, t2, t3, hv⟩
theorem CB.cg {h h' : DT} {B : Nat → Nat} {L : Nat} (H : CB h B L) (e0 : gF h' 38 0 = gF h 38 0) (e : gA h' 39 = gA h 39) : CB h' B L := by
  unfold CB
  rw [e0, e]
  exact H
theorem KB.cg {h h' : DT} {B : Nat → Nat} {L : Nat} (H : KB h B L) (e0 : gF h' 72 4 = gF h 72 4) (e : gA h' 76 = gA h 76) : KB h' B L := by
  unfold KB
  rw [e0, e]
  exact H
theorem tF_s (h : DT) (c k m : Nat) : tF h (sF h c k (nI m)) c k m := ⟨by rw [gF_sF, if_pos ⟨rfl, rfl⟩], fun q hq => by rw [gF_sF, if_neg (fun z => hq z.2)]⟩
section TS
variable (X : XS) (d t : Nat) (tu gu : Option Nat) (tl : List SC)
theorem x_skp (ht : t = 52 ∨ t = 57 ∨ t = 62 ∨ t = 67) {B : Nat → Nat} {L : Nat} : ∀ (c p : Nat) (h : DT), p + c = L → CB h B L → gF h 38 8 = nI p → ∃ h', (∀ F f, F + c + 1 ≤ f → ∃ f', F ≤ f' ∧ m_X4_advance X d f 8 [(0, vP (some 38))] [] (SK (some t) tu gu tl, h) = m_X4_advance X d f' 60 [(0, vP (some 38))] [] (SK (some t) tu gu tl, h')) ∧ tF h h' 38 8 (skp B L c p) ∧ smX (fun c => c = 38) h h'
  | 0, p, h, hp, H, h8 => by
    refine ⟨h, fun F f hf => ?_, ⟨h8, fun _ _ => rfl⟩, smX.rf _ h⟩
    obtain ⟨f, rfl⟩ : ∃ g, f = g + 1 := ⟨f - 1, by omega⟩
    have := H.2.1
    refine ⟨f, by omega, ?_⟩
    rw [e_X4_advance_8 (ht := ht), H.1, h8, if_pos (nI_le (by omega) (by omega))]
  | c + 1, p, h, hp, H, h8 => by
    have hl := H.2.1
    obtain ⟨b1, b2⟩ := H.2.2 p (by omega)
    have e32 : (nI (B p) = 32) = (B p = 32) := propext (nI_eq (a := B p) (b := 32) (by omega) (by omega))
    have e10 : (nI (B p) = 10) = (B p = 10) := propext (nI_eq (a := B p) (b := 10) (by omega) (by omega))
    unfold skp
    by_cases z : B p = 32 ∨ B p = 10
    · have hb : (decide (p < L) && blkB (B p)) = true := by
        rw [decide_eq_true (show p < L by omega)]
        unfold blkB
        rcases z with z | z <;> simp [z]
      obtain ⟨h', k1, k2, k3⟩ := x_skp ht c (p + 1) (sF h 38 8 (nI (p + 1))) (by omega) (H.cg (by rw [gF_sF, if_neg (by omega)]) rfl) (tF_s h 38 8 (p + 1)).1
      rw [hb, cond_true]
      refine ⟨h', fun F f hf => ?_, (tF_s h 38 8 (p + 1)).tr k2, smX.tr (smX_sF rfl) k3⟩
      obtain ⟨f, rfl⟩ : ∃ g, f = g + 1 := ⟨f - 1, by omega⟩
      obtain ⟨f', g1, g2⟩ := k1 F f (by omega)
      refine ⟨f', g1, ?_⟩
      rw [e_X4_advance_8 (ht := ht), H.1, h8, if_neg (nI_ge (by omega) (by omega)), inbI (by omega) (by omega), b1]
      by_cases y : B p = 32
      · rw [if_pos (e32.mpr y), nI_1]
        exact g2
      · rw [if_neg (fun q => y (e32.mp q)), inbI (by omega) (by omega), b1, if_pos (e10.mpr (by omega)), nI_1]
        exact g2
    · have hb : (decide (p < L) && blkB (B p)) = false := by
        unfold blkB
        rw [decide_eq_false (show ¬ B p = 32 by omega), decide_eq_false (show ¬ B p = 10 by omega), Bool.or_false, Bool.and_false]
      rw [hb, cond_false]
      refine ⟨h, fun F f hf => ?_, ⟨h8, fun _ _ => rfl⟩, smX.rf _ h⟩
      obtain ⟨f, rfl⟩ : ∃ g, f = g + 1 := ⟨f - 1, by omega⟩
      refine ⟨f, by omega, ?_⟩
      rw [e_X4_advance_8 (ht := ht), H.1, h8, if_neg (nI_ge (by omega) (by omega)), inbI (by omega) (by omega), b1, if_neg (fun q => z (Or.inl (e32.mp q))), inbI (by omega) (by omega), b1, if_neg (fun q => z (Or.inr (e10.mp q)))]
end TS
section TU
variable (X : XS) (d : Nat) (tx tu gu : Option Nat) (tl : List SC)
/-- the byte at a place, or -1 behind the end -/
def atB (B : Nat → Nat) (L p : Nat) : Int32 := if p < L then nI (B p) else -1
theorem k_at {B : Nat → Nat} {L p : Nat} (h : DT) (H : KB h B L) (hp : p ≤ 1000) : cal X (d + 1) 179 [vP (some 72), vI (nI p)] (SK tx tu gu tl, h) = some (some (vI (atB B L p)), (SK tx tu gu tl, h)) := by
  unfold atB
  by_cases z : p < L
  · rw [if_pos z, k_byte X d tx tu gu tl h H.1 H.2.1 z, (H.2.2 p z).1]
  · rw [if_neg z, k_byte1 X d tx tu gu tl h H.1 H.2.1 (by omega) hp]
theorem k_skp {B : Nat → Nat} {L : Nat} : ∀ (c p : Nat) (h : DT), p + c = L → KB h B L → gF h 72 7 = nI p → ∃ h', (∀ F f, F + 3 * c + 3 ≤ f → ∃ f', F ≤ f' ∧ m_X11_nextToken X (d + 1) f 0 [(0, vP (some 72))] [] (SK tx tu gu tl, h) = m_X11_nextToken X (d + 1) f' 55 [(0, vP (some 72))] [vI (atB B L (skp B L c p))] (SK tx tu gu tl, h')) ∧ gF h' 72 7 = nI (skp B L c p) ∧ gF h' 72 8 = nI (skp B L c p) ∧ (∀ q, q ≠ 7 → q ≠ 8 → gF h' 72 q = gF h 72 q) ∧ smX (fun c => c = 72) h h' := by
  have stop : ∀ (p : Nat) (h : DT), p ≤ L → KB h B L → gF h 72 7 = nI p → atB B L p ≠ 32 → atB B L p ≠ 10 → ∃ h', (∀ F f, F + 3 ≤ f → ∃ f', F ≤ f' ∧ m_X11_nextToken X (d + 1) f 0 [(0, vP (some 72))] [] (SK tx tu gu tl, h) = m_X11_nextToken X (d + 1) f' 55 [(0, vP (some 72))] [vI (atB B L p)] (SK tx tu gu tl, h')) ∧ gF h' 72 7 = nI p ∧ gF h' 72 8 = nI p ∧ (∀ q, q ≠ 7 → q ≠ 8 → gF h' 72 q = gF h 72 q) ∧ smX (fun c => c = 72) h h' := by
    intro p h hp H h7 n1 n2
    have hl := H.2.1
    refine ⟨sF h 72 8 (nI p), fun F f hf => ?_, ?_, (tF_s h 72 8 p).1, fun q _ h8 => (tF_s h 72 8 p).2 q h8, smX_sF rfl⟩
    · obtain ⟨f, rfl⟩ : ∃ g, f = g + 3 := ⟨f - 3, by omega⟩
      refine ⟨f, by omega, ?_⟩
      rw [e_X11_nextToken_0, h7, k_at X d tx tu gu tl h H (by omega), bI_s, e_X11_nextToken_8, if_neg n1, h7, k_at X d tx tu gu tl h H (by omega), bI_s, e_X11_nextToken_21, if_neg n2, h7, k_at X d tx tu gu tl (sF h 72 8 (nI p)) (H.cg (by rw [gF_sF, if_neg (by omega)]) rfl) (by omega), bI_s]
    · rw [gF_sF, if_neg (by omega)]
      exact h7
  intro c
  induction c with
  | zero =>
    intro p h hp H h7
    have ha : atB B L p = -1 := by unfold atB; rw [if_neg (by omega)]
    exact stop p h (by omega) H h7 (by rw [ha]; decide) (by rw [ha]; decide)
  | succ c ih =>
    intro p h hp H h7
    have hl := H.2.1
    obtain ⟨b1, b2⟩ := H.2.2 p (by omega)
    have ha : atB B L p = nI (B p) := by unfold atB; rw [if_pos (by omega)]
    have e32 : (nI (B p) = 32) = (B p = 32) := propext (nI_eq (a := B p) (b := 32) (by omega) (by omega))
    have e10 : (nI (B p) = 10) = (B p = 10) := propext (nI_eq (a := B p) (b := 10) (by omega) (by omega))
    unfold skp
    by_cases z : B p = 32 ∨ B p = 10
    · have hb : (decide (p < L) && blkB (B p)) = true := by
        rw [decide_eq_true (show p < L by omega)]
        unfold blkB
        rcases z with z | z <;> simp [z]
      obtain ⟨h', k1, k2, k3, k4, k5⟩ := ih (p + 1) (sF h 72 7 (nI (p + 1))) (by omega) (H.cg (by rw [gF_sF, if_neg (by omega)]) rfl) (tF_s h 72 7 (p + 1)).1
      rw [hb, cond_true]
      refine ⟨h', fun F f hf => ?_, k2, k3, fun q h1 h2 => (k4 q h1 h2).trans ((tF_s h 72 7 (p + 1)).2 q h1), smX.tr (smX_sF rfl) k5⟩
      obtain ⟨f, rfl⟩ : ∃ g, f = g + 3 := ⟨f - 3, by omega⟩
      rw [e_X11_nextToken_0, h7, k_at X d tx tu gu tl h H (by omega), bI_s, e_X11_nextToken_8, ha]
      by_cases y : B p = 32
      · rw [if_pos (e32.mpr y), h7, nI_1]
        exact k1 F (f + 1) (by omega)
      · rw [if_neg (fun q => y (e32.mp q)), h7, k_at X d tx tu gu tl h H (by omega), bI_s, e_X11_nextToken_21, ha, if_pos (e10.mpr (by omega)), h7, nI_1]
        exact k1 F f (by omega)
    · have hb : (decide (p < L) && blkB (B p)) = false := by
        unfold blkB
        rw [decide_eq_false (show ¬ B p = 32 by omega), decide_eq_false (show ¬ B p = 10 by omega), Bool.or_false, Bool.and_false]
      rw [hb, cond_false]
      obtain ⟨h', k1, k2⟩ := stop p h (by omega) H h7 (by rw [ha]; exact fun q => z (Or.inl (e32.mp q))) (by rw [ha]; exact fun q => z (Or.inr (e10.mp q)))
      exact ⟨h', fun F f hf => k1 F f (by omega), k2⟩
end TU
