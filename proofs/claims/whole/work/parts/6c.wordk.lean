/-! TOKENS: the reference's words and numbers -/
def nmK (B : Nat → Nat) (L : Nat) : Nat → Nat → Nat → Nat
  | 0, _, v => v
  | c + 1, p, v => bif decide (p < L) && digB (B p) then nmK B L c (p + 1) (if v ≤ 99999 then 10 * v + B p - 48 else v) else v
theorem nm_rel {B : Nat → Nat} {L : Nat} : ∀ (c p v w : Nat), (v < 10000 → w = v) → (10000 ≤ v → w = 10000) → (nmK B L c p v < 10000 → nmC B L c p w = nmK B L c p v) ∧ (10000 ≤ nmK B L c p v → nmC B L c p w = 10000)
  | 0, p, v, w, h1, h2 => ⟨h1, h2⟩
  | c + 1, p, v, w, h1, h2 => by
    unfold nmK nmC
    cases hb : decide (p < L) && digB (B p) with
    | false => exact ⟨h1, h2⟩
    | true =>
      rw [cond_true, cond_true]
      obtain ⟨g1, g2⟩ := dig_ge ((Bool.and_eq_true _ _ ▸ hb).2)
      refine nm_rel c (p + 1) _ _ (fun z => ?_) (fun z => ?_)
      · by_cases y : v < 10000
        · have e := h1 y
          subst e
          rw [if_pos (show w ≤ 99999 by omega)] at z ⊢
          rw [if_pos (by omega)]
          omega
        · split at z <;> omega
      · by_cases y : v < 10000
        · have e := h1 y
          subst e
          rw [if_pos (show w ≤ 99999 by omega)] at z
          rw [if_neg (by omega)]
        · have e := h2 (by omega)
          rw [e, if_neg (by omega)]
def wdL (B : Nat → Nat) (L : Nat) : Nat → Nat → Int64 → Int64
  | 0, _, w => w
  | c + 1, p, w => bif decide (p < L) && letB (B p) then wdL B L c (p + 1) (if lg_cmp (w >>> ((48 : Int32).toInt64 &&& 63)) 0 = 0 then (w <<< ((8 : Int32).toInt64 &&& 63)) ||| (nI (B p)).toInt64 else 1152921504606846976) else w
section TX
variable (X : XS) (d : Nat) (tx tu gu : Option Nat) (tl : List SC)
theorem k_nm {B : Nat → Nat} {L : Nat} : ∀ (c p v : Nat) (h : DT), p + c = L → v ≤ 1000000 → KB h B L → gF h 72 7 = nI p → gF h 72 10 = nI v → ∃ h', (∀ f, 3 * c + 2 ≤ f → m_X11_nextToken X (d + 1) f 85 [(0, vP (some 72))] [] (SK tx tu gu tl, h) = some (none, (SK tx tu gu tl, h'))) ∧ gF h' 72 7 = nI (nmE B L c p) ∧ gF h' 72 10 = nI (nmK B L c p v) ∧ (∀ q, q ≠ 7 → q ≠ 10 → gF h' 72 q = gF h 72 q) ∧ smX (fun c => c = 72) h h'
  | 0, p, v, h, hp, hv, H, h7, h10 => by
    refine ⟨h, fun f hf => ?_, h7, h10, fun _ _ _ => rfl, smX.rf _ h⟩
    obtain ⟨f, rfl⟩ : ∃ g, f = g + 2 := ⟨f - 2, by omega⟩
    have := H.2.1
    rw [e_X11_nextToken_85, h7, k_at X d tx tu gu tl h H (by omega), bI_s, show atB B L p = -1 by unfold atB; rw [if_neg (by omega)], k_dig1 X d tx tu gu tl h, bI_s, e_X11_nextToken_96, if_pos rfl]
  | c + 1, p, v, h, hp, hv, H, h7, h10 => by
    have hl := H.2.1
    obtain ⟨b1, b2⟩ := H.2.2 p (by omega)
    have ha : atB B L p = nI (B p) := by unfold atB; rw [if_pos (by omega)]
    unfold nmE nmK
    rw [decide_eq_true (show p < L by omega), Bool.true_and]
    cases hb : digB (B p) with
    | true =>
      obtain ⟨g1, g2⟩ := dig_ge hb
      obtain ⟨h', k1, k2, k3, k4, k5⟩ := k_nm c (p + 1) (if v ≤ 99999 then 10 * v + B p - 48 else v) (sF (sF h 72 10 (nI (if v ≤ 99999 then 10 * v + B p - 48 else v))) 72 7 (nI (p + 1))) (by omega) (by split <;> omega) (H.cg (by rw [gF_sF, if_neg (by omega), gF_sF, if_neg (by omega)]) rfl) (by rw [gF_sF, if_pos ⟨rfl, rfl⟩]) (by rw [gF_sF, if_neg (by omega), gF_sF, if_pos ⟨rfl, rfl⟩])
      rw [cond_true, cond_true]
      refine ⟨h', fun f hf => ?_, k2, k3, fun q q1 q2 => ?_, smX.tr (smX.tr (smX_sF rfl) (smX_sF rfl)) k5⟩
      · obtain ⟨f, rfl⟩ : ∃ g, f = g + 3 := ⟨f - 3, by omega⟩
        rw [e_X11_nextToken_85, h7, k_at X d tx tu gu tl h H (by omega), bI_s, ha, k_dig X d tx tu gu tl h b2, bI_s, hb, bz_t, e_X11_nextToken_96, if_neg one0, h10, litI 99999]
        by_cases z : v ≤ 99999
        · rw [if_pos (nI_le z (by omega)), h7, k_at X d tx tu gu tl h H (by omega), bI_s, ha, e_X11_nextToken_131, litI 10, mulI, addI, litI 48, subI (by omega), h7, nI_1]
          rw [if_pos z] at k1
          exact k1 f (by omega)
        · rw [if_neg (nI_ge (by omega) (by omega)), h7, nI_1]
          rw [if_neg z] at k1
          exact k1 (f + 1) (by omega)
      · rw [k4 q q1 q2, gF_sF, if_neg (fun z => q1 z.2), gF_sF, if_neg (fun z => q2 z.2)]
    | false =>
      rw [cond_false, cond_false]
      refine ⟨h, fun f hf => ?_, h7, h10, fun _ _ _ => rfl, smX.rf _ h⟩
      obtain ⟨f, rfl⟩ : ∃ g, f = g + 2 := ⟨f - 2, by omega⟩
      rw [e_X11_nextToken_85, h7, k_at X d tx tu gu tl h H (by omega), bI_s, ha, k_dig X d tx tu gu tl h b2, bI_s, hb, bz_f, e_X11_nextToken_96, if_pos rfl]
end TX
