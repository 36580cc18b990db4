/-! TOKENS: the reference's words -/
section TY
variable (X : XS) (d : Nat) (tx tu gu : Option Nat) (tl : List SC)
theorem KB.sfg {h : DT} {B : Nat → Nat} {L p : Nat} {w : Int64} (H : KB h B L) : KB (sF (sG h 72 11 w) 72 7 (nI p)) B L := H.cg (by rw [gF_sF, if_neg (by omega)]; rfl) rfl
theorem k_wd {B : Nat → Nat} {L : Nat} : ∀ (c p : Nat) (w : Int64) (h : DT), p + c = L → KB h B L → gF h 72 7 = nI p → gG h 72 11 = w → ∃ h', (∀ f, 3 * c + 2 ≤ f → m_X11_nextToken X (d + 1) f 168 [(0, vP (some 72))] [] (SK tx tu gu tl, h) = some (none, (SK tx tu gu tl, h'))) ∧ gF h' 72 7 = nI (wnd B L c p) ∧ gG h' 72 11 = wdL B L c p w ∧ (∀ q, q ≠ 7 → gF h' 72 q = gF h 72 q) ∧ smX (fun c => c = 72) h h'
  | 0, p, w, h, hp, H, h7, h11 => by
    refine ⟨h, fun f hf => ?_, h7, h11, fun _ _ => rfl, smX.rf _ h⟩
    obtain ⟨f, rfl⟩ : ∃ g, f = g + 2 := ⟨f - 2, by omega⟩
    have := H.2.1
    rw [e_X11_nextToken_168, h7, k_at X d tx tu gu tl h H (by omega), bI_s, show atB B L p = -1 by unfold atB; rw [if_neg (by omega)], k_let1 X d tx tu gu tl h, bI_s, e_X11_nextToken_179, if_pos rfl]
  | c + 1, p, w, h, hp, H, h7, h11 => by
    have hl := H.2.1
    obtain ⟨b1, b2⟩ := H.2.2 p (by omega)
    have ha : atB B L p = nI (B p) := by unfold atB; rw [if_pos (by omega)]
    unfold wnd wdL
    rw [decide_eq_true (show p < L by omega), Bool.true_and]
    cases hb : letB (B p) with
    | true =>
      obtain ⟨h', k1, k2, k3, k4, k5⟩ := k_wd c (p + 1) (if lg_cmp (w >>> ((48 : Int32).toInt64 &&& 63)) 0 = 0 then (w <<< ((8 : Int32).toInt64 &&& 63)) ||| (nI (B p)).toInt64 else 1152921504606846976) (sF (sG h 72 11 (if lg_cmp (w >>> ((48 : Int32).toInt64 &&& 63)) 0 = 0 then (w <<< ((8 : Int32).toInt64 &&& 63)) ||| (nI (B p)).toInt64 else 1152921504606846976)) 72 7 (nI (p + 1))) (by omega) H.sfg (by rw [gF_sF, if_pos ⟨rfl, rfl⟩]) (by rw [gG_sF, gG_sG, if_pos ⟨rfl, rfl⟩])
      rw [cond_true, cond_true]
      refine ⟨h', fun f hf => ?_, k2, k3, fun q q1 => ?_, smX.tr (smX.tr (smX_sG rfl) (smX_sF rfl)) k5⟩
      · obtain ⟨f, rfl⟩ : ∃ g, f = g + 3 := ⟨f - 3, by omega⟩
        rw [e_X11_nextToken_168, h7, k_at X d tx tu gu tl h H (by omega), bI_s, ha, k_let X d tx tu gu tl h b2, bI_s, hb, bz_t, e_X11_nextToken_179, if_neg one0, h11]
        by_cases z : lg_cmp (w >>> ((48 : Int32).toInt64 &&& 63)) 0 = 0
        · rw [if_pos z, h7, k_at X d tx tu gu tl h H (by omega), bI_s, ha, e_X11_nextToken_216, h7, nI_1]
          rw [if_pos z] at k1
          exact k1 f (by omega)
        · rw [if_neg z, h7, nI_1]
          rw [if_neg z] at k1
          exact k1 (f + 1) (by omega)
      · rw [k4 q q1, gF_sF, if_neg (fun z => q1 z.2)]
        rfl
    | false =>
      rw [cond_false, cond_false]
      refine ⟨h, fun f hf => ?_, h7, h11, fun _ _ => rfl, smX.rf _ h⟩
      obtain ⟨f, rfl⟩ : ∃ g, f = g + 2 := ⟨f - 2, by omega⟩
      rw [e_X11_nextToken_168, h7, k_at X d tx tu gu tl h H (by omega), bI_s, ha, k_let X d tx tu gu tl h b2, bI_s, hb, bz_f, e_X11_nextToken_179, if_pos rfl]
end TY
