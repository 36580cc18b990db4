/-! TOKENS: the class's words and numbers -/
def wnd (B : Nat → Nat) (L : Nat) : Nat → Nat → Nat
  | 0, p => p
  | c + 1, p => bif decide (p < L) && letB (B p) then wnd B L c (p + 1) else p
def nmE (B : Nat → Nat) (L : Nat) : Nat → Nat → Nat
  | 0, p => p
  | c + 1, p => bif decide (p < L) && digB (B p) then nmE B L c (p + 1) else p
def nmC (B : Nat → Nat) (L : Nat) : Nat → Nat → Nat → Nat
  | 0, _, v => v
  | c + 1, p, v => bif decide (p < L) && digB (B p) then nmC B L c (p + 1) (if v * 10 + B p - 48 < 10000 then v * 10 + B p - 48 else 10000) else v
theorem dig_ge {v : Nat} (h : digB v = true) : 48 ≤ v ∧ v ≤ 57 := by
  unfold digB at h
  simpa using h
section TW
variable (X : XS) (d t : Nat) (tu gu : Option Nat) (tl : List SC)
theorem x_wnd (ht : t = 52 ∨ t = 57 ∨ t = 62 ∨ t = 67) {B : Nat → Nat} {L : Nat} : ∀ (c p : Nat) (h : DT), p + c = L → CB h B L → gF h 38 9 = nI p → ∃ h', (∀ f, 2 * c + 1 ≤ f → m_X4_advance X (d + 1) f 107 [(0, vP (some 38))] [] (SK (some t) tu gu tl, h) = some (none, (SK (some t) tu gu tl, h'))) ∧ tF h h' 38 9 (wnd B L c p) ∧ smX (fun c => c = 38) h h'
  | 0, p, h, hp, H, h9 => by
    refine ⟨h, fun f hf => ?_, ⟨h9, fun _ _ => rfl⟩, smX.rf _ h⟩
    obtain ⟨f, rfl⟩ : ∃ g, f = g + 1 := ⟨f - 1, by omega⟩
    have := H.2.1
    rw [e_X4_advance_107 (ht := ht), H.1, h9, if_pos (nI_le (by omega) (by omega))]
  | c + 1, p, h, hp, H, h9 => by
    have hl := H.2.1
    obtain ⟨b1, b2⟩ := H.2.2 p (by omega)
    unfold wnd
    rw [decide_eq_true (show p < L by omega), Bool.true_and]
    cases hb : letB (B p) with
    | true =>
      obtain ⟨h', k1, k2, k3⟩ := x_wnd ht c (p + 1) (sF h 38 9 (nI (p + 1))) (by omega) (H.cg (by rw [gF_sF, if_neg (by omega)]) rfl) (tF_s h 38 9 (p + 1)).1
      rw [cond_true]
      refine ⟨h', fun f hf => ?_, (tF_s h 38 9 (p + 1)).tr k2, smX.tr (smX_sF rfl) k3⟩
      obtain ⟨f, rfl⟩ : ∃ g, f = g + 2 := ⟨f - 2, by omega⟩
      rw [e_X4_advance_107 (ht := ht), H.1, h9, if_neg (nI_ge (by omega) (by omega)), inbI (by omega) (by omega), b1, x_let X d (some t) tu gu tl h b2, bI_s, hb, bz_t, e_X4_advance_130 (ht := ht), if_neg one0, h9, nI_1]
      exact k1 f (by omega)
    | false =>
      rw [cond_false]
      refine ⟨h, fun f hf => ?_, ⟨h9, fun _ _ => rfl⟩, smX.rf _ h⟩
      obtain ⟨f, rfl⟩ : ∃ g, f = g + 2 := ⟨f - 2, by omega⟩
      rw [e_X4_advance_107 (ht := ht), H.1, h9, if_neg (nI_ge (by omega) (by omega)), inbI (by omega) (by omega), b1, x_let X d (some t) tu gu tl h b2, bI_s, hb, bz_f, e_X4_advance_130 (ht := ht), if_pos rfl]
theorem x_nm (ht : t = 52 ∨ t = 57 ∨ t = 62 ∨ t = 67) {B : Nat → Nat} {L : Nat} : ∀ (c p v : Nat) (h : DT), p + c = L → v ≤ 10000 → CB h B L → gF h 38 9 = nI p → gF h 38 10 = nI v → ∃ h', (∀ f, 2 * c + 1 ≤ f → m_X4_advance X (d + 1) f 171 [(0, vP (some 38))] [] (SK (some t) tu gu tl, h) = some (none, (SK (some t) tu gu tl, h'))) ∧ gF h' 38 9 = nI (nmE B L c p) ∧ gF h' 38 10 = nI (nmC B L c p v) ∧ (∀ q, q ≠ 9 → q ≠ 10 → gF h' 38 q = gF h 38 q) ∧ smX (fun c => c = 38) h h'
  | 0, p, v, h, hp, hv, H, h9, h10 => by
    refine ⟨h, fun f hf => ?_, h9, h10, fun _ _ _ => rfl, smX.rf _ h⟩
    obtain ⟨f, rfl⟩ : ∃ g, f = g + 1 := ⟨f - 1, by omega⟩
    have := H.2.1
    rw [e_X4_advance_171 (ht := ht), H.1, h9, if_pos (nI_le (by omega) (by omega))]
  | c + 1, p, v, h, hp, hv, H, h9, h10 => by
    have hl := H.2.1
    obtain ⟨b1, b2⟩ := H.2.2 p (by omega)
    unfold nmE nmC
    rw [decide_eq_true (show p < L by omega), Bool.true_and]
    cases hb : digB (B p) with
    | true =>
      obtain ⟨g1, g2⟩ := dig_ge hb
      have ev : (if nI v * 10 + nI (B p) - 48 < (10000 : Int32) then nI v * 10 + nI (B p) - 48 else 10000) = nI (if v * 10 + B p - 48 < 10000 then v * 10 + B p - 48 else 10000) := by
        rw [litI 10, mulI, addI, litI 48, subI (by omega), litI 10000]
        by_cases z : v * 10 + B p - 48 < 10000
        · rw [if_pos ((nI_ltI (by omega) (by omega)).mpr z), if_pos z]
        · rw [if_neg (fun q => z ((nI_ltI (by omega) (by omega)).mp q)), if_neg z]
      obtain ⟨h', k1, k2, k3, k4, k5⟩ := x_nm ht c (p + 1) (if v * 10 + B p - 48 < 10000 then v * 10 + B p - 48 else 10000) (sF (sF h 38 10 (nI (if v * 10 + B p - 48 < 10000 then v * 10 + B p - 48 else 10000))) 38 9 (nI (p + 1))) (by omega) (by split <;> omega) (H.cg (by rw [gF_sF, if_neg (by omega), gF_sF, if_neg (by omega)]) rfl) (by rw [gF_sF, if_pos ⟨rfl, rfl⟩]) (by rw [gF_sF, if_neg (by omega), gF_sF, if_pos ⟨rfl, rfl⟩])
      rw [cond_true, cond_true]
      refine ⟨h', fun f hf => ?_, k2, k3, fun q q1 q2 => ?_, smX.tr (smX.tr (smX_sF rfl) (smX_sF rfl)) k5⟩
      · obtain ⟨f, rfl⟩ : ∃ g, f = g + 2 := ⟨f - 2, by omega⟩
        rw [e_X4_advance_171 (ht := ht), H.1, h9, if_neg (nI_ge (by omega) (by omega)), inbI (by omega) (by omega), b1, x_dig X d (some t) tu gu tl h b2, bI_s, hb, bz_t, e_X4_advance_194 (ht := ht), if_neg one0, h9, inbI (by omega) (by omega), b1, h10, ev, nI_1]
        exact k1 f (by omega)
      · rw [k4 q q1 q2, gF_sF, if_neg (fun z => q1 z.2), gF_sF, if_neg (fun z => q2 z.2)]
    | false =>
      rw [cond_false, cond_false]
      refine ⟨h, fun f hf => ?_, h9, h10, fun _ _ _ => rfl, smX.rf _ h⟩
      obtain ⟨f, rfl⟩ : ∃ g, f = g + 2 := ⟨f - 2, by omega⟩
      rw [e_X4_advance_171 (ht := ht), H.1, h9, if_neg (nI_ge (by omega) (by omega)), inbI (by omega) (by omega), b1, x_dig X d (some t) tu gu tl h b2, bI_s, hb, bz_f, e_X4_advance_194 (ht := ht), if_pos rfl]
end TW
