/-! TOKENS: the class's next token -/
theorem skp_L {B : Nat → Nat} {L : Nat} : ∀ (c p : Nat), p ≤ L → skp B L c p ≤ L
  | 0, p, hp => hp
  | c + 1, p, hp => by
    unfold skp
    cases hb : decide (p < L) && blkB (B p) with
    | false => exact hp
    | true =>
      rw [Bool.and_eq_true, decide_eq_true_eq] at hb
      exact skp_L c (p + 1) (by omega)
def tkK (B : Nat → Nat) (L q : Nat) : Nat := if q < L then (bif letB (B q) then 2 else bif digB (B q) then 1 else sgC B L q) else 0
def tkE (B : Nat → Nat) (L q : Nat) : Nat := if q < L then (bif letB (B q) then wnd B L (L - q) q else bif digB (B q) then nmE B L (L - q) q else sgE B L q) else q
section TZ
variable (X : XS) (d t : Nat) (tu gu : Option Nat) (tl : List SC)
theorem x_adv (ht : t = 52 ∨ t = 57 ∨ t = 62 ∨ t = 67) {B : Nat → Nat} {L p : Nat} (h : DT) (H : CB h B L) (hp : p ≤ L) (h9 : gF h 38 9 = nI p) : ∃ h', cal X (d + 3) 50 [vP (some 38)] (SK (some t) tu gu tl, h) = some (none, (SK (some t) tu gu tl, h')) ∧ gF h' 38 8 = nI (skp B L (L - p) p) ∧ gF h' 38 7 = nI (tkK B L (skp B L (L - p) p)) ∧ gF h' 38 9 = nI (tkE B L (skp B L (L - p) p)) ∧ (tkK B L (skp B L (L - p) p) = 1 → letB (B (skp B L (L - p) p)) = false → digB (B (skp B L (L - p) p)) = true → gF h' 38 10 = nI (nmC B L (L - skp B L (L - p) p) (skp B L (L - p) p) 0)) ∧ (∀ z, z < 7 → gF h' 38 z = gF h 38 z) ∧ smX (fun c => c = 38) h h' := by
  have hl := H.2.1
  have c0 : CB (sF h 38 8 (gF h 38 9)) B L := H.cg (by rw [gF_sF, if_neg (by omega)]) rfl
  obtain ⟨h1, k1, k2, k3⟩ := x_skp X (d + 2) t tu gu tl ht (L - p) p (sF h 38 8 (gF h 38 9)) (by omega) c0 (by rw [gF_sF, if_pos ⟨rfl, rfl⟩]; exact h9)
  have hqL := skp_L (B := B) (L := L) (L - p) p hp
  revert k2
  generalize skp B L (L - p) p = q at hqL ⊢
  intro k2
  obtain ⟨f', g1, g2⟩ := k1 900000 999999 (by omega)
  obtain ⟨f', rfl⟩ : ∃ g, f' = g + 3 := ⟨f' - 3, by omega⟩
  have c1 : CB h1 B L := c0.cg (k2.2 0 (by omega)) (smA k3 (by omega))
  have z1 : ∀ z, z ≠ 8 → gF h1 38 z = gF h 38 z := fun z hz => by rw [k2.2 z hz, gF_sF, if_neg (fun y => hz y.2)]
  have s1 : smX (fun c => c = 38) h h1 := smX.tr (smX_sF rfl) k3
  have st : cal X (d + 3) 50 [vP (some 38)] (SK (some t) tu gu tl, h) = m_X4_advance X (d + 2) (f' + 3) 60 [(0, vP (some 38))] [] (SK (some t) tu gu tl, h1) := by
    rw [c_X4_advance, e_X4_advance_0 (ht := ht)]
    exact g2
  rw [st, e_X4_advance_60 (ht := ht), k2.1, c1.1]
  unfold tkK tkE
  by_cases hq : q < L
  · obtain ⟨b1, b2⟩ := c1.2.2 q hq
    have z2 : ∀ z, z ≠ 9 → gF (sF h1 38 9 (nI q)) 38 z = gF h1 38 z := fun z hz => by rw [gF_sF, if_neg (fun y => hz y.2)]
    have c2 : CB (sF h1 38 9 (nI q)) B L := c1.cg (z2 0 (by omega)) rfl
    rw [if_pos hq, if_pos hq, if_pos ((nI_ltI (by omega) (by omega)).mpr hq), inbI (by omega) (by omega), b1, x_let X (d + 1) (some t) tu gu tl _ b2, bI_s]
    cases hlt : letB (B q) with
    | true =>
      rw [bz_t, e_X4_advance_99 (ht := ht), if_neg one0]
      obtain ⟨h2, j1, j2, j3⟩ := x_wnd X (d + 1) t tu gu tl ht (L - q) q (sF (sF h1 38 9 (nI q)) 38 7 2) (by omega) (c2.cg (by rw [gF_sF, if_neg (by omega)]) rfl) (by rw [gF_sF, if_neg (by omega), gF_sF, if_pos ⟨rfl, rfl⟩])
      refine ⟨h2, j1 _ (by omega), ?_, ?_, j2.1, fun z => by rw [cond_true] at z; omega, fun z hz => ?_, smX.tr (smX.tr (smX.tr s1 (smX_sF rfl)) (smX_sF rfl)) j3⟩
      · rw [j2.2 8 (by omega), gF_sF, if_neg (by omega), z2 8 (by omega), k2.1]
      · rw [j2.2 7 (by omega), gF_sF, if_pos ⟨rfl, rfl⟩]
        rfl
      · rw [j2.2 z (by omega), gF_sF, if_neg (by omega), z2 z (by omega), z1 z (by omega)]
    | false =>
      rw [bz_f, e_X4_advance_99 (ht := ht), if_pos rfl, z2 8 (by omega), k2.1, inbI (by omega) (by omega), (c2.2.2 q hq).1, x_dig X (d + 1) (some t) tu gu tl _ b2, bI_s]
      cases hdg : digB (B q) with
      | true =>
        obtain ⟨h2, j1, j2, j3, j4, j5⟩ := x_nm X (d + 1) t tu gu tl ht (L - q) q 0 (sF (sF (sF h1 38 9 (nI q)) 38 7 1) 38 10 0) (by omega) (by omega) (c2.cg (by rw [gF_sF, if_neg (by omega), gF_sF, if_neg (by omega)]) rfl) (by rw [gF_sF, if_neg (by omega), gF_sF, if_neg (by omega), gF_sF, if_pos ⟨rfl, rfl⟩]) (by rw [gF_sF, if_pos ⟨rfl, rfl⟩]; rfl)
        refine ⟨h2, ?_, ?_, ?_, j2, fun _ _ _ => j3, fun z hz => ?_, smX.tr (smX.tr (smX.tr (smX.tr s1 (smX_sF rfl)) (smX_sF rfl)) (smX_sF rfl)) j5⟩
        · rw [bz_t, e_X4_advance_158 (ht := ht), if_neg one0]
          exact j1 _ (by omega)
        · rw [j4 8 (by omega) (by omega), gF_sF, if_neg (by omega), gF_sF, if_neg (by omega), z2 8 (by omega), k2.1]
        · rw [j4 7 (by omega) (by omega), gF_sF, if_neg (by omega), gF_sF, if_pos ⟨rfl, rfl⟩]
          rfl
        · rw [j4 z (by omega) (by omega), gF_sF, if_neg (by omega), gF_sF, if_neg (by omega), z2 z (by omega), z1 z (by omega)]
      | false =>
        obtain ⟨h2, j1, j2, j3, j4, j5⟩ := x_sign X (d + 1) t tu gu tl ht (q := q) (sF h1 38 9 (nI q)) c2 hq (by rw [z2 8 (by omega)]; exact k2.1)
        refine ⟨h2, ?_, ?_, j2, j3, fun _ _ z => (by cases z), fun z hz => ?_, smX.tr (smX.tr s1 (smX_sF rfl)) j5⟩
        · rw [bz_f, e_X4_advance_158 (ht := ht), if_pos rfl, c_X4_scanSign, j1 999999, bV_s]
        · rw [j4 8 (by omega) (by omega), z2 8 (by omega), k2.1]
        · rw [j4 z (by omega) (by omega), z2 z (by omega), z1 z (by omega)]
  · rw [if_neg hq, if_neg hq, if_neg (fun z => hq ((nI_ltI (by omega) (by omega)).mp z))]
    refine ⟨_, rfl, ?_, ?_, ?_, fun z => by omega, fun z hz => ?_, smX.tr (smX.tr s1 (smX_sF rfl)) (smX_sF rfl)⟩
    · rw [gF_sF, if_neg (by omega), gF_sF, if_neg (by omega), k2.1]
    · rw [gF_sF, if_pos ⟨rfl, rfl⟩]
      rfl
    · rw [gF_sF, if_neg (by omega), gF_sF, if_pos ⟨rfl, rfl⟩]
    · rw [gF_sF, if_neg (by omega), gF_sF, if_neg (by omega), z1 z (by omega)]
end TZ
