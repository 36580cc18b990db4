/-! TOKENS: the class's signs -/
def sgK (v : Nat) : Nat := if v = 35 ∨ 40 ≤ v ∧ v ≤ 43 ∨ v = 45 ∨ v = 47 ∨ 59 ≤ v ∧ v ≤ 62 then v else 3
def sgD (B : Nat → Nat) (L q : Nat) : Bool := (decide (B q = 60) || decide (B q = 62)) && (decide (q + 1 < L) && decide (B (q + 1) = 61))
def sgC (B : Nat → Nat) (L q : Nat) : Nat := bif sgD B L q then B q + 256 else sgK (B q)
def sgE (B : Nat → Nat) (L q : Nat) : Nat := bif sgD B L q then q + 2 else q + 1
section TV
variable (X : XS) (d t : Nat) (tu gu : Option Nat) (tl : List SC)
theorem x_sign (ht : t = 52 ∨ t = 57 ∨ t = 62 ∨ t = 67) {B : Nat → Nat} {L q : Nat} (h : DT) (H : CB h B L) (hq : q < L) (h8 : gF h 38 8 = nI q) : ∃ h', (∀ f, m_X4_scanSign X d (f + 1) 0 [(0, vP (some 38))] [] (SK (some t) tu gu tl, h) = some (none, (SK (some t) tu gu tl, h'))) ∧ gF h' 38 7 = nI (sgC B L q) ∧ gF h' 38 9 = nI (sgE B L q) ∧ (∀ z, z ≠ 7 → z ≠ 9 → gF h' 38 z = gF h 38 z) ∧ smX (fun c => c = 38) h h' := by
  have hl := H.2.1
  obtain ⟨b1, b2⟩ := H.2.2 q hq
  have one : ∀ v, sgC B L q = v → sgE B L q = q + 1 → (∀ f, m_X4_scanSign X d (f + 1) 0 [(0, vP (some 38))] [] (SK (some t) tu gu tl, h) = some (none, (SK (some t) tu gu tl, sF (sF h 38 9 (nI (q + 1))) 38 7 (nI v)))) → ∃ h', (∀ f, m_X4_scanSign X d (f + 1) 0 [(0, vP (some 38))] [] (SK (some t) tu gu tl, h) = some (none, (SK (some t) tu gu tl, h'))) ∧ gF h' 38 7 = nI (sgC B L q) ∧ gF h' 38 9 = nI (sgE B L q) ∧ (∀ z, z ≠ 7 → z ≠ 9 → gF h' 38 z = gF h 38 z) ∧ smX (fun c => c = 38) h h' := by
    intro v e1 e2 e3
    refine ⟨_, e3, ?_, ?_, fun z z1 z2 => ?_, smX.tr (smX_sF rfl) (smX_sF rfl)⟩
    · rw [gF_sF, if_pos ⟨rfl, rfl⟩, e1]
    · rw [gF_sF, if_neg (by omega), gF_sF, if_pos ⟨rfl, rfl⟩, e2]
    · rw [gF_sF, if_neg (fun y => z1 y.2), gF_sF, if_neg (fun y => z2 y.2)]
  have nd : ∀ v, B q = v → v ≠ 60 → v ≠ 62 → sgC B L q = sgK v ∧ sgE B L q = q + 1 := fun v e n1 n2 => by
    have : sgD B L q = false := by
      unfold sgD
      rw [e, decide_eq_false n1, decide_eq_false n2, Bool.or_false, Bool.false_and]
    unfold sgC sgE
    rw [this, cond_false, cond_false, e]
    exact ⟨rfl, rfl⟩
  by_cases hr : 35 ≤ B q ∧ B q ≤ 62
  · obtain g | g | g | g | g | g | g | g | g | g | g | g | g | g | g | g | g | g | g | g | g | g | g | g | g | g | g | g : B q = 35 ∨ B q = 36 ∨ B q = 37 ∨ B q = 38 ∨ B q = 39 ∨ B q = 40 ∨ B q = 41 ∨ B q = 42 ∨ B q = 43 ∨ B q = 44 ∨ B q = 45 ∨ B q = 46 ∨ B q = 47 ∨ B q = 48 ∨ B q = 49 ∨ B q = 50 ∨ B q = 51 ∨ B q = 52 ∨ B q = 53 ∨ B q = 54 ∨ B q = 55 ∨ B q = 56 ∨ B q = 57 ∨ B q = 58 ∨ B q = 59 ∨ B q = 60 ∨ B q = 61 ∨ B q = 62 := by omega
    · obtain ⟨n1, n2⟩ := nd 35 g (by decide) (by decide)
      rw [g] at b1
      refine one 35 n1 n2 (fun f => ?_)
      rw [e_X4_scanSign_0 (ht := ht), h8, inbI (by omega) (by omega), b1, if_pos (by decide), nI_1]
    · obtain ⟨n1, n2⟩ := nd 36 g (by decide) (by decide)
      rw [g] at b1
      refine one 3 n1 n2 (fun f => ?_)
      rw [e_X4_scanSign_0 (ht := ht), h8, inbI (by omega) (by omega), b1, if_neg (by decide), if_pos (by decide), nI_1]
      rfl
    · obtain ⟨n1, n2⟩ := nd 37 g (by decide) (by decide)
      rw [g] at b1
      refine one 3 n1 n2 (fun f => ?_)
      rw [e_X4_scanSign_0 (ht := ht), h8, inbI (by omega) (by omega), b1, if_neg (by decide), if_neg (by decide), if_pos (by decide), nI_1]
      rfl
    · obtain ⟨n1, n2⟩ := nd 38 g (by decide) (by decide)
      rw [g] at b1
      refine one 3 n1 n2 (fun f => ?_)
      rw [e_X4_scanSign_0 (ht := ht), h8, inbI (by omega) (by omega), b1, if_neg (by decide), if_neg (by decide), if_neg (by decide), if_pos (by decide), nI_1]
      rfl
    · obtain ⟨n1, n2⟩ := nd 39 g (by decide) (by decide)
      rw [g] at b1
      refine one 3 n1 n2 (fun f => ?_)
      rw [e_X4_scanSign_0 (ht := ht), h8, inbI (by omega) (by omega), b1, if_neg (by decide), if_neg (by decide), if_neg (by decide), if_neg (by decide), if_pos (by decide), nI_1]
      rfl
    · obtain ⟨n1, n2⟩ := nd 40 g (by decide) (by decide)
      rw [g] at b1
      refine one 40 n1 n2 (fun f => ?_)
      rw [e_X4_scanSign_0 (ht := ht), h8, inbI (by omega) (by omega), b1, if_neg (by decide), if_neg (by decide), if_neg (by decide), if_neg (by decide), if_neg (by decide), if_pos (by decide), nI_1]
    · obtain ⟨n1, n2⟩ := nd 41 g (by decide) (by decide)
      rw [g] at b1
      refine one 41 n1 n2 (fun f => ?_)
      rw [e_X4_scanSign_0 (ht := ht), h8, inbI (by omega) (by omega), b1, if_neg (by decide), if_neg (by decide), if_neg (by decide), if_neg (by decide), if_neg (by decide), if_neg (by decide), if_pos (by decide), nI_1]
    · obtain ⟨n1, n2⟩ := nd 42 g (by decide) (by decide)
      rw [g] at b1
      refine one 42 n1 n2 (fun f => ?_)
      rw [e_X4_scanSign_0 (ht := ht), h8, inbI (by omega) (by omega), b1, if_neg (by decide), if_neg (by decide), if_neg (by decide), if_neg (by decide), if_neg (by decide), if_neg (by decide), if_neg (by decide), if_pos (by decide), nI_1]
    · obtain ⟨n1, n2⟩ := nd 43 g (by decide) (by decide)
      rw [g] at b1
      refine one 43 n1 n2 (fun f => ?_)
      rw [e_X4_scanSign_0 (ht := ht), h8, inbI (by omega) (by omega), b1, if_neg (by decide), if_neg (by decide), if_neg (by decide), if_neg (by decide), if_neg (by decide), if_neg (by decide), if_neg (by decide), if_neg (by decide), if_pos (by decide), nI_1]
    · obtain ⟨n1, n2⟩ := nd 44 g (by decide) (by decide)
      rw [g] at b1
      refine one 3 n1 n2 (fun f => ?_)
      rw [e_X4_scanSign_0 (ht := ht), h8, inbI (by omega) (by omega), b1, if_neg (by decide), if_neg (by decide), if_neg (by decide), if_neg (by decide), if_neg (by decide), if_neg (by decide), if_neg (by decide), if_neg (by decide), if_neg (by decide), if_pos (by decide), nI_1]
      rfl
    · obtain ⟨n1, n2⟩ := nd 45 g (by decide) (by decide)
      rw [g] at b1
      refine one 45 n1 n2 (fun f => ?_)
      rw [e_X4_scanSign_0 (ht := ht), h8, inbI (by omega) (by omega), b1, if_neg (by decide), if_neg (by decide), if_neg (by decide), if_neg (by decide), if_neg (by decide), if_neg (by decide), if_neg (by decide), if_neg (by decide), if_neg (by decide), if_neg (by decide), if_pos (by decide), nI_1]
    · obtain ⟨n1, n2⟩ := nd 46 g (by decide) (by decide)
      rw [g] at b1
      refine one 3 n1 n2 (fun f => ?_)
      rw [e_X4_scanSign_0 (ht := ht), h8, inbI (by omega) (by omega), b1, if_neg (by decide), if_neg (by decide), if_neg (by decide), if_neg (by decide), if_neg (by decide), if_neg (by decide), if_neg (by decide), if_neg (by decide), if_neg (by decide), if_neg (by decide), if_neg (by decide), if_pos (by decide), nI_1]
      rfl
    · obtain ⟨n1, n2⟩ := nd 47 g (by decide) (by decide)
      rw [g] at b1
      refine one 47 n1 n2 (fun f => ?_)
      rw [e_X4_scanSign_0 (ht := ht), h8, inbI (by omega) (by omega), b1, if_neg (by decide), if_neg (by decide), if_neg (by decide), if_neg (by decide), if_neg (by decide), if_neg (by decide), if_neg (by decide), if_neg (by decide), if_neg (by decide), if_neg (by decide), if_neg (by decide), if_neg (by decide), if_pos (by decide), nI_1]
    · obtain ⟨n1, n2⟩ := nd 48 g (by decide) (by decide)
      rw [g] at b1
      refine one 3 n1 n2 (fun f => ?_)
      rw [e_X4_scanSign_0 (ht := ht), h8, inbI (by omega) (by omega), b1, if_neg (by decide), if_neg (by decide), if_neg (by decide), if_neg (by decide), if_neg (by decide), if_neg (by decide), if_neg (by decide), if_neg (by decide), if_neg (by decide), if_neg (by decide), if_neg (by decide), if_neg (by decide), if_neg (by decide), if_pos (by decide), nI_1]
      rfl
    · obtain ⟨n1, n2⟩ := nd 49 g (by decide) (by decide)
      rw [g] at b1
      refine one 3 n1 n2 (fun f => ?_)
      rw [e_X4_scanSign_0 (ht := ht), h8, inbI (by omega) (by omega), b1, if_neg (by decide), if_neg (by decide), if_neg (by decide), if_neg (by decide), if_neg (by decide), if_neg (by decide), if_neg (by decide), if_neg (by decide), if_neg (by decide), if_neg (by decide), if_neg (by decide), if_neg (by decide), if_neg (by decide), if_neg (by decide), if_pos (by decide), nI_1]
      rfl
    · obtain ⟨n1, n2⟩ := nd 50 g (by decide) (by decide)
      rw [g] at b1
      refine one 3 n1 n2 (fun f => ?_)
      rw [e_X4_scanSign_0 (ht := ht), h8, inbI (by omega) (by omega), b1, if_neg (by decide), if_neg (by decide), if_neg (by decide), if_neg (by decide), if_neg (by decide), if_neg (by decide), if_neg (by decide), if_neg (by decide), if_neg (by decide), if_neg (by decide), if_neg (by decide), if_neg (by decide), if_neg (by decide), if_neg (by decide), if_neg (by decide), if_pos (by decide), nI_1]
      rfl
    · obtain ⟨n1, n2⟩ := nd 51 g (by decide) (by decide)
      rw [g] at b1
      refine one 3 n1 n2 (fun f => ?_)
      rw [e_X4_scanSign_0 (ht := ht), h8, inbI (by omega) (by omega), b1, if_neg (by decide), if_neg (by decide), if_neg (by decide), if_neg (by decide), if_neg (by decide), if_neg (by decide), if_neg (by decide), if_neg (by decide), if_neg (by decide), if_neg (by decide), if_neg (by decide), if_neg (by decide), if_neg (by decide), if_neg (by decide), if_neg (by decide), if_neg (by decide), if_pos (by decide), nI_1]
      rfl
    · obtain ⟨n1, n2⟩ := nd 52 g (by decide) (by decide)
      rw [g] at b1
      refine one 3 n1 n2 (fun f => ?_)
      rw [e_X4_scanSign_0 (ht := ht), h8, inbI (by omega) (by omega), b1, if_neg (by decide), if_neg (by decide), if_neg (by decide), if_neg (by decide), if_neg (by decide), if_neg (by decide), if_neg (by decide), if_neg (by decide), if_neg (by decide), if_neg (by decide), if_neg (by decide), if_neg (by decide), if_neg (by decide), if_neg (by decide), if_neg (by decide), if_neg (by decide), if_neg (by decide), if_pos (by decide), nI_1]
      rfl
    · obtain ⟨n1, n2⟩ := nd 53 g (by decide) (by decide)
      rw [g] at b1
      refine one 3 n1 n2 (fun f => ?_)
      rw [e_X4_scanSign_0 (ht := ht), h8, inbI (by omega) (by omega), b1, if_neg (by decide), if_neg (by decide), if_neg (by decide), if_neg (by decide), if_neg (by decide), if_neg (by decide), if_neg (by decide), if_neg (by decide), if_neg (by decide), if_neg (by decide), if_neg (by decide), if_neg (by decide), if_neg (by decide), if_neg (by decide), if_neg (by decide), if_neg (by decide), if_neg (by decide), if_neg (by decide), if_pos (by decide), nI_1]
      rfl
    · obtain ⟨n1, n2⟩ := nd 54 g (by decide) (by decide)
      rw [g] at b1
      refine one 3 n1 n2 (fun f => ?_)
      rw [e_X4_scanSign_0 (ht := ht), h8, inbI (by omega) (by omega), b1, if_neg (by decide), if_neg (by decide), if_neg (by decide), if_neg (by decide), if_neg (by decide), if_neg (by decide), if_neg (by decide), if_neg (by decide), if_neg (by decide), if_neg (by decide), if_neg (by decide), if_neg (by decide), if_neg (by decide), if_neg (by decide), if_neg (by decide), if_neg (by decide), if_neg (by decide), if_neg (by decide), if_neg (by decide), if_pos (by decide), nI_1]
      rfl
    · obtain ⟨n1, n2⟩ := nd 55 g (by decide) (by decide)
      rw [g] at b1
      refine one 3 n1 n2 (fun f => ?_)
      rw [e_X4_scanSign_0 (ht := ht), h8, inbI (by omega) (by omega), b1, if_neg (by decide), if_neg (by decide), if_neg (by decide), if_neg (by decide), if_neg (by decide), if_neg (by decide), if_neg (by decide), if_neg (by decide), if_neg (by decide), if_neg (by decide), if_neg (by decide), if_neg (by decide), if_neg (by decide), if_neg (by decide), if_neg (by decide), if_neg (by decide), if_neg (by decide), if_neg (by decide), if_neg (by decide), if_neg (by decide), if_pos (by decide), nI_1]
      rfl
    · obtain ⟨n1, n2⟩ := nd 56 g (by decide) (by decide)
      rw [g] at b1
      refine one 3 n1 n2 (fun f => ?_)
      rw [e_X4_scanSign_0 (ht := ht), h8, inbI (by omega) (by omega), b1, if_neg (by decide), if_neg (by decide), if_neg (by decide), if_neg (by decide), if_neg (by decide), if_neg (by decide), if_neg (by decide), if_neg (by decide), if_neg (by decide), if_neg (by decide), if_neg (by decide), if_neg (by decide), if_neg (by decide), if_neg (by decide), if_neg (by decide), if_neg (by decide), if_neg (by decide), if_neg (by decide), if_neg (by decide), if_neg (by decide), if_neg (by decide), if_pos (by decide), nI_1]
      rfl
    · obtain ⟨n1, n2⟩ := nd 57 g (by decide) (by decide)
      rw [g] at b1
      refine one 3 n1 n2 (fun f => ?_)
      rw [e_X4_scanSign_0 (ht := ht), h8, inbI (by omega) (by omega), b1, if_neg (by decide), if_neg (by decide), if_neg (by decide), if_neg (by decide), if_neg (by decide), if_neg (by decide), if_neg (by decide), if_neg (by decide), if_neg (by decide), if_neg (by decide), if_neg (by decide), if_neg (by decide), if_neg (by decide), if_neg (by decide), if_neg (by decide), if_neg (by decide), if_neg (by decide), if_neg (by decide), if_neg (by decide), if_neg (by decide), if_neg (by decide), if_neg (by decide), if_pos (by decide), nI_1]
      rfl
    · obtain ⟨n1, n2⟩ := nd 58 g (by decide) (by decide)
      rw [g] at b1
      refine one 3 n1 n2 (fun f => ?_)
      rw [e_X4_scanSign_0 (ht := ht), h8, inbI (by omega) (by omega), b1, if_neg (by decide), if_neg (by decide), if_neg (by decide), if_neg (by decide), if_neg (by decide), if_neg (by decide), if_neg (by decide), if_neg (by decide), if_neg (by decide), if_neg (by decide), if_neg (by decide), if_neg (by decide), if_neg (by decide), if_neg (by decide), if_neg (by decide), if_neg (by decide), if_neg (by decide), if_neg (by decide), if_neg (by decide), if_neg (by decide), if_neg (by decide), if_neg (by decide), if_neg (by decide), if_pos (by decide), nI_1]
      rfl
    · obtain ⟨n1, n2⟩ := nd 59 g (by decide) (by decide)
      rw [g] at b1
      refine one 59 n1 n2 (fun f => ?_)
      rw [e_X4_scanSign_0 (ht := ht), h8, inbI (by omega) (by omega), b1, if_neg (by decide), if_neg (by decide), if_neg (by decide), if_neg (by decide), if_neg (by decide), if_neg (by decide), if_neg (by decide), if_neg (by decide), if_neg (by decide), if_neg (by decide), if_neg (by decide), if_neg (by decide), if_neg (by decide), if_neg (by decide), if_neg (by decide), if_neg (by decide), if_neg (by decide), if_neg (by decide), if_neg (by decide), if_neg (by decide), if_neg (by decide), if_neg (by decide), if_neg (by decide), if_neg (by decide), if_pos (by decide), nI_1]
    · rw [g] at b1
      by_cases y : q + 1 < L ∧ B (q + 1) = 61
      · have hD : sgD B L q = true := by
          unfold sgD
          rw [g, decide_eq_true y.1, decide_eq_true y.2]
          rfl
        refine ⟨sF (sF (sF (sF h 38 9 (nI (q + 1))) 38 7 (nI 60)) 38 7 (nI (60 + 256))) 38 9 (nI (q + 1 + 1)), fun f => ?_, ?_, ?_, fun z z1 z2 => ?_, smX.tr (smX.tr (smX.tr (smX_sF rfl) (smX_sF rfl)) (smX_sF rfl)) (smX_sF rfl)⟩
        · rw [e_X4_scanSign_0 (ht := ht), h8, inbI (by omega) (by omega), b1, if_neg (by decide), if_neg (by decide), if_neg (by decide), if_neg (by decide), if_neg (by decide), if_neg (by decide), if_neg (by decide), if_neg (by decide), if_neg (by decide), if_neg (by decide), if_neg (by decide), if_neg (by decide), if_neg (by decide), if_neg (by decide), if_neg (by decide), if_neg (by decide), if_neg (by decide), if_neg (by decide), if_neg (by decide), if_neg (by decide), if_neg (by decide), if_neg (by decide), if_neg (by decide), if_neg (by decide), if_neg (by decide), if_pos (by decide), H.1, nI_1, if_neg (nI_ge (by omega) (by omega)), inbI (by omega) (by omega), (H.2.2 (q + 1) y.1).1, y.2, if_pos (show nI 61 = 61 from rfl), nI_1]
          rfl
        · unfold sgC
          rw [hD, cond_true, g, gF_sF, if_neg (by omega), gF_sF, if_pos ⟨rfl, rfl⟩]
        · unfold sgE
          rw [hD, cond_true, gF_sF, if_pos ⟨rfl, rfl⟩]
        · rw [gF_sF, if_neg (fun y => z2 y.2), gF_sF, if_neg (fun y => z1 y.2), gF_sF, if_neg (fun y => z1 y.2), gF_sF, if_neg (fun y => z2 y.2)]
      · have hD : sgD B L q = false := by
          unfold sgD
          rw [← Bool.decide_and, decide_eq_false y, Bool.and_false]
        refine one 60 (by unfold sgC; rw [hD, cond_false, g]; rfl) (by unfold sgE; rw [hD, cond_false]) (fun f => ?_)
        rw [e_X4_scanSign_0 (ht := ht), h8, inbI (by omega) (by omega), b1, if_neg (by decide), if_neg (by decide), if_neg (by decide), if_neg (by decide), if_neg (by decide), if_neg (by decide), if_neg (by decide), if_neg (by decide), if_neg (by decide), if_neg (by decide), if_neg (by decide), if_neg (by decide), if_neg (by decide), if_neg (by decide), if_neg (by decide), if_neg (by decide), if_neg (by decide), if_neg (by decide), if_neg (by decide), if_neg (by decide), if_neg (by decide), if_neg (by decide), if_neg (by decide), if_neg (by decide), if_neg (by decide), if_pos (by decide), H.1, nI_1]
        by_cases w : q + 1 < L
        · rw [if_neg (nI_ge (by omega) (by omega)), inbI (by omega) (by omega), (H.2.2 (q + 1) w).1, if_neg (show ¬ nI (B (q + 1)) = 61 from fun z => y ⟨w, (nI_eq (a := B (q + 1)) (b := 61) (by have := (H.2.2 (q + 1) w).2; omega) (by omega)).mp z⟩)]
        · rw [if_pos (nI_le (by omega) (by omega))]
    · obtain ⟨n1, n2⟩ := nd 61 g (by decide) (by decide)
      rw [g] at b1
      refine one 61 n1 n2 (fun f => ?_)
      rw [e_X4_scanSign_0 (ht := ht), h8, inbI (by omega) (by omega), b1, if_neg (by decide), if_neg (by decide), if_neg (by decide), if_neg (by decide), if_neg (by decide), if_neg (by decide), if_neg (by decide), if_neg (by decide), if_neg (by decide), if_neg (by decide), if_neg (by decide), if_neg (by decide), if_neg (by decide), if_neg (by decide), if_neg (by decide), if_neg (by decide), if_neg (by decide), if_neg (by decide), if_neg (by decide), if_neg (by decide), if_neg (by decide), if_neg (by decide), if_neg (by decide), if_neg (by decide), if_neg (by decide), if_neg (by decide), if_pos (by decide), nI_1]
    · rw [g] at b1
      by_cases y : q + 1 < L ∧ B (q + 1) = 61
      · have hD : sgD B L q = true := by
          unfold sgD
          rw [g, decide_eq_true y.1, decide_eq_true y.2]
          rfl
        refine ⟨sF (sF (sF (sF h 38 9 (nI (q + 1))) 38 7 (nI 62)) 38 7 (nI (62 + 256))) 38 9 (nI (q + 1 + 1)), fun f => ?_, ?_, ?_, fun z z1 z2 => ?_, smX.tr (smX.tr (smX.tr (smX_sF rfl) (smX_sF rfl)) (smX_sF rfl)) (smX_sF rfl)⟩
        · rw [e_X4_scanSign_0 (ht := ht), h8, inbI (by omega) (by omega), b1, if_neg (by decide), if_neg (by decide), if_neg (by decide), if_neg (by decide), if_neg (by decide), if_neg (by decide), if_neg (by decide), if_neg (by decide), if_neg (by decide), if_neg (by decide), if_neg (by decide), if_neg (by decide), if_neg (by decide), if_neg (by decide), if_neg (by decide), if_neg (by decide), if_neg (by decide), if_neg (by decide), if_neg (by decide), if_neg (by decide), if_neg (by decide), if_neg (by decide), if_neg (by decide), if_neg (by decide), if_neg (by decide), if_neg (by decide), if_neg (by decide), if_pos (by decide), H.1, nI_1, if_neg (nI_ge (by omega) (by omega)), inbI (by omega) (by omega), (H.2.2 (q + 1) y.1).1, y.2, if_pos (show nI 61 = 61 from rfl), nI_1]
          rfl
        · unfold sgC
          rw [hD, cond_true, g, gF_sF, if_neg (by omega), gF_sF, if_pos ⟨rfl, rfl⟩]
        · unfold sgE
          rw [hD, cond_true, gF_sF, if_pos ⟨rfl, rfl⟩]
        · rw [gF_sF, if_neg (fun y => z2 y.2), gF_sF, if_neg (fun y => z1 y.2), gF_sF, if_neg (fun y => z1 y.2), gF_sF, if_neg (fun y => z2 y.2)]
      · have hD : sgD B L q = false := by
          unfold sgD
          rw [← Bool.decide_and, decide_eq_false y, Bool.and_false]
        refine one 62 (by unfold sgC; rw [hD, cond_false, g]; rfl) (by unfold sgE; rw [hD, cond_false]) (fun f => ?_)
        rw [e_X4_scanSign_0 (ht := ht), h8, inbI (by omega) (by omega), b1, if_neg (by decide), if_neg (by decide), if_neg (by decide), if_neg (by decide), if_neg (by decide), if_neg (by decide), if_neg (by decide), if_neg (by decide), if_neg (by decide), if_neg (by decide), if_neg (by decide), if_neg (by decide), if_neg (by decide), if_neg (by decide), if_neg (by decide), if_neg (by decide), if_neg (by decide), if_neg (by decide), if_neg (by decide), if_neg (by decide), if_neg (by decide), if_neg (by decide), if_neg (by decide), if_neg (by decide), if_neg (by decide), if_neg (by decide), if_neg (by decide), if_pos (by decide), H.1, nI_1]
        by_cases w : q + 1 < L
        · rw [if_neg (nI_ge (by omega) (by omega)), inbI (by omega) (by omega), (H.2.2 (q + 1) w).1, if_neg (show ¬ nI (B (q + 1)) = 61 from fun z => y ⟨w, (nI_eq (a := B (q + 1)) (b := 61) (by have := (H.2.2 (q + 1) w).2; omega) (by omega)).mp z⟩)]
        · rw [if_pos (nI_le (by omega) (by omega))]
  · obtain ⟨n1, n2⟩ := nd (B q) rfl (by omega) (by omega)
    refine one 3 (n1.trans (by unfold sgK; rw [if_neg (by omega)])) n2 (fun f => ?_)
    rw [e_X4_scanSign_0 (ht := ht), h8, inbI (by omega) (by omega), b1, if_neg (show ¬ nI (B q) = 35 from fun z => hr (by have := (nI_eq (a := B q) (b := 35) (by omega) (by omega)).mp z; omega)), if_neg (show ¬ nI (B q) = 36 from fun z => hr (by have := (nI_eq (a := B q) (b := 36) (by omega) (by omega)).mp z; omega)), if_neg (show ¬ nI (B q) = 37 from fun z => hr (by have := (nI_eq (a := B q) (b := 37) (by omega) (by omega)).mp z; omega)), if_neg (show ¬ nI (B q) = 38 from fun z => hr (by have := (nI_eq (a := B q) (b := 38) (by omega) (by omega)).mp z; omega)), if_neg (show ¬ nI (B q) = 39 from fun z => hr (by have := (nI_eq (a := B q) (b := 39) (by omega) (by omega)).mp z; omega)), if_neg (show ¬ nI (B q) = 40 from fun z => hr (by have := (nI_eq (a := B q) (b := 40) (by omega) (by omega)).mp z; omega)), if_neg (show ¬ nI (B q) = 41 from fun z => hr (by have := (nI_eq (a := B q) (b := 41) (by omega) (by omega)).mp z; omega)), if_neg (show ¬ nI (B q) = 42 from fun z => hr (by have := (nI_eq (a := B q) (b := 42) (by omega) (by omega)).mp z; omega)), if_neg (show ¬ nI (B q) = 43 from fun z => hr (by have := (nI_eq (a := B q) (b := 43) (by omega) (by omega)).mp z; omega)), if_neg (show ¬ nI (B q) = 44 from fun z => hr (by have := (nI_eq (a := B q) (b := 44) (by omega) (by omega)).mp z; omega)), if_neg (show ¬ nI (B q) = 45 from fun z => hr (by have := (nI_eq (a := B q) (b := 45) (by omega) (by omega)).mp z; omega)), if_neg (show ¬ nI (B q) = 46 from fun z => hr (by have := (nI_eq (a := B q) (b := 46) (by omega) (by omega)).mp z; omega)), if_neg (show ¬ nI (B q) = 47 from fun z => hr (by have := (nI_eq (a := B q) (b := 47) (by omega) (by omega)).mp z; omega)), if_neg (show ¬ nI (B q) = 48 from fun z => hr (by have := (nI_eq (a := B q) (b := 48) (by omega) (by omega)).mp z; omega)), if_neg (show ¬ nI (B q) = 49 from fun z => hr (by have := (nI_eq (a := B q) (b := 49) (by omega) (by omega)).mp z; omega)), if_neg (show ¬ nI (B q) = 50 from fun z => hr (by have := (nI_eq (a := B q) (b := 50) (by omega) (by omega)).mp z; omega)), if_neg (show ¬ nI (B q) = 51 from fun z => hr (by have := (nI_eq (a := B q) (b := 51) (by omega) (by omega)).mp z; omega)), if_neg (show ¬ nI (B q) = 52 from fun z => hr (by have := (nI_eq (a := B q) (b := 52) (by omega) (by omega)).mp z; omega)), if_neg (show ¬ nI (B q) = 53 from fun z => hr (by have := (nI_eq (a := B q) (b := 53) (by omega) (by omega)).mp z; omega)), if_neg (show ¬ nI (B q) = 54 from fun z => hr (by have := (nI_eq (a := B q) (b := 54) (by omega) (by omega)).mp z; omega)), if_neg (show ¬ nI (B q) = 55 from fun z => hr (by have := (nI_eq (a := B q) (b := 55) (by omega) (by omega)).mp z; omega)), if_neg (show ¬ nI (B q) = 56 from fun z => hr (by have := (nI_eq (a := B q) (b := 56) (by omega) (by omega)).mp z; omega)), if_neg (show ¬ nI (B q) = 57 from fun z => hr (by have := (nI_eq (a := B q) (b := 57) (by omega) (by omega)).mp z; omega)), if_neg (show ¬ nI (B q) = 58 from fun z => hr (by have := (nI_eq (a := B q) (b := 58) (by omega) (by omega)).mp z; omega)), if_neg (show ¬ nI (B q) = 59 from fun z => hr (by have := (nI_eq (a := B q) (b := 59) (by omega) (by omega)).mp z; omega)), if_neg (show ¬ nI (B q) = 60 from fun z => hr (by have := (nI_eq (a := B q) (b := 60) (by omega) (by omega)).mp z; omega)), if_neg (show ¬ nI (B q) = 61 from fun z => hr (by have := (nI_eq (a := B q) (b := 61) (by omega) (by omega)).mp z; omega)), if_neg (show ¬ nI (B q) = 62 from fun z => hr (by have := (nI_eq (a := B q) (b := 62) (by omega) (by omega)).mp z; omega)), nI_1]
    rfl
end TV
