/-! KINDS: what a method answers is of the kind its head says -/
def kd (rt : Nat) (x : Option AV × HP) : Prop := (rt = 1 ∨ rt = 4 → ∃ z, x.1 = some (vI z)) ∧ (rt = 2 → ∃ z, x.1 = some (vL z))
theorem opR_kd {rt : Nat} {i : Instr} {S : ST} {H : HP} {x : Option AV × HP} (h : opR rt i S H = some x) : kd rt x := by
  unfold opR at h
  split at h <;> (try (split at h)) <;> (try (split at h)) <;> first | (cases h; refine ⟨fun q => ?_, fun q => ?_⟩ <;> first | exact ⟨_, rfl⟩ | (exfalso; omega)) | cases h
set_option maxHeartbeats 8000000 in
theorem stp_kd {X : XS} {call : Nat → List AV → HP → RR} (hc : ∀ y as H r H', call y as H = some (r, H') → mno H H') {n rt : Nat} {go : List EN → LL → ST → HP → RR} {code is : List EN} {i : Instr} {ax : List Nat} {cI : Int32} {cL : Int64} {L : LL} {S : ST} {H : HP} {x : Option AV × HP} (h : stp X call n rt go code is i ax cI cL L S H = some x) : (∃ i, opR rt i S H = some x) ∨ ∃ is' L' S' H', go is' L' S' H' = some x ∧ mno H H' := by
  have fS : opS i ax cI cL S (fun S => go is L S H) = some x → (∃ i, opR rt i S H = some x) ∨ ∃ is' L' S' H', go is' L' S' H' = some x ∧ mno H H' := fun h => by
    obtain ⟨S', h1⟩ := opS_mono h
    exact Or.inr ⟨_, _, _, _, h1, mno.rf _⟩
  have fL : opL n i cI L S (fun L S => go is L S H) = some x → (∃ i, opR rt i S H = some x) ∨ ∃ is' L' S' H', go is' L' S' H' = some x ∧ mno H H' := fun h => by
    obtain ⟨L', S', h1⟩ := opL_mono h
    exact Or.inr ⟨_, _, _, _, h1, mno.rf _⟩
  have fH : opH X i ax S H (fun S H => go is L S H) = some x → (∃ i, opR rt i S H = some x) ∨ ∃ is' L' S' H', go is' L' S' H' = some x ∧ mno H H' := fun h => by
    obtain ⟨S', H', h1, h2⟩ := opH_mono h
    exact Or.inr ⟨_, _, _, _, h1, h2⟩
  have fJ : ∀ b, opJ b S H (fun S H => go is L S H) = some x → (∃ i, opR rt i S H = some x) ∨ ∃ is' L' S' H', go is' L' S' H' = some x ∧ mno H H' := fun b h => by
    obtain ⟨S', H', h1, h2⟩ := opJ_mono h
    exact Or.inr ⟨_, _, _, _, h1, h2⟩
  have fC : opC call ax S H (fun S H => go is L S H) = some x → (∃ i, opR rt i S H = some x) ∨ ∃ is' L' S' H', go is' L' S' H' = some x ∧ mno H H' := fun h => by
    obtain ⟨S', H', h1, h2⟩ := opC_mono hc h
    exact Or.inr ⟨_, _, _, _, h1, h2⟩
  have fG : ∀ is' L' S', go is' L' S' H = some x → (∃ i, opR rt i S H = some x) ∨ ∃ is' L' S' H', go is' L' S' H' = some x ∧ mno H H' := fun _ _ _ h => Or.inr ⟨_, _, _, _, h, mno.rf _⟩
  have fM : ∀ S', (match (generalizing := false) ax with
      | t :: _ => go (jt t code) L S' H
      | [] => none) = some x → (∃ i, opR rt i S H = some x) ∨ ∃ is' L' S' H', go is' L' S' H' = some x ∧ mno H H' := fun S' h => by
    split at h
    · exact fG _ _ _ h
    · cases h
  cases i with
  | goto off => exact fM S h
  | ifCond c off =>
    cases c <;> (simp only [stp] at h; obtain ⟨_, S1, _, h1⟩ := tI_inv h; split at h1 <;> first | exact fG _ _ _ h1 | exact fM S1 h1)
  | if_icmp c off =>
    cases c <;> (simp only [stp] at h; obtain ⟨_, S0, _, h0⟩ := tI_inv h; obtain ⟨_, S1, _, h1⟩ := tI_inv h0; split at h1 <;> first | exact fG _ _ _ h1 | exact fM S1 h1)
  | ifnull off =>
    simp only [stp] at h
    obtain ⟨o, S1, _, h1⟩ := tP_inv h
    cases o with
    | none => exact fM S1 h1
    | some q => exact fG _ _ _ h1
  | ifnonnull off =>
    simp only [stp] at h
    obtain ⟨o, S1, _, h1⟩ := tP_inv h
    cases o with
    | none => exact fG _ _ _ h1
    | some q => exact fM S1 h1
  | tableswitch d0 lo hi os =>
    simp only [stp] at h
    split at h
    · obtain ⟨_, S1, _, h1⟩ := tI_inv h
      rcases swT_any h1 with ⟨t, h2⟩ | h2 <;> exact fG _ _ _ h2
    · cases h
  | lookupswitch d0 ps =>
    simp only [stp] at h
    split at h
    · obtain ⟨_, S1, _, h1⟩ := tI_inv h
      rcases lkT_any h1 with ⟨t, h2⟩ | h2 <;> exact fG _ _ _ h2
    · cases h
  | invokestatic ix =>
    simp only [stp] at h
    split at h
    · exact fJ _ (bif_inv h).2
    · exact fC h
  | invokevirtual ix =>
    simp only [stp] at h
    split at h
    · exact fJ _ (bif_inv h).2
    · exact fC h
  | invokespecial ix =>
    simp only [stp] at h
    split at h
    · exact fJ _ (bif_inv h).2
    · exact fC h
  | ireturn => exact Or.inl ⟨.ireturn, h⟩
  | lreturn => exact Or.inl ⟨.lreturn, h⟩
  | areturn => exact Or.inl ⟨.areturn, h⟩
  | return_ => exact Or.inl ⟨.return_, h⟩
  | iload i0 => exact fL h
  | iload_n i0 => exact fL h
  | lload i0 => exact fL h
  | lload_n i0 => exact fL h
  | aload i0 => exact fL h
  | aload_n i0 => exact fL h
  | istore i0 => exact fL h
  | istore_n i0 => exact fL h
  | lstore i0 => exact fL h
  | lstore_n i0 => exact fL h
  | astore_n i0 => exact fL h
  | iinc i0 c0 => exact fL h
  | getfield ix => exact fH h
  | putfield ix => exact fH h
  | getstatic ix => exact fH h
  | iaload => exact fH h
  | baload => exact fH h
  | laload => exact fH h
  | aaload => exact fH h
  | iastore => exact fH h
  | bastore => exact fH h
  | lastore => exact fH h
  | aastore => exact fH h
  | arraylength => exact fH h
  | new ix => exact fH h
  | newarray t => exact fH h
  | anewarray ix => exact fH h
  | _ => exact fS h
theorem exm_kd {X : XS} {call : Nat → List AV → HP → RR} (hc : ∀ y as H r H', call y as H = some (r, H') → mno H H') {n rt : Nat} {code : List EN} {K : Nat → LL → ST → HP → RR} {x : Option AV × HP} (hK : ∀ pc L S H, K pc L S H = some x → kd rt x) : ∀ (f : Nat) (b : Bool) (is : List EN) (L : LL) (S : ST) (H : HP), exm X call n rt code f b is L S H K = some x → kd rt x
  | 0, b, is, L, S, H, h => by cases h
  | f + 1, b, [], L, S, H, h => by cases h
  | f + 1, b, (pc, cut, i, len, ax, cI, cL) :: is, L, S, H, h => by
    unfold exm at h
    split at h
    · exact hK _ _ _ _ h
    · rcases stp_kd hc h with ⟨_, h1⟩ | ⟨is', L', S', H', h1, h2⟩
      · exact opR_kd h1
      · exact exm_kd hc hK f false is' L' S' H' h1
theorem rcm_kd {X : XS} {call : Nat → List AV → HP → RR} (hc : ∀ y as H r H', call y as H = some (r, H') → mno H H') {n rt : Nat} {code : List EN} {x : Option AV × HP} : ∀ (f pc : Nat) (L : LL) (S : ST) (H : HP), rcm X call n rt code f pc L S H = some x → kd rt x
  | 0, pc, L, S, H, h => by cases h
  | f + 1, pc, L, S, H, h => exm_kd hc (fun pc L S H h' => rcm_kd hc f pc L S H h') 5000 true _ L S H h
theorem cal_kd {X : XS} {d y o n rt : Nat} {code : List EN} (h : nth MT y = some (o, n, rt, code)) {as : List AV} {H : HP} {x : Option AV × HP} (e : cal X (d + 1) y as H = some x) : kd rt x := by
  unfold cal at e
  rw [h] at e
  exact rcm_kd (cal_mono d) _ _ _ _ _ (bif_inv e).2
theorem cal_vI {X : XS} {y o n rt : Nat} {code : List EN} (h : nth MT y = some (o, n, rt, code)) (hr : rt = 1 ∨ rt = 4) {as : List AV} {H H' : HP} {v : AV} (e : cal X 100 y as H = some (some v, H')) : ∃ z, v = vI z := by
  obtain ⟨z, q⟩ := (cal_kd h e).1 hr
  injection q with q
  exact ⟨z, q⟩
theorem cal_vL {X : XS} {y o n : Nat} {code : List EN} (h : nth MT y = some (o, n, 2, code)) {as : List AV} {H H' : HP} {v : AV} (e : cal X 100 y as H = some (some v, H')) : ∃ z, v = vL z := by
  obtain ⟨z, q⟩ := (cal_kd h e).2 rfl
  injection q with q
  exact ⟨z, q⟩
