/-! cells are never fewer -/
def mno (H H' : HP) : Prop := H.1.length ≤ H'.1.length ∧ tot H.1 ≤ tot H'.1
theorem mno.rf (H : HP) : mno H H := ⟨Nat.le_refl _, Nat.le_refl _⟩
theorem mno.tr {a b c : HP} (h : mno a b) (h' : mno b c) : mno a c := ⟨Nat.le_trans h.1 h'.1, Nat.le_trans h.2 h'.2⟩
theorem opS_mono {i : Instr} {ax : List Nat} {cI : Int32} {cL : Int64} {S : ST} {k : ST → RR} {x : Option AV × HP} (h : opS i ax cI cL S k = some x) : ∃ S', k S' = some x := by
  cases i <;> simp only [opS] at h <;> first
    | exact ⟨_, h⟩
    | exact (let ⟨_, _, _, _, h1⟩ := i2_inv h; ⟨_, h1⟩)
    | exact (let ⟨_, _, _, _, h1⟩ := l2_inv h; ⟨_, h1⟩)
    | exact (let ⟨_, _, _, _, h1⟩ := ls2_inv h; ⟨_, h1⟩)
    | exact (let ⟨_, _, _, h1⟩ := tI_inv h; let ⟨_, _, _, h2⟩ := tI_inv h1; ⟨_, (ite_inv h2).2⟩)
    | exact (let ⟨_, _, _, h1⟩ := tL_inv h; let ⟨_, _, _, h2⟩ := tL_inv h1; ⟨_, (ite_inv h2).2⟩)
    | exact (let ⟨_, _, _, h1⟩ := tL_inv h; let ⟨_, _, _, h2⟩ := tL_inv h1; ⟨_, h2⟩)
    | exact (let ⟨_, _, _, h1⟩ := tI_inv h; ⟨_, h1⟩)
    | exact (let ⟨_, _, _, h1⟩ := tL_inv h; ⟨_, h1⟩)
    | exact (let ⟨_, _, _, _, h1⟩ := t1_inv h; let ⟨_, _, _, _, h2⟩ := t1_inv h1; ⟨_, h2⟩)
    | exact (let ⟨_, _, _, _, h1⟩ := t1_inv h; ⟨_, h1⟩)
    | cases h
    | (split at h <;> exact ⟨_, h⟩)
theorem opL_mono {n : Nat} {i : Instr} {cI : Int32} {L : LL} {S : ST} {k : LL → ST → RR} {x : Option AV × HP} (h : opL n i cI L S k = some x) : ∃ L' S', k L' S' = some x := by
  cases i <;> simp only [opL] at h <;> first
    | exact (let ⟨_, _, h1⟩ := ldI_inv h; ⟨_, _, h1⟩)
    | exact (let ⟨_, _, h1⟩ := ldL_inv h; ⟨_, _, h1⟩)
    | exact (let ⟨_, _, h1⟩ := ldP_inv h; ⟨_, _, h1⟩)
    | exact (let ⟨_, _, _, h1⟩ := tI_inv h; ⟨_, _, (bif_inv h1).2⟩)
    | exact (let ⟨_, _, _, h1⟩ := tL_inv h; ⟨_, _, (bif_inv h1).2⟩)
    | exact (let ⟨_, _, _, h1⟩ := stP_inv (bif_inv h).2; ⟨_, _, h1⟩)
    | cases h
    | (split at h; exact ⟨_, _, (bif_inv h).2⟩; cases h)
theorem mno_put {H : HP} {n : Nat} {c c' : SC} {h' : DT} (hn : H.1[n]? = some c) (hs : szC c' = szC c) : mno H (putL H.1 n c', h') := by
  obtain ⟨a, b⟩ := szN_set hn hs h'
  exact ⟨Nat.le_of_eq a.symm, Nat.le_of_eq b.symm⟩
theorem mno_app (H : HP) (c : SC) (h' : DT) : mno H (H.1 ++ [c], h') := by
  obtain ⟨a, b⟩ := tot1 H.1 c
  exact ⟨by show _ ≤ (H.1 ++ [c]).length; omega, by show _ ≤ tot (H.1 ++ [c]); omega⟩
theorem opH_mono {X : XS} {i : Instr} {ax : List Nat} {S : ST} {H : HP} {k : ST → HP → RR} {x : Option AV × HP} (h : opH X i ax S H k = some x) : ∃ S' H', k S' H' = some x ∧ mno H H' := by
  cases i <;> simp only [opH] at h <;> first
    | cases h
    | exact (let ⟨_, _, _, h0⟩ := tI_inv h; let ⟨_, _, _, h1⟩ := tI_inv h0; let ⟨_, _, _, h2⟩ := tN_inv h1; let ⟨_, _, h3⟩ := oneN_inv h2; ⟨_, _, (inb_inv h3).2, mno.rf _⟩)
    | exact (let ⟨_, _, _, h0⟩ := tL_inv h; let ⟨_, _, _, h1⟩ := tI_inv h0; let ⟨_, _, _, h2⟩ := tN_inv h1; let ⟨_, _, h3⟩ := oneN_inv h2; ⟨_, _, (inb_inv h3).2, mno.rf _⟩)
    | exact (let ⟨_, _, _, h1⟩ := tI_inv h; let ⟨_, _, _, h2⟩ := tN_inv h1; let ⟨_, _, h3⟩ := oneN_inv h2; ⟨_, _, (inb_inv h3).2, mno.rf _⟩)
    | exact (let ⟨_, _, _, h1⟩ := tI_inv h; let ⟨_, _, _, h2⟩ := tN_inv h1; let ⟨_, _, h3⟩ := oneR_inv h2; ⟨_, _, (inb_inv h3).2, mno.rf _⟩)
    | exact (let ⟨_, _, _, h1⟩ := tI_inv h; ⟨_, _, (ite_inv h1).2, mno_app _ _ _⟩)
    | skip
  · -- aastore
    obtain ⟨_, _, _, h0⟩ := tN_inv h
    obtain ⟨_, _, _, h1⟩ := tI_inv h0
    obtain ⟨_, _, _, h2⟩ := tN_inv h1
    obtain ⟨r, hr, h3⟩ := oneR_inv h2
    obtain ⟨_, _, h4⟩ := oneC_inv h3
    exact ⟨_, _, (inb_inv h4).2, mno_put hr (by simp [szC, putL_eq])⟩
  · -- arraylength
    split at h
    · exact ⟨_, _, (bif_inv h).2, mno.rf _⟩
    · cases h
  · -- getfield
    split at h
    · obtain ⟨_, _, _, h1⟩ := tN_inv h
      obtain ⟨_, _, h2⟩ := oneC_inv h1
      split at h2 <;> exact ⟨_, _, h2, mno.rf _⟩
    · cases h
  · -- getstatic
    split at h
    · exact ⟨_, _, h, mno.rf _⟩
    · cases h
  · -- iaload
    split at h
    · rename_i i0 e S1
      cases he : Nat.beq e 100 with
      | true =>
        rw [he] at h
        simp only [cond_true] at h
        exact ⟨_, _, (inb_inv h).2, mno.rf _⟩
      | false =>
        rw [he] at h
        simp only [cond_false] at h
        exact ⟨_, _, (inb_inv (bif_inv h).2).2, mno.rf _⟩
    · obtain ⟨_, _, _, h1⟩ := tI_inv h
      obtain ⟨_, _, _, h2⟩ := tN_inv h1
      obtain ⟨_, _, h3⟩ := oneN_inv h2
      exact ⟨_, _, (inb_inv h3).2, mno.rf _⟩
  · -- new
    split at h
    · exact ⟨_, _, h, mno_app _ _ _⟩
    · cases h
  · -- newarray
    split at h
    · obtain ⟨_, _, _, h1⟩ := tI_inv h
      exact ⟨_, _, (ite_inv h1).2, mno_app _ _ _⟩
    · cases h
  · -- putfield
    split at h
    · split at h
      · obtain ⟨_, _, _, h1⟩ := tI_inv h
        obtain ⟨_, _, _, h2⟩ := tN_inv h1
        obtain ⟨_, _, h3⟩ := oneC_inv h2
        exact ⟨_, _, h3, mno.rf _⟩
      · obtain ⟨_, _, _, h1⟩ := tL_inv h
        obtain ⟨_, _, _, h2⟩ := tN_inv h1
        obtain ⟨_, _, h3⟩ := oneC_inv h2
        exact ⟨_, _, h3, mno.rf _⟩
      · obtain ⟨_, _, _, h1⟩ := tP_inv h
        obtain ⟨_, _, _, h2⟩ := tN_inv h1
        obtain ⟨_, hr, h3⟩ := oneC_inv h2
        exact ⟨_, _, (bif_inv h3).2, mno_put hr rfl⟩
      · obtain ⟨_, _, _, h1⟩ := tI_inv h
        obtain ⟨_, _, _, h2⟩ := tN_inv h1
        obtain ⟨_, _, h3⟩ := oneC_inv h2
        split at h3
        · exact ⟨_, _, h3, mno.rf _⟩
        · cases h3
    · cases h
theorem opJ_mono {b : Nat} {S : ST} {H : HP} {k : ST → HP → RR} {x : Option AV × HP} (h : opJ b S H k = some x) : ∃ S' H', k S' H' = some x ∧ mno H H' := by
  unfold opJ at h
  split at h
  · obtain ⟨_, _, _, _, h1⟩ := i2_inv h; exact ⟨_, _, h1, mno.rf _⟩
  · obtain ⟨_, _, _, _, h1⟩ := i2_inv h; exact ⟨_, _, h1, mno.rf _⟩
  · obtain ⟨_, _, _, h1⟩ := tI_inv h; exact ⟨_, _, h1, mno.rf _⟩
  · obtain ⟨_, _, _, h1⟩ := tI_inv h; exact ⟨_, _, h1, mno.rf _⟩
  · obtain ⟨_, _, _, h1⟩ := tI_inv h
    obtain ⟨_, _, _, h2⟩ := tI_inv h1
    obtain ⟨_, _, _, h3⟩ := tN_inv h2
    obtain ⟨_, _, _, h4⟩ := tI_inv h3
    obtain ⟨_, _, _, h5⟩ := tN_inv h4
    obtain ⟨_, _, h6⟩ := oneN_inv h5
    obtain ⟨_, _, h7⟩ := oneN_inv h6
    exact ⟨_, _, (ite_inv h7).2, mno.rf _⟩
  · obtain ⟨_, _, _, h1⟩ := tI_inv h
    obtain ⟨_, _, _, h2⟩ := tI_inv h1
    obtain ⟨_, _, _, h3⟩ := tN_inv h2
    obtain ⟨_, _, _, h4⟩ := tI_inv h3
    obtain ⟨_, _, _, h5⟩ := tN_inv h4
    obtain ⟨_, _, h6⟩ := oneN_inv h5
    obtain ⟨_, _, h7⟩ := oneN_inv h6
    exact ⟨_, _, (ite_inv h7).2, mno.rf _⟩
  · split at h
    · exact ⟨_, _, (bif_inv h).2, mno.rf _⟩
    · cases h
  · obtain ⟨_, _, _, h1⟩ := tI_inv h
    split at h1
    · exact ⟨_, _, (inb_inv (bif_inv h1).2).2, mno.rf _⟩
    · cases h1
  · obtain ⟨_, _, _, h1⟩ := tN_inv h; exact ⟨_, _, h1, mno.rf _⟩
  · obtain ⟨_, _, _, _, h1⟩ := l2_inv h; exact ⟨_, _, h1, mno.rf _⟩
  · obtain ⟨_, _, _, _, h1⟩ := l2_inv h; exact ⟨_, _, h1, mno.rf _⟩
  · cases h
theorem opC_mono {call : Nat → List AV → HP → RR} (hc : ∀ y as H r H', call y as H = some (r, H') → mno H H') {ax : List Nat} {S : ST} {H : HP} {k : ST → HP → RR} {x : Option AV × HP} (h : opC call ax S H k = some x) : ∃ S' H', k S' H' = some x ∧ mno H H' := by
  unfold opC at h
  split at h
  · obtain ⟨as, S1, -, -, h1⟩ := popN_inv h
    simp only at h1
    split at h1
    · obtain ⟨_, h2⟩ := bif_inv h1
      obtain ⟨r, H1, hr, h3⟩ := goC_inv h2
      exact ⟨_, _, h3, hc _ _ _ _ _ hr⟩
    · obtain ⟨_, _, _, h2⟩ := tN_inv h1
      obtain ⟨_, _, h3⟩ := oneC_inv h2
      obtain ⟨_, h4⟩ := bif_inv h3
      obtain ⟨r, H1, hr, h5⟩ := goC_inv h4
      exact ⟨_, _, h5, hc _ _ _ _ _ hr⟩
    · cases h1
  · cases h
theorem opR_eq {rt : Nat} {i : Instr} {S : ST} {H : HP} {x : Option AV × HP} (h : opR rt i S H = some x) : x.2 = H := by
  unfold opR at h
  split at h <;> (try (split at h)) <;> (try (split at h)) <;> first | (cases h; rfl) | cases h
theorem swT_any {x : Int32} {k : Nat → RR} {d : RR} {v : Option AV × HP} {ts : List Nat} {lo : Nat} (h : swT x k d lo ts = some v) : (∃ t, k t = some v) ∨ d = some v := by
  rcases swT_inv h with ⟨_, t, _, _, h1⟩ | ⟨h1, _⟩
  · exact Or.inl ⟨t, h1⟩
  · exact Or.inr h1
theorem lkT_any {x : Int32} {k : Nat → RR} {d : RR} {v : Option AV × HP} : ∀ {ts : List Nat}, lkT x k d ts = some v → (∃ t, k t = some v) ∨ d = some v
  | [], h => Or.inr h
  | [_], h => Or.inr h
  | a :: t :: r, h => by
    unfold lkT at h
    split at h
    · exact Or.inl ⟨t, h⟩
    · exact lkT_any h
set_option maxHeartbeats 8000000 in
theorem stp_mono {X : XS} {call : Nat → List AV → HP → RR} (hc : ∀ y as H r H', call y as H = some (r, H') → mno H H') {n rt : Nat} {go : List EN → LL → ST → HP → RR} {code is : List EN} {i : Instr} {ax : List Nat} {cI : Int32} {cL : Int64} {L : LL} {S : ST} {H : HP} {x : Option AV × HP} (h : stp X call n rt go code is i ax cI cL L S H = some x) : x.2 = H ∨ ∃ is' L' S' H', go is' L' S' H' = some x ∧ mno H H' := by
  have fS : opS i ax cI cL S (fun S => go is L S H) = some x → x.2 = H ∨ ∃ is' L' S' H', go is' L' S' H' = some x ∧ mno H H' := fun h => by
    obtain ⟨S', h1⟩ := opS_mono h
    exact Or.inr ⟨_, _, _, _, h1, mno.rf _⟩
  have fL : opL n i cI L S (fun L S => go is L S H) = some x → x.2 = H ∨ ∃ is' L' S' H', go is' L' S' H' = some x ∧ mno H H' := fun h => by
    obtain ⟨L', S', h1⟩ := opL_mono h
    exact Or.inr ⟨_, _, _, _, h1, mno.rf _⟩
  have fH : opH X i ax S H (fun S H => go is L S H) = some x → x.2 = H ∨ ∃ is' L' S' H', go is' L' S' H' = some x ∧ mno H H' := fun h => by
    obtain ⟨S', H', h1, h2⟩ := opH_mono h
    exact Or.inr ⟨_, _, _, _, h1, h2⟩
  have fJ : ∀ b, opJ b S H (fun S H => go is L S H) = some x → x.2 = H ∨ ∃ is' L' S' H', go is' L' S' H' = some x ∧ mno H H' := fun b h => by
    obtain ⟨S', H', h1, h2⟩ := opJ_mono h
    exact Or.inr ⟨_, _, _, _, h1, h2⟩
  have fC : opC call ax S H (fun S H => go is L S H) = some x → x.2 = H ∨ ∃ is' L' S' H', go is' L' S' H' = some x ∧ mno H H' := fun h => by
    obtain ⟨S', H', h1, h2⟩ := opC_mono hc h
    exact Or.inr ⟨_, _, _, _, h1, h2⟩
  have fG : ∀ is' L' S', go is' L' S' H = some x → x.2 = H ∨ ∃ is' L' S' H', go is' L' S' H' = some x ∧ mno H H' := fun _ _ _ h => Or.inr ⟨_, _, _, _, h, mno.rf _⟩
  have fM : ∀ S', (match (generalizing := false) ax with
      | t :: _ => go (jt t code) L S' H
      | [] => none) = some x → x.2 = H ∨ ∃ is' L' S' H', go is' L' S' H' = some x ∧ mno H H' := fun S' h => by
    split at h
    · exact fG _ _ _ h
    · cases h
  cases i with
  | goto off => exact fM S h
  | ifCond c off =>
    cases c <;> (simp only [stp] at h; obtain ⟨_, S1, _, h1⟩ := tI_inv h; split at h1 <;> first | exact fG _ _ _ h1 | exact fM S1 h1)
  | if_icmp c off =>
    cases c <;> (simp only [stp] at h; obtain ⟨_, S0, _, h0⟩ := tI_inv h; obtain ⟨_, S1, _, h1⟩ := tI_inv h0; split at h1 <;> first | exact fG _ _ _ h1 | exact fM S1 h1)
  | ifnull off =>
    simp only [stp] at h
    obtain ⟨o, S1, _, h1⟩ := tP_inv h
    cases o with
    | none => exact fM S1 h1
    | some q => exact fG _ _ _ h1
  | ifnonnull off =>
    simp only [stp] at h
    obtain ⟨o, S1, _, h1⟩ := tP_inv h
    cases o with
    | none => exact fG _ _ _ h1
    | some q => exact fM S1 h1
  | tableswitch d0 lo hi os =>
    simp only [stp] at h
    split at h
    · obtain ⟨_, S1, _, h1⟩ := tI_inv h
      rcases swT_any h1 with ⟨t, h2⟩ | h2 <;> exact fG _ _ _ h2
    · cases h
  | lookupswitch d0 ps =>
    simp only [stp] at h
    split at h
    · obtain ⟨_, S1, _, h1⟩ := tI_inv h
      rcases lkT_any h1 with ⟨t, h2⟩ | h2 <;> exact fG _ _ _ h2
    · cases h
  | invokestatic ix =>
    simp only [stp] at h
    split at h
    · exact fJ _ (bif_inv h).2
    · exact fC h
  | invokevirtual ix =>
    simp only [stp] at h
    split at h
    · exact fJ _ (bif_inv h).2
    · exact fC h
  | invokespecial ix =>
    simp only [stp] at h
    split at h
    · exact fJ _ (bif_inv h).2
    · exact fC h
  | ireturn => exact Or.inl (opR_eq (i := .ireturn) h)
  | lreturn => exact Or.inl (opR_eq (i := .lreturn) h)
  | areturn => exact Or.inl (opR_eq (i := .areturn) h)
  | return_ => exact Or.inl (opR_eq (i := .return_) h)
  | iload i0 => exact fL h
  | iload_n i0 => exact fL h
  | lload i0 => exact fL h
  | lload_n i0 => exact fL h
  | aload i0 => exact fL h
  | aload_n i0 => exact fL h
  | istore i0 => exact fL h
  | istore_n i0 => exact fL h
  | lstore i0 => exact fL h
  | lstore_n i0 => exact fL h
  | astore_n i0 => exact fL h
  | iinc i0 c0 => exact fL h
  | getfield ix => exact fH h
  | putfield ix => exact fH h
  | getstatic ix => exact fH h
  | iaload => exact fH h
  | baload => exact fH h
  | laload => exact fH h
  | aaload => exact fH h
  | iastore => exact fH h
  | bastore => exact fH h
  | lastore => exact fH h
  | aastore => exact fH h
  | arraylength => exact fH h
  | new ix => exact fH h
  | newarray t => exact fH h
  | anewarray ix => exact fH h
  | _ => exact fS h
theorem exm_mono {X : XS} {call : Nat → List AV → HP → RR} (hc : ∀ y as H r H', call y as H = some (r, H') → mno H H') {n rt : Nat} {code : List EN} {K : Nat → LL → ST → HP → RR} {x : Option AV × HP} (hK : ∀ pc L S H, K pc L S H = some x → mno H x.2) : ∀ (f : Nat) (b : Bool) (is : List EN) (L : LL) (S : ST) (H : HP), exm X call n rt code f b is L S H K = some x → mno H x.2
  | 0, b, is, L, S, H, h => by cases h
  | f + 1, b, [], L, S, H, h => by cases h
  | f + 1, b, (pc, cut, i, len, ax, cI, cL) :: is, L, S, H, h => by
    unfold exm at h
    split at h
    · exact hK _ _ _ _ h
    · rcases stp_mono hc h with h1 | ⟨is', L', S', H', h1, h2⟩
      · rw [h1]; exact mno.rf _
      · exact h2.tr (exm_mono hc hK f false is' L' S' H' h1)
theorem rcm_mono {X : XS} {call : Nat → List AV → HP → RR} (hc : ∀ y as H r H', call y as H = some (r, H') → mno H H') {n rt : Nat} {code : List EN} {x : Option AV × HP} : ∀ (f pc : Nat) (L : LL) (S : ST) (H : HP), rcm X call n rt code f pc L S H = some x → mno H x.2
  | 0, pc, L, S, H, h => by cases h
  | f + 1, pc, L, S, H, h => exm_mono hc (fun pc L S H h' => rcm_mono hc f pc L S H h') 5000 true _ L S H h
theorem cal_mono {X : XS} : ∀ (d y : Nat) (as : List AV) (H : HP) (r : Option AV) (H' : HP), cal X d y as H = some (r, H') → mno H H'
  | 0, y, as, H, r, H', h => by cases h
  | d + 1, y, as, H, r, H', h => by
    unfold cal at h
    split at h
    · exact rcm_mono (cal_mono d) _ _ _ _ _ (bif_inv h).2
    · cases h
