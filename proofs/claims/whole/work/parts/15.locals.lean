/-! rows of the instructions that read and write locals -/
def cLL (E : Nat → Nat) (B : Nat) (L : LL) : List (Nat × Value) := L.map (fun q => (q.1, cv E B q.2))
theorem lv_mono {ls : Array Slot} {n : Nat} {l l' : List (Nat × Value)} (h : lv_has ls n l) (hs : ∀ q ∈ l', q ∈ l) : lv_has ls n l' := ⟨h.1, h.2.1, fun q hq => h.2.2 q (hs q hq)⟩
theorem lk_mem {i : Nat} {L : LL} {v : AV} (h : lk i L = some v) : (i, v) ∈ L := by
  induction L with
  | nil => cases h
  | cons q t ih =>
    unfold lk at h
    cases hb : Nat.beq q.1 i with
    | true =>
      rw [hb] at h
      have e : q.1 = i := Nat.eq_of_beq_eq_true hb
      have e2 : q.2 = v := Option.some.inj h
      rw [← e, ← e2]
      exact List.mem_cons_self
    | false =>
      rw [hb] at h
      exact List.mem_cons_of_mem _ (ih h)
theorem lk_has {E : Nat → Nat} {B i n : Nat} {L : LL} {v : AV} {ls : Array Slot} (h : lk i L = some v) (hl : lv_has ls n (cLL E B L)) : ls[i]? = some (.val (cv E B v)) := hl.2.2 (i, cv E B v) (List.mem_map.mpr ⟨(i, v), lk_mem h, rfl⟩)
theorem rs_mem {live : List Nat} {L : LL} {q : Nat × AV} (h : q ∈ rs live L) : q ∈ L := by
  induction live with
  | nil => cases h
  | cons i t ih =>
    unfold rs at h
    split at h
    · rename_i v hv
      rcases List.mem_cons.mp h with rfl | h
      · exact lk_mem hv
      · exact ih h
    · exact ih h
theorem rs_has {E : Nat → Nat} {B n : Nat} {live : List Nat} {L : LL} {ls : Array Slot} (hl : lv_has ls n (cLL E B L)) : lv_has ls n (cLL E B (rs live L)) := by
  refine lv_mono hl fun q hq => ?_
  obtain ⟨a, ha, rfl⟩ := List.mem_map.mp hq
  exact List.mem_map.mpr ⟨a, rs_mem ha, rfl⟩
theorem isL_cat (E : Nat → Nat) (B : Nat) (v : AV) : ((cv E B v).category == 2) = isL v := by
  match v with
  | .inl x => rfl
  | .inr (.inl x) => rfl
  | .inr (.inr (.inl none)) => rfl
  | .inr (.inr (.inl (some n))) => rfl
  | .inr (.inr (.inr e)) => rfl
theorem nbeq (a b : Nat) : Nat.beq a b = (a == b) := by
  by_cases h : a = b
  · subst h; simp
  · rw [beq_false_of_ne h]
    cases hb : Nat.beq a b with
    | false => rfl
    | true => exact absurd (Nat.eq_of_beq_eq_true hb) h
theorem sl_sub1 {E : Nat → Nat} {B i : Nat} {v : AV} {L : LL} : ∀ q ∈ cLL E B (sl false i v L), q ∈ (i, cv E B v) :: (cLL E B L).filter (fun q => !(q.1 == i) && !(q.1 + 1 == i && q.2.category == 2)) := by
  intro q hq
  obtain ⟨a, ha, rfl⟩ := List.mem_map.mp hq
  rcases List.mem_cons.mp ha with rfl | ha
  · exact List.mem_cons_self
  · obtain ⟨h1, h2⟩ := List.mem_filter.mp ha
    refine List.mem_cons_of_mem _ (List.mem_filter.mpr ⟨List.mem_map.mpr ⟨a, h1, rfl⟩, ?_⟩)
    simp only [nbeq, Bool.false_and, Bool.not_false, Bool.and_true] at h2
    simp only [isL_cat]
    exact h2
theorem sl_sub2 {E : Nat → Nat} {B i : Nat} {v : AV} {L : LL} : ∀ q ∈ cLL E B (sl true i v L), q ∈ (i, cv E B v) :: (cLL E B L).filter (fun q => !(q.1 == i) && (!(q.1 == i + 1) && !(q.1 + 1 == i && q.2.category == 2))) := by
  intro q hq
  obtain ⟨a, ha, rfl⟩ := List.mem_map.mp hq
  rcases List.mem_cons.mp ha with rfl | ha
  · exact List.mem_cons_self
  · obtain ⟨h1, h2⟩ := List.mem_filter.mp ha
    refine List.mem_cons_of_mem _ (List.mem_filter.mpr ⟨List.mem_map.mpr ⟨a, h1, rfl⟩, ?_⟩)
    simp only [nbeq, Bool.true_and] at h2
    simp only [isL_cat]
    simp only [Bool.and_eq_true] at h2 ⊢
    exact ⟨h2.1, h2.2.2, h2.2.1⟩
theorem ldI_inv {i : Nat} {L : LL} {S : ST} {k : LL → ST → RR} {x : Option AV × HP} (h : ldI i L S k = some x) : ∃ a, lk i L = some (vI a) ∧ k L (vI a :: S) = some x := by
  unfold ldI at h
  split at h
  · exact ⟨_, by assumption, h⟩
  · cases h
theorem ldL_inv {i : Nat} {L : LL} {S : ST} {k : LL → ST → RR} {x : Option AV × HP} (h : ldL i L S k = some x) : ∃ a, lk i L = some (vL a) ∧ k L (vL a :: S) = some x := by
  unfold ldL at h
  split at h
  · exact ⟨_, by assumption, h⟩
  · cases h
theorem ldP_inv {i : Nat} {L : LL} {S : ST} {k : LL → ST → RR} {x : Option AV × HP} (h : ldP i L S k = some x) : ∃ a, lk i L = some (.inr (.inr a)) ∧ k L (.inr (.inr a) :: S) = some x := by
  unfold ldP at h
  split at h
  · exact ⟨_, by assumption, h⟩
  · cases h
theorem stP_inv {i : Nat} {L : LL} {S : ST} {k : LL → ST → RR} {x : Option AV × HP} (h : stP i L S k = some x) : ∃ a S', S = .inr (.inr a) :: S' ∧ k (sl false i (.inr (.inr a)) L) S' = some x := by
  unfold stP at h
  split at h
  · exact ⟨_, _, rfl, h⟩
  · cases h
theorem bif_inv {b : Bool} {k : RR} {x : Option AV × HP} (h : (bif b then k else none) = some x) : b = true ∧ k = some x := by
  cases b with
  | true => exact ⟨rfl, h⟩
  | false => cases h
set_option maxHeartbeats 4000000 in
theorem opL_ok {T : TT} {own n : Nat} {isI : Bool} {cc : ByteArray} {B N0 : Nat} {D : va_G} {kc : Nat → ClassId} {E V : Nat → Nat} {X : XS} (C : Cx T own n isI cc B N0 D kc E V X) {pc : Nat} {i : Instr} {len : Nat} {ax : List Nat} {cI : Int32} {cL : Int64} (hd : decode cc pc = .ok (i, len)) (hk : len = lenF i len ∧ axOk own isI pc i ax cI cL = true) {L : LL} {S : ST} {k : LL → ST → RR} {x : Option AV × HP} (h : opL n i cI L S k = some x) :
    ∃ L' S', k L' S' = some x ∧ ∀ (Hm : Heap) (locs : List Loc) (cells slots : Nat) (Q : State → Prop) (ls : Array Slot), lv_has ls n (cLL E B L) → (∀ ls' : Array Slot, lv_has ls' n (cLL E B L') → WC T Hm locs cells slots Q (pc + len) ls' (S'.map (cv E B))) → WC T Hm locs cells slots Q pc ls (S.map (cv E B)) := by
  cases i with
  | iload i =>
    obtain rfl : len = 2 := by simpa [lenF] using hk.1
    obtain ⟨a, ha, h1⟩ := ldI_inv h
    exact ⟨_, _, h1, fun _ _ _ _ _ ls hl w => lv_iload C.1 C.2.1 hd (lk_has ha hl) (w ls hl)⟩
  | iload_n i =>
    obtain rfl : len = 1 := by simpa [lenF] using hk.1
    obtain ⟨a, ha, h1⟩ := ldI_inv h
    exact ⟨_, _, h1, fun _ _ _ _ _ ls hl w => lv_iload_n C.1 C.2.1 hd rfl (lk_has ha hl) (w ls hl)⟩
  | lload i =>
    obtain rfl : len = 2 := by simpa [lenF] using hk.1
    obtain ⟨a, ha, h1⟩ := ldL_inv h
    exact ⟨_, _, h1, fun _ _ _ _ _ ls hl w => lv_lload C.1 C.2.1 hd (lk_has ha hl) (w ls hl)⟩
  | lload_n i =>
    obtain rfl : len = 1 := by simpa [lenF] using hk.1
    obtain ⟨a, ha, h1⟩ := ldL_inv h
    exact ⟨_, _, h1, fun _ _ _ _ _ ls hl w => lv_lload_n C.1 C.2.1 hd rfl (lk_has ha hl) (w ls hl)⟩
  | aload i =>
    obtain rfl : len = 2 := by simpa [lenF] using hk.1
    obtain ⟨a, ha, h1⟩ := ldP_inv h
    refine ⟨_, _, h1, fun _ _ _ _ _ ls hl w => ?_⟩
    match a, ha, w with
    | .inl none, ha, w => exact lv_aloadN C.1 C.2.1 hd (lk_has ha hl) (w ls hl)
    | .inl (some q), ha, w => exact lv_aload C.1 C.2.1 hd (lk_has ha hl) (w ls hl)
    | .inr q, ha, w => exact lv_aload C.1 C.2.1 hd (lk_has ha hl) (w ls hl)
  | aload_n i =>
    obtain rfl : len = 1 := by simpa [lenF] using hk.1
    obtain ⟨a, ha, h1⟩ := ldP_inv h
    refine ⟨_, _, h1, fun _ _ _ _ _ ls hl w => ?_⟩
    match a, ha, w with
    | .inl none, ha, w => exact lv_aload_nN C.1 C.2.1 hd rfl (lk_has ha hl) (w ls hl)
    | .inl (some q), ha, w => exact lv_aload_n C.1 C.2.1 hd rfl (lk_has ha hl) (w ls hl)
    | .inr q, ha, w => exact lv_aload_n C.1 C.2.1 hd rfl (lk_has ha hl) (w ls hl)
  | istore i =>
    obtain rfl : len = 2 := by simpa [lenF] using hk.1
    obtain ⟨a, S', rfl, h1⟩ := tI_inv h
    obtain ⟨hb, h2⟩ := bif_inv h1
    exact ⟨_, _, h2, fun _ _ _ _ _ ls hl w => lv_istore C.1 C.2.1 hd hl (Nat.le_of_ble_eq_true hb) rfl (fun ls' hl' => w ls' (lv_mono hl' sl_sub1))⟩
  | istore_n i =>
    obtain rfl : len = 1 := by simpa [lenF] using hk.1
    obtain ⟨a, S', rfl, h1⟩ := tI_inv h
    obtain ⟨hb, h2⟩ := bif_inv h1
    exact ⟨_, _, h2, fun _ _ _ _ _ ls hl w => lv_istore_n C.1 C.2.1 hd rfl hl (Nat.le_of_ble_eq_true hb) rfl (fun ls' hl' => w ls' (lv_mono hl' sl_sub1))⟩
  | lstore i =>
    obtain rfl : len = 2 := by simpa [lenF] using hk.1
    obtain ⟨a, S', rfl, h1⟩ := tL_inv h
    obtain ⟨hb, h2⟩ := bif_inv h1
    exact ⟨_, _, h2, fun _ _ _ _ _ ls hl w => lv_lstore C.1 C.2.1 hd hl (Nat.le_of_ble_eq_true hb) rfl (fun ls' hl' => w ls' (lv_mono hl' sl_sub2))⟩
  | lstore_n i =>
    obtain rfl : len = 1 := by simpa [lenF] using hk.1
    obtain ⟨a, S', rfl, h1⟩ := tL_inv h
    obtain ⟨hb, h2⟩ := bif_inv h1
    exact ⟨_, _, h2, fun _ _ _ _ _ ls hl w => lv_lstore_n C.1 C.2.1 hd rfl hl (Nat.le_of_ble_eq_true hb) rfl (fun ls' hl' => w ls' (lv_mono hl' sl_sub2))⟩
  | astore_n i =>
    obtain rfl : len = 1 := by simpa [lenF] using hk.1
    obtain ⟨hb, h1⟩ := bif_inv h
    obtain ⟨a, S', rfl, h2⟩ := stP_inv h1
    refine ⟨_, _, h2, fun _ _ _ _ _ ls hl w => ?_⟩
    match a, w with
    | .inl none, w => exact lv_astore_nN C.1 C.2.1 hd rfl hl (Nat.le_of_ble_eq_true hb) rfl (fun ls' hl' => w ls' (lv_mono hl' sl_sub1))
    | .inl (some q), w => exact lv_astore_n C.1 C.2.1 hd rfl hl (Nat.le_of_ble_eq_true hb) rfl (fun ls' hl' => w ls' (lv_mono hl' sl_sub1))
    | .inr q, w => exact lv_astore_n C.1 C.2.1 hd rfl hl (Nat.le_of_ble_eq_true hb) rfl (fun ls' hl' => w ls' (lv_mono hl' sl_sub1))
  | iinc i c0 =>
    obtain rfl : len = 3 := by simpa [lenF] using hk.1
    have hc := of_decide_eq_true hk.2
    simp only [opL] at h
    split at h
    · rename_i a ha
      obtain ⟨hb, h2⟩ := bif_inv h
      refine ⟨_, _, h2, fun _ _ _ _ _ ls hl w => ?_⟩
      obtain ⟨k0, hk0⟩ := List.getElem?_of_mem (List.mem_map.mpr ⟨(i, vI a), lk_mem ha, rfl⟩ : (i, Value.int a) ∈ cLL E B L)
      exact lv_iinc C.1 C.2.1 hd hl (k := k0) hk0 (by rw [hc]) (Nat.le_of_ble_eq_true hb) rfl (fun ls' hl' => w ls' (lv_mono hl' sl_sub1))
    · cases h
  | _ => exact absurd h (by simp [opL])
