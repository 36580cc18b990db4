/-! rows of the instructions that read and write the heap -/
theorem inN0 {c : Nat} (h : c < 12) : ∀ w ∈ u_ws (RN c) (TN c) (NN c), w ∈ lw_tbl := by
  match c, h with
  | 0, _ => exact inX0
  | 1, _ => exact inX1
  | 2, _ => exact inX2
  | 3, _ => exact inX3
  | 4, _ => exact inX4
  | 5, _ => exact inX5
  | 6, _ => exact inX6
  | 7, _ => exact inX7
  | 8, _ => exact inX8
  | 9, _ => exact inX9
  | 10, _ => exact inX10
  | 11, _ => exact inX11
theorem inN {c : Nat} (h : c < 12) : ∀ w ∈ u_ws (RN c) (TN c) (NN c), w ∈ gtb := by
  intro w hw
  refine List.mem_filter.mpr ⟨inN0 h w hw, ?_⟩
  obtain ⟨k, -, rfl⟩ := List.mem_map.mp hw
  unfold u_lay
  split <;> rfl
theorem clsN {c : Nat} (h : c < 12) : CLS[c]? = some (RN c, TN c, NN c) := by
  match c, h with
  | 0, _ => rfl
  | 1, _ => rfl
  | 2, _ => rfl
  | 3, _ => rfl
  | 4, _ => rfl
  | 5, _ => rfl
  | 6, _ => rfl
  | 7, _ => rfl
  | 8, _ => rfl
  | 9, _ => rfl
  | 10, _ => rfl
  | 11, _ => rfl
theorem tyN_ok {c : Nat} (h : c < 12) : ∀ k, k < NN c → parseFieldDescriptor (TN c k).2.2.1 = some (tyN c k) := by
  match c, h with
  | 0, _ => exact tyX0_ok
  | 1, _ => exact tyX1_ok
  | 2, _ => exact tyX2_ok
  | 3, _ => exact tyX3_ok
  | 4, _ => exact tyX4_ok
  | 5, _ => exact tyX5_ok
  | 6, _ => exact tyX6_ok
  | 7, _ => exact tyX7_ok
  | 8, _ => exact tyX8_ok
  | 9, _ => exact tyX9_ok
  | 10, _ => exact tyX10_ok
  | 11, _ => exact tyX11_ok
theorem nmN {c : Nat} (h : c < 12) : ∀ a, a < NN c → ∀ b, b < NN c → a ≠ b → (TN c a).2.1 ≠ (TN c b).2.1 := by
  match c, h with
  | 0, _ => exact nmX0
  | 1, _ => exact nmX1
  | 2, _ => exact nmX2
  | 3, _ => exact nmX3
  | 4, _ => exact nmX4
  | 5, _ => exact nmX5
  | 6, _ => exact nmX6
  | 7, _ => exact nmX7
  | 8, _ => exact nmX8
  | 9, _ => exact nmX9
  | 10, _ => exact nmX10
  | 11, _ => exact nmX11
def tyKk (c k : Nat) : Bool := match KD c k, tyN c k with
  | 0, .int => true
  | 1, .long => true
  | 3, .boolean => true
  | 2, .object _ => true
  | 2, .array _ => true
  | _, _ => false
theorem tyK_all : (List.range 12).all (fun c => (List.range (NN c)).all (fun k => tyKk c k)) = true := by decide +kernel
theorem tyK {c k : Nat} (h : c < 12) (hk : k < NN c) : tyKk c k = true := List.all_eq_true.mp (List.all_eq_true.mp tyK_all c (List.mem_range.mpr h)) k (List.mem_range.mpr hk)
theorem tyK0 {c k : Nat} (h : c < 12) (hk : k < NN c) (h0 : KD c k = 0) : tyN c k = .int := by
  have := tyK h hk
  unfold tyKk at this
  rw [h0] at this
  split at this <;> simp_all
theorem tyK1 {c k : Nat} (h : c < 12) (hk : k < NN c) (h0 : KD c k = 1) : tyN c k = .long := by
  have := tyK h hk
  unfold tyKk at this
  rw [h0] at this
  split at this <;> simp_all
theorem tyK3 {c k : Nat} (h : c < 12) (hk : k < NN c) (h0 : KD c k = 3) : tyN c k = .boolean := by
  have := tyK h hk
  unfold tyKk at this
  rw [h0] at this
  split at this <;> simp_all
theorem tyK2 {c k : Nat} (h : c < 12) (hk : k < NN c) (h0 : KD c k = 2) : (∃ n, tyN c k = .object n) ∨ ∃ t, tyN c k = .array t := by
  have := tyK h hk
  unfold tyKk at this
  rw [h0] at this
  split at this <;> simp_all
theorem KD_lt {c k : Nat} (h : c < 12) (hk : k < NN c) : KD c k < 4 := by
  have := tyK h hk
  unfold tyKk at this
  split at this <;> simp_all
/-- a field's link, out of the table -/
theorem fl_use {own ix ci j : Nat} (h : FLT.any (fun q => Nat.beq q.1 own && Nat.beq q.2.1 ix && Nat.beq q.2.2.1 ci && Nat.beq q.2.2.2.1 j) = true) : Cond.fieldLink (RN own) ix (RN ci) (TN ci j).2.1 (TN ci j).2.2.1 ∈ gtb ∧ ci < 12 ∧ j < NN ci ∧ (TN ci j).1 = RN ci := by
  obtain ⟨q, hq, hf⟩ := any_inv h
  simp only [Bool.and_eq_true, Nat.beq_eq] at hf
  obtain ⟨⟨⟨rfl, rfl⟩, rfl⟩, rfl⟩ := hf
  have hw := List.all_eq_true.mp FLT_ok q hq
  simp only [Bool.and_eq_true, decide_eq_true_eq] at hw
  obtain ⟨⟨⟨h1, h2⟩, h3⟩, h4⟩ := hw
  exact ⟨tblw h1 rfl, Nat.le_of_ble_eq_true h2, Nat.le_of_ble_eq_true h3, h4⟩
theorem oneC_inv {n : Nat} {H : HP} {ci : Nat} {k : List (Option Nat) → RR} {x : Option AV × HP} (h : oneC n H ci k = some x) : ∃ r, H.1[n]? = some (.inl (ci, r)) ∧ k r = some x := by
  unfold oneC at h
  rw [nth_eq] at h
  split at h
  · rename_i c r hr
    obtain ⟨hb, h1⟩ := bif_inv h
    rw [Nat.beq_eq] at hb
    subst hb
    exact ⟨r, hr, h1⟩
  · cases h
theorem oneN_inv {n : Nat} {H : HP} {t : Nat} {k : Nat → RR} {x : Option AV × HP} (h : oneN n H t k = some x) : ∃ m, H.1[n]? = some (.inr (.inl (t, m))) ∧ k m = some x := by
  unfold oneN at h
  rw [nth_eq] at h
  split at h
  · rename_i c r hr
    obtain ⟨hb, h1⟩ := bif_inv h
    rw [Nat.beq_eq] at hb
    subst hb
    exact ⟨r, hr, h1⟩
  · cases h
theorem oneR_inv {n : Nat} {H : HP} {k : List (Option Nat) → RR} {x : Option AV × HP} (h : oneR n H k = some x) : ∃ r, H.1[n]? = some (.inr (.inr r)) ∧ k r = some x := by
  unfold oneR at h
  rw [nth_eq] at h
  split at h
  · exact ⟨_, by assumption, h⟩
  · cases h
theorem inb_inv {i : Int32} {n : Nat} {k : Nat → RR} {x : Option AV × HP} (h : inb i n k = some x) : vp_in i n ∧ k i.toNatClampNeg = some x := ite_inv h
/-- what a heap instruction comes to: the new stack and heap, and the row -/
def HOk (T : TT) (B N0 : Nat) (D : va_G) (kc : Nat → ClassId) (E : Nat → Nat) (pc len : Nat) (S : ST) (H : HP) (S' : ST) (H' : HP) : Prop :=
  (H.1.length ≤ H'.1.length ∧ tot H.1 ≤ tot H'.1) ∧ ∀ (HF : HP) (T0 : Nat), HF.1.length - N0 ≤ T.2.2.2.1.cells → tot HF.1 - T0 ≤ T.2.2.2.1.slots → H'.1.length ≤ HF.1.length → tot H'.1 ≤ tot HF.1 →
  ∀ (Hm : Heap) (locs : List Loc) (cells slots : Nat) (Q : State → Prop) (ls : Array Slot), va_P D CLS (wsO kc B H) Hm → va_S (fun q => B ≤ q) T.2.2.2.2.1.heap Hm locs → H.1.length = N0 + cells → tot H.1 = T0 + slots → ls.size = T.2.2.2.2.2.2.2.2.2.maxLocals →
    (∀ (Hm' : Heap) (locs' : List Loc) (cells' slots' : Nat), va_P D CLS (wsO kc B H') Hm' → va_S (fun q => B ≤ q) T.2.2.2.2.1.heap Hm' locs' → H'.1.length = N0 + cells' → tot H'.1 = T0 + slots' → WC T Hm' locs' cells' slots' Q (pc + len) ls (S'.map (cv E B))) →
    WC T Hm locs cells slots Q pc ls (S.map (cv E B))
/-- an instruction that only reads -/
theorem HOk.read {T : TT} {B N0 : Nat} {D : va_G} {kc : Nat → ClassId} {E : Nat → Nat} {pc len : Nat} {S : ST} {H : HP} {S' : ST}
    (h : ∀ (Hm : Heap) (locs : List Loc) (cells slots : Nat) (Q : State → Prop) (ls : Array Slot), va_P D CLS (wsO kc B H) Hm → va_S (fun q => B ≤ q) T.2.2.2.2.1.heap Hm locs → WC T Hm locs cells slots Q (pc + len) ls (S'.map (cv E B)) → WC T Hm locs cells slots Q pc ls (S.map (cv E B))) : HOk T B N0 D kc E pc len S H S' H :=
  ⟨⟨Nat.le_refl _, Nat.le_refl _⟩, fun _ _ _ _ _ _ Hm locs cells slots Q ls hP hS h1 h2 _ w => h Hm locs cells slots Q ls hP hS (w Hm locs cells slots hP hS h1 h2)⟩
/-- an instruction that writes one cell -/
theorem HOk.write {T : TT} {B N0 : Nat} {D : va_G} {kc : Nat → ClassId} {E : Nat → Nat} {pc len : Nat} {S : ST} {H H' : HP} {S' : ST} (hl : H'.1.length = H.1.length) (ht : tot H'.1 = tot H.1)
    (h : ∀ (Hm : Heap) (locs : List Loc) (cells slots : Nat) (Q : State → Prop) (ls : Array Slot), va_P D CLS (wsO kc B H) Hm → va_S (fun q => B ≤ q) T.2.2.2.2.1.heap Hm locs → ls.size = T.2.2.2.2.2.2.2.2.2.maxLocals → (∀ (Hm' : Heap) (locs' : List Loc), va_P D CLS (wsO kc B H') Hm' → va_S (fun q => B ≤ q) T.2.2.2.2.1.heap Hm' locs' → WC T Hm' locs' cells slots Q (pc + len) ls (S'.map (cv E B))) → WC T Hm locs cells slots Q pc ls (S.map (cv E B))) : HOk T B N0 D kc E pc len S H S' H' :=
  ⟨⟨by omega, by omega⟩, fun _ _ _ _ _ _ Hm locs cells slots Q ls hP hS h1 h2 hs w => h Hm locs cells slots Q ls hP hS hs (fun Hm' locs' hP' hS' => w Hm' locs' cells slots hP' hS' (by omega) (by omega))⟩
theorem sA_row (kc : Nat → ClassId) (B : Nat) (h : DT) (n j m : Nat) (x : Int32) : ce kc B (sA h n j x) n (.inr (.inl (0, m))) = .inl (kc 0, m, .inl (upd (fun j => gA h n j) j x)) := by
  simp only [ce]
  congr 4
  funext b
  simp [gA, sA, up2, upd]
theorem sA_rowZ (kc : Nat → ClassId) (B : Nat) (h : DT) (n j m : Nat) (x : Int32) : ce kc B (sA h n j x) n (.inr (.inl (1, m))) = .inl (kc 1, m, .inl (upd (fun j => gA h n j) j x)) := by
  simp only [ce]
  congr 4
  funext b
  simp [gA, sA, up2, upd]
theorem sB_row (kc : Nat → ClassId) (B : Nat) (h : DT) (n j m : Nat) (x : Int64) : ce kc B (sB h n j x) n (.inr (.inl (2, m))) = .inl (kc 2, m, .inr (.inl (vp_updL (fun j => gB h n j) j x))) := by
  simp only [ce]
  congr 5
  funext b
  simp [gB, sB, up2, vp_updL]
theorem rR_row (kc : Nat → ClassId) (B : Nat) (h : DT) (n j v : Nat) (r : List (Option Nat)) (hj : j < r.length) : ce kc B h n (.inr (.inr (r.set j (some v)))) = .inl (kc 3, r.length, .inr (.inr (.inr (.inr (va_up (fun j => rfB B (r.getD j none)) j (some (B + v))))))) := by
  simp only [ce, List.length_set]
  congr 7
  funext b
  by_cases hb : b = j
  · subst hb
    simp [va_up, hj, rfB]
  · simp [va_up, hb, List.getElem?_set_ne (Ne.symm hb)]
