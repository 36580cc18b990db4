/-! WHAT HOLDS when both constructors are through -/
def Z0 (A : Nat → Int32) : Prop := ∀ i, i < 1486 → A i = if i = 2 then -1 else if i = 8 then 317 else 0
theorem Z0.z {A : Nat → Int32} (H : Z0 A) {i : Nat} (h : i < 1486) (h2 : i ≠ 2) (h8 : i ≠ 8) : A i = 0 := by
  rw [H i h, if_neg h2, if_neg h8]
theorem Z0.inv {A : Nat → Int32} (H : Z0 A) : Inv A 0 0 0 := by
  have s0 : stp9 0 := ⟨by decide, by decide⟩
  have n0 : (0 : Int32) = nI 0 := rfl
  have a2 : A 2 = -1 := by rw [H 2 (by omega), if_pos rfl]
  have a8 : A 8 = nI 317 := by rw [H 8 (by omega), if_neg (by omega), if_pos rfl]; rfl
  have z : ∀ i, i < 1486 → i ≠ 2 → i ≠ 8 → A i = 0 := fun i a b c => H.z a b c
  have zn : ∀ i, i < 1486 → i ≠ 2 → i ≠ 8 → A i = nI 0 := fun i a b c => H.z a b c
  have zs : ∀ i, i < 1486 → i ≠ 2 → i ≠ 8 → stp9 (A i) := fun i a b c => by rw [z i a b c]; exact s0
  have nn : ∀ {j : Nat} {P : Prop}, j < 0 → P := fun h => absurd h (Nat.not_lt_zero _)
  refine ⟨⟨zn 0 (by omega) (by omega) (by omega), by omega, fun i hi => nn hi, fun i hi => nn hi, fun i hi => zs _ (by omega) (by omega) (by omega), 0, by omega, zn 37 (by omega) (by omega) (by omega)⟩,
    ⟨zn 1 (by omega) (by omega) (by omega), by omega, Or.inl a2⟩, ⟨zn 3 (by omega) (by omega) (by omega), by omega, fun j hj => nn hj⟩, ?_,
    ⟨0, zn 4 (by omega) (by omega) (by omega), by omega, fun j hj => nn hj⟩, ⟨0, zn 5 (by omega) (by omega) (by omega), by omega, fun j hj => nn hj⟩, ⟨0, zn 6 (by omega) (by omega) (by omega), by omega, fun j hj => nn hj⟩⟩
  exact ⟨by omega, ⟨0, by omega, zn 7 (by omega) (by omega) (by omega)⟩, ⟨317, by omega, a8⟩, zs 9 (by omega) (by omega) (by omega), ⟨0, by omega, zn 10 (by omega) (by omega) (by omega)⟩, ⟨0, by omega, zn 11 (by omega) (by omega) (by omega)⟩, fun i hi => zs _ (by omega) (by omega) (by omega), fun i _ hi => ⟨z _ (by omega) (by omega) (by omega), z _ (by omega) (by omega) (by omega)⟩, fun j hj => nn hj, fun j hj => nn hj⟩
theorem Z0.row {h : DT} {p : Nat} {A : Nat → Int32} (H : Z0 A) (f0 : gF h p 0 = 0) (f1 : gF h p 1 = 0) (f2 : gF h p 2 = 0) (f3 : gF h p 3 = 0) (f4 : gF h p 4 = 317) (f5 : gF h p 5 = 0) (a : ∀ c i, p < c → c ≤ p + 5 → gA h c i = 0) : XRow h p A := by
  have z : ∀ i, i < 1486 → i ≠ 2 → i ≠ 8 → A i = 0 := fun i a b c => H.z a b c
  have a8 : A 8 = 317 := by rw [H 8 (by omega), if_neg (by omega), if_pos rfl]
  refine ⟨f0.trans (z _ (by omega) (by omega) (by omega)).symm, f1.trans (z _ (by omega) (by omega) (by omega)).symm, f2.trans (z _ (by omega) (by omega) (by omega)).symm, f3.trans (z _ (by omega) (by omega) (by omega)).symm, f4.trans a8.symm, f5.trans (z _ (by omega) (by omega) (by omega)).symm, ?_, ?_, ?_, ?_, ?_⟩ <;> intro i hi <;> exact (a _ i (by omega) (by omega)).trans (z _ (by omega) (by omega) (by omega)).symm
theorem Z0.told {h : DT} {p : Nat} {A : Nat → Int32} (H : Z0 A) (f0 : gF h p 0 = 0) (f1 : gF h p 1 = -1) (f2 : gF h p 2 = 0) (f3 : gF h p 3 = 0) (f4 : gF h p 4 = 0) (f5 : gF h p 5 = 0) (a : ∀ c i, p < c → c ≤ p + 6 → gA h c i = 0) : XTold h p A := by
  have z : ∀ i, i < 1486 → i ≠ 2 → i ≠ 8 → A i = 0 := fun i a b c => H.z a b c
  have a2 : A 2 = -1 := by rw [H 2 (by omega), if_pos rfl]
  refine ⟨f0.trans (z _ (by omega) (by omega) (by omega)).symm, f1.trans a2.symm, f2.trans (z _ (by omega) (by omega) (by omega)).symm, f3.trans (z _ (by omega) (by omega) (by omega)).symm, f4.trans (z _ (by omega) (by omega) (by omega)).symm, f5.trans (z _ (by omega) (by omega) (by omega)).symm, ?_, ?_, ?_, ?_, ?_, ?_⟩ <;> intro i hi <;> exact (a _ i (by omega) (by omega)).trans (z _ (by omega) (by omega) (by omega)).symm
theorem Z0.steps {h : DT} {p : Nat} {A : Nat → Int32} (H : Z0 A) (f0 : gF h p 0 = 0) (f1 : gF h p 1 = 0) : XSteps h p A 0 :=
  ⟨f0.trans (H.z (by omega) (by omega) (by omega)).symm, 0, by omega, f1.trans rfl, fun j i hj _ => absurd hj (Nat.not_lt_zero _)⟩
set_option maxRecDepth 20000 in
theorem v_1_0 (h : DT) : gF (wL h) 1 0 = 0 := rfl
set_option maxRecDepth 20000 in
theorem v_1_1 (h : DT) : gF (wL h) 1 1 = 0 := rfl
set_option maxRecDepth 20000 in
theorem v_1_2 (h : DT) : gF (wL h) 1 2 = 0 := rfl
set_option maxRecDepth 20000 in
theorem v_1_3 (h : DT) : gF (wL h) 1 3 = 0 := rfl
set_option maxRecDepth 20000 in
theorem v_1_4 (h : DT) : gF (wL h) 1 4 = 317 := rfl
set_option maxRecDepth 20000 in
theorem v_1_5 (h : DT) : gF (wL h) 1 5 = 0 := rfl
set_option maxRecDepth 20000 in
theorem v_16_0 (h : DT) : gF (wL h) 16 0 = 0 := rfl
set_option maxRecDepth 20000 in
theorem v_16_1 (h : DT) : gF (wL h) 16 1 = 0 := rfl
set_option maxRecDepth 20000 in
theorem v_16_2 (h : DT) : gF (wL h) 16 2 = 0 := rfl
set_option maxRecDepth 20000 in
theorem v_16_3 (h : DT) : gF (wL h) 16 3 = 0 := rfl
set_option maxRecDepth 20000 in
theorem v_16_4 (h : DT) : gF (wL h) 16 4 = 317 := rfl
set_option maxRecDepth 20000 in
theorem v_16_5 (h : DT) : gF (wL h) 16 5 = 0 := rfl
set_option maxRecDepth 20000 in
theorem v_7_0 (h : DT) : gF (wL h) 7 0 = 0 := rfl
set_option maxRecDepth 20000 in
theorem v_7_1 (h : DT) : gF (wL h) 7 1 = 0 := rfl
set_option maxRecDepth 20000 in
theorem v_22_0 (h : DT) : gF (wL h) 22 0 = 0 := rfl
set_option maxRecDepth 20000 in
theorem v_22_1 (h : DT) : gF (wL h) 22 1 = 0 := rfl
set_option maxRecDepth 20000 in
theorem v_9_0 (h : DT) : gF (wL h) 9 0 = 0 := rfl
set_option maxRecDepth 20000 in
theorem v_9_1 (h : DT) : gF (wL h) 9 1 = -1 := rfl
set_option maxRecDepth 20000 in
theorem v_9_2 (h : DT) : gF (wL h) 9 2 = 0 := rfl
set_option maxRecDepth 20000 in
theorem v_9_3 (h : DT) : gF (wL h) 9 3 = 0 := rfl
set_option maxRecDepth 20000 in
theorem v_9_4 (h : DT) : gF (wL h) 9 4 = 0 := rfl
set_option maxRecDepth 20000 in
theorem v_9_5 (h : DT) : gF (wL h) 9 5 = 0 := rfl
set_option maxRecDepth 20000 in
theorem v_24_0 (h : DT) : gF (wL h) 24 0 = 0 := rfl
set_option maxRecDepth 20000 in
theorem v_24_1 (h : DT) : gF (wL h) 24 1 = -1 := rfl
set_option maxRecDepth 20000 in
theorem v_24_2 (h : DT) : gF (wL h) 24 2 = 0 := rfl
set_option maxRecDepth 20000 in
theorem v_24_3 (h : DT) : gF (wL h) 24 3 = 0 := rfl
set_option maxRecDepth 20000 in
theorem v_24_4 (h : DT) : gF (wL h) 24 4 = 0 := rfl
set_option maxRecDepth 20000 in
theorem v_24_5 (h : DT) : gF (wL h) 24 5 = 0 := rfl
set_option maxRecDepth 20000 in
theorem v_38_0 (h : DT) : gF (wL h) 38 0 = 0 := rfl
set_option maxRecDepth 20000 in
theorem v_38_1 (h : DT) : gF (wL h) 38 1 = 0 := rfl
set_option maxRecDepth 20000 in
theorem v_72_4 (h : DT) : gF (wL h) 72 4 = 0 := rfl
set_option maxRecDepth 20000 in
theorem v_72_5 (h : DT) : gF (wL h) 72 5 = -1 := rfl
set_option maxRecDepth 20000 in
theorem v_72_6 (h : DT) : gF (wL h) 72 6 = -1 := rfl
set_option maxRecDepth 20000 in
theorem v_72_23 (h : DT) : gF (wL h) 72 23 = 1 := rfl
set_option maxRecDepth 20000 in
theorem v_73 (h : DT) (i : Nat) : gA (wL h) 73 i = if i = 2 then -1 else if i = 8 then 317 else 0 := rfl
set_option maxRecDepth 20000 in
theorem v_A2 (h : DT) (i : Nat) : gA (wL h) 2 i = 0 := rfl
set_option maxRecDepth 20000 in
theorem v_A3 (h : DT) (i : Nat) : gA (wL h) 3 i = 0 := rfl
set_option maxRecDepth 20000 in
theorem v_A4 (h : DT) (i : Nat) : gA (wL h) 4 i = 0 := rfl
set_option maxRecDepth 20000 in
theorem v_A5 (h : DT) (i : Nat) : gA (wL h) 5 i = 0 := rfl
set_option maxRecDepth 20000 in
theorem v_A6 (h : DT) (i : Nat) : gA (wL h) 6 i = 0 := rfl
set_option maxRecDepth 20000 in
theorem v_A8 (h : DT) (i : Nat) : gA (wL h) 8 i = 0 := rfl
set_option maxRecDepth 20000 in
theorem v_A10 (h : DT) (i : Nat) : gA (wL h) 10 i = 0 := rfl
set_option maxRecDepth 20000 in
theorem v_A11 (h : DT) (i : Nat) : gA (wL h) 11 i = 0 := rfl
set_option maxRecDepth 20000 in
theorem v_A12 (h : DT) (i : Nat) : gA (wL h) 12 i = 0 := rfl
set_option maxRecDepth 20000 in
theorem v_A13 (h : DT) (i : Nat) : gA (wL h) 13 i = 0 := rfl
set_option maxRecDepth 20000 in
theorem v_A14 (h : DT) (i : Nat) : gA (wL h) 14 i = 0 := rfl
set_option maxRecDepth 20000 in
theorem v_A15 (h : DT) (i : Nat) : gA (wL h) 15 i = 0 := rfl
set_option maxRecDepth 20000 in
theorem v_A17 (h : DT) (i : Nat) : gA (wL h) 17 i = 0 := rfl
set_option maxRecDepth 20000 in
theorem v_A18 (h : DT) (i : Nat) : gA (wL h) 18 i = 0 := rfl
set_option maxRecDepth 20000 in
theorem v_A19 (h : DT) (i : Nat) : gA (wL h) 19 i = 0 := rfl
set_option maxRecDepth 20000 in
theorem v_A20 (h : DT) (i : Nat) : gA (wL h) 20 i = 0 := rfl
set_option maxRecDepth 20000 in
theorem v_A21 (h : DT) (i : Nat) : gA (wL h) 21 i = 0 := rfl
set_option maxRecDepth 20000 in
theorem v_A23 (h : DT) (i : Nat) : gA (wL h) 23 i = 0 := rfl
set_option maxRecDepth 20000 in
theorem v_A25 (h : DT) (i : Nat) : gA (wL h) 25 i = 0 := rfl
set_option maxRecDepth 20000 in
theorem v_A26 (h : DT) (i : Nat) : gA (wL h) 26 i = 0 := rfl
set_option maxRecDepth 20000 in
theorem v_A27 (h : DT) (i : Nat) : gA (wL h) 27 i = 0 := rfl
set_option maxRecDepth 20000 in
theorem v_A28 (h : DT) (i : Nat) : gA (wL h) 28 i = 0 := rfl
set_option maxRecDepth 20000 in
theorem v_A29 (h : DT) (i : Nat) : gA (wL h) 29 i = 0 := rfl
set_option maxRecDepth 20000 in
theorem v_A30 (h : DT) (i : Nat) : gA (wL h) 30 i = 0 := rfl
set_option maxRecDepth 20000 in
theorem v_A41 (h : DT) (i : Nat) : gA (wL h) 41 i = 0 := rfl
set_option maxRecDepth 20000 in
theorem v_A78 (h : DT) (i : Nat) : gA (wL h) 78 i = 0 := rfl
theorem v_A (h : DT) (c i : Nat) (h1 : 2 ≤ c ∧ c ≤ 6 ∨ 10 ≤ c ∧ c ≤ 15 ∨ 17 ≤ c ∧ c ≤ 21 ∨ 25 ≤ c ∧ c ≤ 30) (h2 : c < 31) : gA (wL h) c i = 0 := by
  have q : c = 2 ∨ c = 3 ∨ c = 4 ∨ c = 5 ∨ c = 6 ∨ c = 10 ∨ c = 11 ∨ c = 12 ∨ c = 13 ∨ c = 14 ∨ c = 15 ∨ c = 17 ∨ c = 18 ∨ c = 19 ∨ c = 20 ∨ c = 21 ∨ c = 25 ∨ c = 26 ∨ c = 27 ∨ c = 28 ∨ c = 29 ∨ c = 30 := by omega
  rcases q with rfl | rfl | rfl | rfl | rfl | rfl | rfl | rfl | rfl | rfl | rfl | rfl | rfl | rfl | rfl | rfl | rfl | rfl | rfl | rfl | rfl | rfl
  · exact v_A2 h i
  · exact v_A3 h i
  · exact v_A4 h i
  · exact v_A5 h i
  · exact v_A6 h i
  · exact v_A10 h i
  · exact v_A11 h i
  · exact v_A12 h i
  · exact v_A13 h i
  · exact v_A14 h i
  · exact v_A15 h i
  · exact v_A17 h i
  · exact v_A18 h i
  · exact v_A19 h i
  · exact v_A20 h i
  · exact v_A21 h i
  · exact v_A25 h i
  · exact v_A26 h i
  · exact v_A27 h i
  · exact v_A28 h i
  · exact v_A29 h i
  · exact v_A30 h i
theorem ful_0 (h h' : DT) (s : smX (fun c => c = 74) (wL h) h') (e : ∀ j, j < 1486 → gA h' 74 j = gA (wL h) 73 j) : Ful none none [] h' := by
  have F : ∀ c, c ≠ 74 → gF h' c = gF (wL h) c := fun c hc => smF s hc
  have A : ∀ c, c ≠ 74 → gA h' c = gA (wL h) c := fun c hc => smA s hc
  have z3 : Z0 (gA h' 73) := fun i _ => by rw [A 73 (by omega)]; exact v_73 h i
  have z4 : Z0 (gA h' 74) := fun i hi => (e i hi).trans (v_73 h i)
  have f : ∀ {c k : Nat} {v : Int32}, c ≠ 74 → gF (wL h) c k = v → gF h' c k = v := fun hc q => by rw [F _ hc]; exact q
  have a : ∀ {c i : Nat}, c ≠ 74 → gA (wL h) c i = 0 → gA h' c i = 0 := fun hc q => by rw [A _ hc]; exact q
  refine ⟨⟨0, 0, 0, 0, 0, 0, 0, fun _ => ([], none, none), ⟨z3.inv, z3.row (f (by omega) (v_1_0 h)) (f (by omega) (v_1_1 h)) (f (by omega) (v_1_2 h)) (f (by omega) (v_1_3 h)) (f (by omega) (v_1_4 h)) (f (by omega) (v_1_5 h)) (fun c i h1 h2 => a (by omega) (v_A h c i (by omega) (by omega))), z3.steps (f (by omega) (v_7_0 h)) (f (by omega) (v_7_1 h)), z3.told (f (by omega) (v_9_0 h)) (f (by omega) (v_9_1 h)) (f (by omega) (v_9_2 h)) (f (by omega) (v_9_3 h)) (f (by omega) (v_9_4 h)) (f (by omega) (v_9_5 h)) (fun c i h1 h2 => a (by omega) (v_A h c i (by omega) (by omega)))⟩,
    ⟨z4.inv, z4.row (f (by omega) (v_16_0 h)) (f (by omega) (v_16_1 h)) (f (by omega) (v_16_2 h)) (f (by omega) (v_16_3 h)) (f (by omega) (v_16_4 h)) (f (by omega) (v_16_5 h)) (fun c i h1 h2 => a (by omega) (v_A h c i (by omega) (by omega))), z4.steps (f (by omega) (v_22_0 h)) (f (by omega) (v_22_1 h)), z4.told (f (by omega) (v_24_0 h)) (f (by omega) (v_24_1 h)) (f (by omega) (v_24_2 h)) (f (by omega) (v_24_3 h)) (f (by omega) (v_24_4 h)) (f (by omega) (v_24_5 h)) (fun c i h1 h2 => a (by omega) (v_A h c i (by omega) (by omega)))⟩, Nat.le_refl _,
    ⟨(f (by omega) (v_38_0 h)), (f (by omega) (v_72_4 h)), by omega, fun j hj => absurd hj (Nat.not_lt_zero _)⟩, Or.inl ⟨(f (by omega) (v_38_1 h)), (f (by omega) (v_72_5 h)), (f (by omega) (v_72_6 h))⟩, ⟨fun j hj => absurd hj (Nat.not_lt_zero _), fun k _ => ⟨0, by omega, by omega, a (by omega) (v_A41 h k)⟩, fun k _ => ⟨0, by omega, by omega, a (by omega) (v_A78 h k)⟩, (f (by omega) (v_72_23 h))⟩⟩,
    Or.inl ⟨rfl, rfl, rfl⟩, fun b q => by cases q⟩
theorem law_end (X : XS) (hL : X.1 ≤ 3072) (h : DT) : ∃ HF : HP, m_L_law X 100 1000000 0 [(0, vE 101)] [] ([], h) = some (some (vI 1), HF) ∧ HF.1.length ≤ 600000 ∧ tot HF.1 ≤ 7302250 := by
  obtain ⟨h', a, b, c⟩ := law_0 X h
  obtain ⟨tx', tu', gu', tl', h2, l, k⟩ := lw_18 X hL 513 0 none none none [] h' (ful_0 h h' a b) (by omega) (by omega)
  have k1 := k 999998 (by omega)
  rw [show nI 0 = (0 : Int32) from rfl] at k1
  exact ⟨_, c.trans k1, (sk_size l).1, (sk_size l).2⟩
