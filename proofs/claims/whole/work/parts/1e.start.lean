/-! THE CONSTANTS at the law's entry -/
def nar : List Cond := flatC (Jvm.Cond.and given_1 narrow_1)
def SO : List Nat := [18, 27, 36, 46, 54, 62, 70, 78, 86, 94, 102, 108, 116, 122, 129, 136, 142, 150, 158, 165, 173, 183, 190, 199, 207, 216, 224, 232, 238]
def sT (i : Nat) : Term := .string "ItalicsLean$Reader" ((STL.getD i (0, "", 0)).1)
def sV (i : Nat) : Term := .field (sT i) "java/lang/String" "value" "[B"
def sChk (i : Nat) : Bool :=
  decide (nar[SO.getD i 0]? = some (.exactly (sT i) "java/lang/String")) && decide (nar[SO.getD i 0 + 1]? = some (.eq (.field (sT i) "java/lang/String" "coder" "B") (.int 0))) && decide (nar[SO.getD i 0 + 2]? = some (.arrayOf (sV i) .byte)) && decide (nar[SO.getD i 0 + 3]? = some (.eq (.length (sV i)) (.int (Int32.ofNat (texts0.getD i []).length)))) &&
  (List.range (texts0.getD i []).length).all (fun j => decide (nar[SO.getD i 0 + 4 + j]? = some (.eq (.elem (sV i) (.int (Int32.ofNat j))) (.int ((texts0.getD i []).getD j 0)))))
set_option maxRecDepth 20000 in
theorem sChk_all : (List.range 29).all sChk = true := by decide +kernel
set_option maxRecDepth 20000 in
theorem fChk : (decide (nar[10]? = some (.arrayOf (.static "ItalicsLean" "FACTORIAL" "[I") .int)) && decide (nar[11]? = some (.eq (.length (.static "ItalicsLean" "FACTORIAL" "[I")) (.int 6))) && (List.range 6).all (fun j => decide (nar[12 + j]? = some (.eq (.elem (.static "ItalicsLean" "FACTORIAL" "[I") (.int (Int32.ofNat j))) (.int (facN.getD j 0))))) && decide (nar[4]? = some (.eq (.static "java/lang/String" "COMPACT_STRINGS" "Z") (.int 1))) && decide (nar[5]? = some (.isRef (.static "jdk/internal/util/Preconditions" "SIOOBE_FORMATTER" "Ljava/util/function/BiFunction;")))) = true := by decide +kernel
/-- a text constant at the start -/
theorem sOk_of {args : Array Value} {s : State} {A : Nat → Prop} (hn : ∀ c ∈ nar, c.before args s = true) (hA : ∀ a : Nat, a < s.heap.size → ¬ A a) (i : Nat) (hi : i < 29) : ∃ q : Nat × Nat, (sT i).eval args s none [] s = some (.ref q.1) ∧ va_O "java/lang/String" q.1 A s s.heap ∧ va_OF "java/lang/String" "coder" "B" (.int 0) q.1 A s s.heap ∧ va_OF "java/lang/String" "value" "[B" (.ref q.2) q.1 A s s.heap ∧ va_T .byte q.2 (texts0.getD i []).length (fun j => .int ((texts0.getD i []).getD j 0)) A s s.heap := by
  have h := List.all_eq_true.mp sChk_all i (List.mem_range.mpr hi)
  simp only [sChk, Bool.and_eq_true, decide_eq_true_eq, List.all_eq_true, List.mem_range] at h
  obtain ⟨⟨⟨⟨h1, h2⟩, h3⟩, h4⟩, h5⟩ := h
  have g1 := hn _ (List.mem_of_getElem? h1)
  have g2 := hn _ (List.mem_of_getElem? h2)
  have g3 := hn _ (List.mem_of_getElem? h3)
  have g4 := hn _ (List.mem_of_getElem? h4)
  obtain ⟨a, c, cA, kA, q1, q2, q3, q4, q5, q6, -⟩ := Cond.exactly_spec (args := args) (first := s) (o := none) (s := s) (idx := []) (t := sT i) (cls := "java/lang/String") g1
  obtain ⟨t, ht, hT⟩ := va_Tof (f := fun j => .int ((texts0.getD i []).getD j 0)) (A := A) (tx_len i hi) g3 (va_eqt g4) (fun j hj => va_eqt (hn _ (List.mem_of_getElem? (h5 j hj)))) hA
  exact ⟨(a, t), q1, ⟨cA, q3, q5, by rw [q6]; exact q2, hA a (Array.getElem?_eq_some_iff.mp q3).1⟩, vk_OFof q1 (va_eqt g2) hA, vk_OFof q1 ht hA, hT⟩
theorem arrK {args : Array Value} {s : State} {ty : FieldType} (h : (Cond.arrayClass ty).before args s = true) (hp : ∀ C, ty ≠ .object C) : ∃ cA : ClassId, ArrOfT s cA ty ∧ va_RA s cA ty := by
  obtain ⟨cA, kA, comp, h1, h2, h3⟩ := Cond.arrayClass_spec h
  refine ⟨cA, fun n z => ⟨fun k h => (by cases h), kA, h2, comp, h3⟩, ?_⟩
  cases ty with
  | object C => exact absurd rfl (hp C)
  | _ => exact h1
set_option maxRecDepth 20000 in
theorem instN_all : (List.range 12).all (fun c => decide (lw_tbl[([1077, 320, 357, 336, 276, 138, 197, 370, 214, 953, 130, 1216] : List Nat).getD c 0]? = some (.instantiable (RN c) (NN c)))) = true := by decide +kernel
theorem CLS_at {c : Nat} {q : vw_C} (h : CLS[c]? = some q) : c < 12 ∧ q = (RN c, TN c, NN c) := by
  have hl : c < 12 := (List.getElem?_eq_some_iff.mp h).1
  exact ⟨hl, Option.some.inj (h.symm.trans (clsN hl))⟩
set_option maxRecDepth 20000 in
set_option maxHeartbeats 4000000 in
theorem CW_start {s : State} {b L : Nat} {xs : Nat → Int32} (hts : ∀ w ∈ lw_tbl, w.before #[Value.ref b] s = true) (hX : va_X b L xs s s.heap) (hbl : b < s.heap.size) (hgv : (Jvm.Cond.and given_1 narrow_1).before #[Value.ref b] s = true) :
    ∃ (D : va_G) (kc : Nat → ClassId) (E V : Nat → Nat), E 101 = b ∧ CW s.heap.size D kc E V (L, xs) s := by
  have hn : ∀ c ∈ nar, c.before #[Value.ref b] s = true := flat_of_before _ hgv
  have hA : ∀ a : Nat, a < s.heap.size → ¬ (fun q => s.heap.size ≤ q) a := fun a ha => Nat.not_le.mpr ha
  have hkn : ∀ c : Nat, ∃ q : ClassId × (Nat → Nat), c < 12 → u_Kn s (RN c) (TN c) (NN c) q.1 q.2 := by
    intro c
    by_cases hc : c < 12
    · have hi := of_decide_eq_true (List.all_eq_true.mp instN_all c (List.mem_range.mpr hc))
      obtain ⟨cC, iS, h⟩ := u_known (C := RN c) (T := TN c) (N := NN c) (n := NN c) hts (inN0 hc) (hts _ (tbw hi))
      exact ⟨(cC, iS), fun _ => h⟩
    · exact ⟨(0, fun _ => 0), fun h => absurd h hc⟩
  obtain ⟨fD, hD⟩ := Classical.axiomOfChoice hkn
  obtain ⟨k0, a0, b0⟩ := arrK (hts _ (tbw (i := 195) (by decide +kernel) : Cond.arrayClass .int ∈ lw_tbl)) (fun C h => by cases h)
  obtain ⟨k1, a1, b1⟩ := arrK (hts _ (tbw (i := 1343) (by decide +kernel) : Cond.arrayClass .boolean ∈ lw_tbl)) (fun C h => by cases h)
  obtain ⟨k2, a2, b2⟩ := arrK (hts _ (tbw (i := 369) (by decide +kernel) : Cond.arrayClass .long ∈ lw_tbl)) (fun C h => by cases h)
  have hover := hts _ (tbw (i := 274) (by decide +kernel) : Cond.arrayOver (.object "ItalicsLean$Text") ∈ lw_tbl)
  obtain ⟨comp, k3, kA, f1, -, f2, f3, f4⟩ := Cond.arrayOver_spec hover
  have hst : ∀ i : Nat, ∃ q : Nat × Nat, i < 29 → (sT i).eval #[Value.ref b] s none [] s = some (.ref q.1) ∧ va_O "java/lang/String" q.1 (fun q => s.heap.size ≤ q) s s.heap ∧ va_OF "java/lang/String" "coder" "B" (.int 0) q.1 (fun q => s.heap.size ≤ q) s s.heap ∧ va_OF "java/lang/String" "value" "[B" (.ref q.2) q.1 (fun q => s.heap.size ≤ q) s s.heap ∧ va_T .byte q.2 (texts0.getD i []).length (fun j => .int ((texts0.getD i []).getD j 0)) (fun q => s.heap.size ≤ q) s s.heap := by
    intro i
    by_cases hi : i < 29
    · obtain ⟨q, hq⟩ := sOk_of hn hA i hi
      exact ⟨q, fun _ => hq⟩
    · exact ⟨(0, 0), fun h => absurd h hi⟩
  obtain ⟨fS, hS⟩ := Classical.axiomOfChoice hst
  have hf := fChk
  simp only [Bool.and_eq_true, decide_eq_true_eq, List.all_eq_true, List.mem_range] at hf
  obtain ⟨⟨⟨⟨g1, g2⟩, g3⟩, g4⟩, g5⟩ := hf
  obtain ⟨fa, hfa, hfT⟩ := va_Tof (N := 6) (f := fun j => .int (facN.getD j 0)) (A := fun q => s.heap.size ≤ q) (Nat.le_of_ble_eq_true rfl) (hn _ (List.mem_of_getElem? g1)) (va_eqt (hn _ (List.mem_of_getElem? g2))) (fun j hj => va_eqt (hn _ (List.mem_of_getElem? (g3 j hj)))) hA
  refine ⟨(fun c => (fD c).1, fun c => (fD c).2), fun t => match t with
    | 0 => k0
    | 1 => k1
    | 2 => k2
    | _ => k3, fun j => if j = 100 then fa else if j = 101 then b else (fS j).1, fun j => (fS j).2, rfl, ⟨fun c q hq => ?_, fun k q hq => ?_⟩, ?_, hfT, fun i hi => ?_, fun i q hq => ?_, ?_, ?_, ?_, hbl, Nat.le_refl _, fun w hw hnw => ?_, va_AO.of hover⟩
  · obtain ⟨hc, rfl⟩ := CLS_at hq
    exact hD c hc
  · match k, hq with
    | 0, hq => cases hq; exact ⟨a0, b0⟩
    | 1, hq => cases hq; exact ⟨a1, b1⟩
    | 2, hq => cases hq; exact ⟨a2, b2⟩
    | 3, hq => cases hq; exact ⟨fun N z => ⟨(fun k h => by cases h), kA, f2, comp, f3⟩, kA, comp, f2, f3, f1, f4⟩
    | k + 4, hq => simp at hq
  · exact va_Zof (hts _ (tbw (i := 980) (by decide +kernel))) (hts _ (tbw (i := 110) (by decide +kernel))) hfa hA
  · have e : (if i = 100 then fa else if i = 101 then b else (fS i).1) = (fS i).1 := by
      rw [if_neg (by omega), if_neg (by omega)]
    obtain ⟨-, h2, h3, h4, h5⟩ := hS i hi
    exact ⟨by simp only [e]; exact h2, by simp only [e]; exact h3, by simp only [e]; exact h4, h5⟩
  · have hi : i < 29 := (List.getElem?_eq_some_iff.mp hq).1
    have e : (if i = 100 then fa else if i = 101 then b else (fS i).1) = (fS i).1 := by
      rw [if_neg (by omega), if_neg (by omega)]
    have hw := of_decide_eq_true (List.all_eq_true.mp STL_ok q (List.mem_of_getElem? hq))
    have hev := (hS i hi).1
    have e2 : STL.getD i (0, "", 0) = q := by rw [List.getD_eq_getElem?_getD, hq]; rfl
    unfold sT at hev
    rw [e2] at hev
    simp only [e]
    exact vk_R.of (hts _ (tbw hw)) hev
  · exact va_Zof (hts _ (tbw (i := 539) (by decide +kernel))) (hts _ (tbw (i := 121) (by decide +kernel))) (va_eqi (hn _ (List.mem_of_getElem? g4))) hA
  · exact va_Zqof (hts _ (tbw (i := 555) (by decide +kernel))) (hts _ (tbw (i := 123) (by decide +kernel))) (hn _ (List.mem_of_getElem? g5)) hA
  · exact hX
  · have ho : w.onTables = true := by
      cases w <;> first | rfl | exact absurd hnw (by simp [isNest])
    exact va_Nw.of ho (hts w hw)
