/-! HOW THE SMALL MACHINE'S CELLS LIE IN THE HEAP: cell n at the address B + n -/
def cv (E : Nat → Nat) (B : Nat) : AV → Value
  | .inl x => .int x
  | .inr (.inl x) => .long x
  | .inr (.inr (.inl none)) => .null
  | .inr (.inr (.inl (some n))) => .ref (B + n)
  | .inr (.inr (.inr e)) => .ref (E e)
def rfB (B : Nat) (o : Option Nat) : Option Nat := o.map (fun n => B + n)
theorem cv_P (E : Nat → Nat) (B : Nat) (o : Option Nat) : cv E B (vP o) = va_rf (rfB B o) := by cases o <;> rfl
def fv (B c : Nat) (r : List (Option Nat)) (h : DT) (n j : Nat) : Value := match KD c j with
  | 1 => .long (gG h n j)
  | 2 => va_rf (rfB B (r.getD j none))
  | _ => .int (gF h n j)
def fsv (B c : Nat) (r : List (Option Nat)) (h : DT) (n : Nat) : List Value := (List.range (NN c)).map (fv B c r h n)
def ce (kc : Nat → ClassId) (B : Nat) (h : DT) (n : Nat) : SC → va_E
  | .inl (c, r) => .inr (c, fsv B c r h n)
  | .inr (.inl (2, m)) => .inl (kc 2, m, .inr (.inl (fun j => gB h n j)))
  | .inr (.inl (t, m)) => .inl (kc t, m, .inl (fun j => gA h n j))
  | .inr (.inr r) => .inl (kc 3, r.length, .inr (.inr (.inr (.inr (fun j => rfB B (r.getD j none))))))
def wsO (kc : Nat → ClassId) (B : Nat) (H : HP) : va_W := H.1.mapIdx (fun n c => (B + n, ce kc B H.2 n c))
def szC : SC → Nat
  | .inl (c, _) => NN c
  | .inr (.inl (_, m)) => m
  | .inr (.inr r) => r.length
def tot : List SC → Nat
  | [] => 0
  | c :: l => szC c + tot l
theorem tot_app (a b : List SC) : tot (a ++ b) = tot a + tot b := by
  induction a with
  | nil => simp [tot]
  | cons x l ih => simp [tot, ih, Nat.add_assoc]
theorem nth_eq {α : Type} (l : List α) (n : Nat) : nth l n = l[n]? := by
  induction l generalizing n with
  | nil => simp [nth]
  | cons a l ih => cases n with
    | zero => simp [nth]
    | succ n => simp [nth, ih]
theorem putL_eq {α : Type} (l : List α) (n : Nat) (v : α) : putL l n v = l.set n v := by
  induction l generalizing n with
  | nil => simp [putL]
  | cons a l ih => cases n with
    | zero => simp [putL]
    | succ n => simp [putL, ih]
theorem tot_set {l : List SC} {n : Nat} {c c' : SC} (h : l[n]? = some c) (hs : szC c' = szC c) : tot (l.set n c') = tot l := by
  induction l generalizing n with
  | nil => simp at h
  | cons a l ih => cases n with
    | zero => simp at h; subst h; simp [tot, hs]
    | succ n => simp at h; simp [tot, ih h]
theorem wsO_at {kc : Nat → ClassId} {B : Nat} {H : HP} {n : Nat} {c : SC} (h : H.1[n]? = some c) : (wsO kc B H)[n]? = some (B + n, ce kc B H.2 n c) := by
  simp [wsO, List.getElem?_mapIdx, h]
theorem wsO_inv {kc : Nat → ClassId} {B : Nat} {H : HP} {n : Nat} {q : Nat × va_E} (h : (wsO kc B H)[n]? = some q) : ∃ c, H.1[n]? = some c ∧ q = (B + n, ce kc B H.2 n c) := by
  simp only [wsO, List.getElem?_mapIdx, Option.map_eq_some_iff] at h
  obtain ⟨c, h1, h2⟩ := h
  exact ⟨c, h1, h2.symm⟩
theorem wsO_len {kc : Nat → ClassId} {B : Nat} {H : HP} : (wsO kc B H).length = H.1.length := by simp [wsO]
/-- the addresses are apart -/
theorem wsO_D (kc : Nat → ClassId) (B : Nat) (H : HP) : va_D (fun q => B ≤ q) (wsO kc B H) := by
  refine ⟨fun i j p q hi hj e => ?_, fun k q hk => ?_⟩
  · obtain ⟨_, -, rfl⟩ := wsO_inv hi
    obtain ⟨_, -, rfl⟩ := wsO_inv hj
    exact Nat.add_left_cancel e
  · obtain ⟨_, -, rfl⟩ := wsO_inv hk
    exact Nat.le_add_right B k
/-- numbers lie as before but in cell n -/
def agr (h h' : DT) (n : Nat) : Prop := ∀ a, a ≠ n → h'.1 a = h.1 a ∧ h'.2.1 a = h.2.1 a ∧ h'.2.2.1 a = h.2.2.1 a ∧ h'.2.2.2 a = h.2.2.2 a
theorem ce_agr {kc : Nat → ClassId} {B : Nat} {h h' : DT} {n a : Nat} (H : agr h h' n) (ha : a ≠ n) (c : SC) : ce kc B h' a c = ce kc B h a c := by
  obtain ⟨h1, h2, h3, h4⟩ := H a ha
  match c with
  | .inl (c, r) =>
    simp only [ce, fsv]
    congr 2
    apply List.map_congr_left
    intro j _
    simp only [fv, gG, gF, h1, h2]
  | .inr (.inl (t, m)) =>
    match t with
    | 0 => simp only [ce, gA, h3]
    | 1 => simp only [ce, gA, h3]
    | 2 => simp only [ce, gB, h4]
    | t + 3 => simp only [ce, gA, h3]
  | .inr (.inr r) => rfl
theorem wsO_set {kc : Nat → ClassId} {B : Nat} {H : HP} {s' : List SC} {h' : DT} {n : Nat} {c c' : SC} (hn : H.1[n]? = some c) (hs : s' = H.1.set n c') (ha : agr H.2 h' n) : wsO kc B (s', h') = (wsO kc B H).set n (B + n, ce kc B h' n c') := by
  subst hs
  have hlt : n < H.1.length := (List.getElem?_eq_some_iff.mp hn).1
  apply List.ext_getElem?
  intro i
  by_cases hi : i = n
  · subst hi
    rw [List.getElem?_set_self (by rw [wsO_len]; exact hlt)]
    exact wsO_at (H := (H.1.set i c', h')) (by simp [hlt])
  · rw [List.getElem?_set_ne (Ne.symm hi)]
    simp only [wsO, List.getElem?_mapIdx, List.getElem?_set_ne (Ne.symm hi)]
    cases H.1[i]? with
    | none => rfl
    | some c0 => simp [ce_agr ha hi]
theorem wsO_set1 {kc : Nat → ClassId} {B : Nat} {H : HP} {h' : DT} {n : Nat} {c : SC} (hn : H.1[n]? = some c) (ha : agr H.2 h' n) : wsO kc B (H.1, h') = (wsO kc B H).set n (B + n, ce kc B h' n c) := by
  refine wsO_set hn ?_ ha
  obtain ⟨hl, he⟩ := List.getElem?_eq_some_iff.mp hn
  apply List.ext_getElem?
  intro i
  by_cases hi : n = i
  · subst hi
    rw [List.getElem?_set_self hl, hn]
  · rw [List.getElem?_set_ne hi]
theorem wsO_push {kc : Nat → ClassId} {B : Nat} {H : HP} {h' : DT} {c : SC} (ha : agr H.2 h' H.1.length) : wsO kc B (H.1 ++ [c], h') = wsO kc B H ++ [(B + H.1.length, ce kc B h' H.1.length c)] := by
  apply List.ext_getElem?
  intro i
  simp only [wsO, List.mapIdx_append, List.mapIdx_cons, List.mapIdx_nil]
  rw [List.getElem?_append, List.getElem?_append]
  simp only [List.length_mapIdx]
  by_cases hi : i < H.1.length
  · rw [if_pos hi, if_pos hi]
    simp only [List.getElem?_mapIdx]
    cases H.1[i]? with
    | none => rfl
    | some c0 => simp [ce_agr ha (Nat.ne_of_lt hi)]
  · rw [if_neg hi, if_neg hi]
    simp
theorem agr_sF (h : DT) (n k : Nat) (v : Int32) : agr h (sF h n k v) n := fun a ha => ⟨by funext b; simp [sF, up2, ha], rfl, rfl, rfl⟩
theorem agr_sG (h : DT) (n k : Nat) (v : Int64) : agr h (sG h n k v) n := fun a ha => ⟨rfl, by funext b; simp [sG, up2, ha], rfl, rfl⟩
theorem agr_sA (h : DT) (n k : Nat) (v : Int32) : agr h (sA h n k v) n := fun a ha => ⟨rfl, rfl, by funext b; simp [sA, up2, ha], rfl⟩
theorem agr_sB (h : DT) (n k : Nat) (v : Int64) : agr h (sB h n k v) n := fun a ha => ⟨rfl, rfl, rfl, by funext b; simp [sB, up2, ha]⟩
theorem agr_zF (h : DT) (n : Nat) : agr h (zF h n) n := fun a ha => ⟨by funext b; simp [zF, up1, ha], by funext b; simp [zF, up1, ha], rfl, rfl⟩
theorem agr_zA (h : DT) (n : Nat) : agr h (zA h n) n := fun a ha => ⟨rfl, rfl, by funext b; simp [zA, up1, ha], by funext b; simp [zA, up1, ha]⟩
theorem agr_yA (h : DT) (a n sp dp m : Nat) : agr h (yA h a n sp dp m) n := fun a ha => ⟨rfl, rfl, by funext b; simp [yA, up1, ha], rfl⟩
theorem agr_yB (h : DT) (a n sp dp m : Nat) : agr h (yB h a n sp dp m) n := fun a ha => ⟨rfl, rfl, rfl, by funext b; simp [yB, up1, ha]⟩
theorem agr_rf (h : DT) (n : Nat) : agr h h n := fun _ _ => ⟨rfl, rfl, rfl, rfl⟩
/-- fields -/
theorem fsv_at {B c : Nat} {r : List (Option Nat)} {h : DT} {n j : Nat} (hj : j < NN c) : (fsv B c r h n)[j]? = some (fv B c r h n j) := by
  simp [fsv, hj]
theorem fsv_len (B c : Nat) (r : List (Option Nat)) (h : DT) (n : Nat) : (fsv B c r h n).length = NN c := by simp [fsv]
theorem fsv_set {B c : Nat} {r r' : List (Option Nat)} {h h' : DT} {n j : Nat} {v : Value} (hv : fv B c r' h' n j = v) (ho : ∀ i, i ≠ j → fv B c r' h' n i = fv B c r h n i) : fsv B c r' h' n = (fsv B c r h n).set j v := by
  apply List.ext_getElem?
  intro i
  by_cases hi : i = j
  · subst hi
    by_cases hl : i < NN c
    · rw [List.getElem?_set_self (by rw [fsv_len]; exact hl), fsv_at hl, hv]
    · rw [List.getElem?_eq_none (by rw [fsv_len]; omega), List.getElem?_eq_none (by rw [List.length_set, fsv_len]; omega)]
  · rw [List.getElem?_set_ne (Ne.symm hi)]
    by_cases hl : i < NN c
    · rw [fsv_at hl, fsv_at hl, ho i hi]
    · rw [List.getElem?_eq_none (by rw [fsv_len]; omega), List.getElem?_eq_none (by rw [fsv_len]; omega)]
theorem fsv_F {B c : Nat} {r : List (Option Nat)} {h : DT} {n j : Nat} (x : Int32) (hk : KD c j = 0 ∨ KD c j = 3) : fsv B c r (sF h n j x) n = (fsv B c r h n).set j (.int x) := by
  refine fsv_set ?_ fun i hi => ?_
  · rcases hk with hk | hk <;> simp [fv, hk, gF, sF, up2]
  · simp [fv, gF, gG, sF, up2, hi]
theorem fsv_G {B c : Nat} {r : List (Option Nat)} {h : DT} {n j : Nat} (x : Int64) (hk : KD c j = 1) : fsv B c r (sG h n j x) n = (fsv B c r h n).set j (.long x) := by
  refine fsv_set ?_ fun i hi => ?_
  · simp [fv, hk, gG, sG, up2]
  · simp [fv, gF, gG, sG, up2, hi]
theorem fsv_R {B c : Nat} {r : List (Option Nat)} {h : DT} {n j : Nat} (x : Option Nat) (hk : KD c j = 2) (hj : j < r.length) : fsv B c (r.set j x) h n = (fsv B c r h n).set j (va_rf (rfB B x)) := by
  refine fsv_set ?_ fun i hi => ?_
  · simp [fv, hk, hj]
  · simp [fv, Ne.symm hi, List.getElem?_set_ne (Ne.symm hi)]
