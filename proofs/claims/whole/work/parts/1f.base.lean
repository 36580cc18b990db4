/-! READING AND WRITING the numbers of the small heap -/
theorem gF_sF (h : DT) (n k : Nat) (v : Int32) (a b : Nat) : gF (sF h n k v) a b = if a = n ∧ b = k then v else gF h a b := by
  simp only [gF, sF, up2]
  by_cases h1 : a = n <;> by_cases h2 : b = k <;> simp [h1, h2]
theorem gF_sG (h : DT) (n k : Nat) (v : Int64) (a b : Nat) : gF (sG h n k v) a b = gF h a b := rfl
theorem gF_sA (h : DT) (n k : Nat) (v : Int32) (a b : Nat) : gF (sA h n k v) a b = gF h a b := rfl
theorem gF_sB (h : DT) (n k : Nat) (v : Int64) (a b : Nat) : gF (sB h n k v) a b = gF h a b := rfl
theorem gF_yA (h : DT) (p q sp dp n a b : Nat) : gF (yA h p q sp dp n) a b = gF h a b := rfl
theorem gF_yB (h : DT) (p q sp dp n a b : Nat) : gF (yB h p q sp dp n) a b = gF h a b := rfl
theorem gG_sF (h : DT) (n k : Nat) (v : Int32) (a b : Nat) : gG (sF h n k v) a b = gG h a b := rfl
theorem gG_sG (h : DT) (n k : Nat) (v : Int64) (a b : Nat) : gG (sG h n k v) a b = if a = n ∧ b = k then v else gG h a b := by
  simp only [gG, sG, up2]
  by_cases h1 : a = n <;> by_cases h2 : b = k <;> simp [h1, h2]
theorem gG_sA (h : DT) (n k : Nat) (v : Int32) (a b : Nat) : gG (sA h n k v) a b = gG h a b := rfl
theorem gG_sB (h : DT) (n k : Nat) (v : Int64) (a b : Nat) : gG (sB h n k v) a b = gG h a b := rfl
theorem gA_sF (h : DT) (n k : Nat) (v : Int32) (a b : Nat) : gA (sF h n k v) a b = gA h a b := rfl
theorem gA_sG (h : DT) (n k : Nat) (v : Int64) (a b : Nat) : gA (sG h n k v) a b = gA h a b := rfl
theorem gA_sA (h : DT) (n k : Nat) (v : Int32) (a b : Nat) : gA (sA h n k v) a b = if a = n ∧ b = k then v else gA h a b := by
  simp only [gA, sA, up2]
  by_cases h1 : a = n <;> by_cases h2 : b = k <;> simp [h1, h2]
theorem gA_sB (h : DT) (n k : Nat) (v : Int64) (a b : Nat) : gA (sB h n k v) a b = gA h a b := rfl
theorem gA_yA (h : DT) (p q sp dp n a b : Nat) : gA (yA h p q sp dp n) a b = if a = q then (if dp ≤ b ∧ b < dp + n then gA h p (sp + (b - dp)) else gA h q b) else gA h a b := by
  simp only [gA, yA, up1, va_cpy]
theorem gA_yB (h : DT) (p q sp dp n a b : Nat) : gA (yB h p q sp dp n) a b = gA h a b := rfl
theorem gB_sF (h : DT) (n k : Nat) (v : Int32) (a b : Nat) : gB (sF h n k v) a b = gB h a b := rfl
theorem gB_sG (h : DT) (n k : Nat) (v : Int64) (a b : Nat) : gB (sG h n k v) a b = gB h a b := rfl
theorem gB_sA (h : DT) (n k : Nat) (v : Int32) (a b : Nat) : gB (sA h n k v) a b = gB h a b := rfl
theorem gB_sB (h : DT) (n k : Nat) (v : Int64) (a b : Nat) : gB (sB h n k v) a b = if a = n ∧ b = k then v else gB h a b := by
  simp only [gB, sB, up2]
  by_cases h1 : a = n <;> by_cases h2 : b = k <;> simp [h1, h2]
theorem gB_yA (h : DT) (p q sp dp n a b : Nat) : gB (yA h p q sp dp n) a b = gB h a b := rfl
theorem gB_yB (h : DT) (p q sp dp n a b : Nat) : gB (yB h p q sp dp n) a b = if a = q then (if dp ≤ b ∧ b < dp + n then gB h p (sp + (b - dp)) else gB h q b) else gB h a b := by
  simp only [gB, yB, up1, va_cpy]
theorem bI_s (x : Int32) (H : HP) (k : Int32 → HP → RR) : bI (some (some (vI x), H)) k = k x H := rfl
theorem bL_s (x : Int64) (H : HP) (k : Int64 → HP → RR) : bL (some (some (vL x), H)) k = k x H := rfl
theorem bP_s (x : Option Nat) (H : HP) (k : Option Nat → HP → RR) : bP (some (some (vP x), H)) k = k x H := rfl
theorem bV_s (H : HP) (k : HP → RR) : bV (some (none, H)) k = k H := rfl
theorem inb_at {i : Int32} {n j : Nat} {k : Nat → RR} (hi : i = nI j) (hj : j < n) (hn : n < 2 ^ 31) : inb i n k = k j := by
  have h1 : vp_in i n := by rw [hi]; exact vp_in_nI hj hn
  have h2 : i.toNatClampNeg = j := by rw [hi]; exact nI_clamp (by omega)
  unfold inb
  rw [if_neg h1, h2]
/-- cells that are the same in two heaps -/
def smX (S : Nat → Prop) (h h' : DT) : Prop := ∀ n, ¬ S n → h'.1 n = h.1 n ∧ h'.2.1 n = h.2.1 n ∧ h'.2.2.1 n = h.2.2.1 n ∧ h'.2.2.2 n = h.2.2.2 n
theorem smX.rf (S : Nat → Prop) (h : DT) : smX S h h := fun _ _ => ⟨rfl, rfl, rfl, rfl⟩
theorem smX.tr {S : Nat → Prop} {a b c : DT} (h1 : smX S a b) (h2 : smX S b c) : smX S a c := fun n hn => ⟨(h2 n hn).1.trans (h1 n hn).1, (h2 n hn).2.1.trans (h1 n hn).2.1, (h2 n hn).2.2.1.trans (h1 n hn).2.2.1, (h2 n hn).2.2.2.trans (h1 n hn).2.2.2⟩
theorem smX.mo {S S' : Nat → Prop} {a b : DT} (h : smX S a b) (hs : ∀ n, S n → S' n) : smX S' a b := fun n hn => h n (fun q => hn (hs n q))
theorem smX.F {S : Nat → Prop} {h h' : DT} (H : smX S h h') {n : Nat} (hn : ¬ S n) (k : Nat) : gF h' n k = gF h n k := by simp only [gF, (H n hn).1]
theorem smX.G {S : Nat → Prop} {h h' : DT} (H : smX S h h') {n : Nat} (hn : ¬ S n) (k : Nat) : gG h' n k = gG h n k := by simp only [gG, (H n hn).2.1]
theorem smX.A {S : Nat → Prop} {h h' : DT} (H : smX S h h') {n : Nat} (hn : ¬ S n) (k : Nat) : gA h' n k = gA h n k := by simp only [gA, (H n hn).2.2.1]
theorem smX.B {S : Nat → Prop} {h h' : DT} (H : smX S h h') {n : Nat} (hn : ¬ S n) (k : Nat) : gB h' n k = gB h n k := by simp only [gB, (H n hn).2.2.2]
theorem smX_of {S : Nat → Prop} {h h' : DT} {n : Nat} (H : agr h h' n) (hn : S n) : smX S h h' := fun a ha => H a (fun q => ha (q ▸ hn))
theorem smX_sF {S : Nat → Prop} {h : DT} {n k : Nat} {v : Int32} (hn : S n) : smX S h (sF h n k v) := smX_of (agr_sF h n k v) hn
theorem smX_sG {S : Nat → Prop} {h : DT} {n k : Nat} {v : Int64} (hn : S n) : smX S h (sG h n k v) := smX_of (agr_sG h n k v) hn
theorem smX_sA {S : Nat → Prop} {h : DT} {n k : Nat} {v : Int32} (hn : S n) : smX S h (sA h n k v) := smX_of (agr_sA h n k v) hn
theorem smX_sB {S : Nat → Prop} {h : DT} {n k : Nat} {v : Int64} (hn : S n) : smX S h (sB h n k v) := smX_of (agr_sB h n k v) hn
theorem smX_yA {S : Nat → Prop} {h : DT} {a n sp dp m : Nat} (hn : S n) : smX S h (yA h a n sp dp m) := smX_of (agr_yA h a n sp dp m) hn
theorem smX_yB {S : Nat → Prop} {h : DT} {a n sp dp m : Nat} (hn : S n) : smX S h (yB h a n sp dp m) := smX_of (agr_yB h a n sp dp m) hn
/-- slants: -9 .. 9 -/
def stp9 (x : Int32) : Prop := -9 ≤ x ∧ x ≤ 9
theorem i32_nle {a b : Int32} (h : ¬ a ≤ b) : b < a := by
  rw [Int32.lt_iff_toInt_lt]
  rw [Int32.le_iff_toInt_le] at h
  omega
theorem i32_nlt {a b : Int32} (h : ¬ a < b) : b ≤ a := by
  rw [Int32.le_iff_toInt_le]
  rw [Int32.lt_iff_toInt_lt] at h
  omega
theorem i32_lt_nle {a b : Int32} (h : a < b) : ¬ b ≤ a := by
  rw [Int32.le_iff_toInt_le]
  rw [Int32.lt_iff_toInt_lt] at h
  omega
theorem i32_le_nlt {a b : Int32} (h : a ≤ b) : ¬ b < a := by
  rw [Int32.lt_iff_toInt_lt]
  rw [Int32.le_iff_toInt_le] at h
  omega
/-- the truth as an int -/
def bzB (b : Bool) : Int32 := bif b then 1 else 0
theorem bz01 (b : Bool) : bzB b = 0 ∨ bzB b = 1 := by cases b <;> simp [bzB]
theorem bz_t : bzB true = 1 := rfl
theorem bz_f : bzB false = 0 := rfl
theorem bz0 (b : Bool) : bzB b = 0 ↔ b = false := by cases b <;> simp [bzB]
