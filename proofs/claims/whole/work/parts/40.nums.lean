/-! NUMBERS: small ones as naturals (nI), others as integers (zI); cells as rows of numbers -/
theorem litI (n : Nat) : (OfNat.ofNat n : Int32) = nI n := rfl
theorem addI (a b : Nat) : nI a + nI b = nI (a + b) := nI_add a b
theorem mulI (a b : Nat) : nI a * nI b = nI (a * b) := (Int32.ofNat_mul a b).symm
theorem subI {a b : Nat} (h : b ≤ a) : nI a - nI b = nI (a - b) := (Int32.ofNat_sub a b h).symm
theorem eqI {a b : Nat} (ha : a < 2147483648) (hb : b < 2147483648) : (nI a = nI b) = (a = b) := propext (nI_eq ha hb)
theorem leI {a b : Nat} (ha : a < 2147483648) (hb : b < 2147483648) : (nI a ≤ nI b) = (a ≤ b) := propext (nI_leI ha hb)
theorem ltI {a b : Nat} (ha : a < 2147483648) (hb : b < 2147483648) : (nI a < nI b) = (a < b) := propext (nI_ltI ha hb)
theorem divI {a d : Nat} (ha : a < 2147483648) (h0 : 0 < d) (hd : d < 2147483648) : nI a / nI d = nI (a / d) := pk_div ha h0 hd
theorem remI {a d : Nat} (ha : a < 2147483648) (h0 : 0 < d) (hd : d < 2147483648) : nI a - nI a / nI d * nI d = nI (a % d) := pk_rem ha h0 hd
theorem inbI {j n : Nat} {k : Nat → RR} (hj : j < n) (hn : n < 2147483648) : inb (nI j) n k = k j := inb_at rfl hj hn
theorem clI {n : Nat} (h : n < 2147483648) : (nI n).toNatClampNeg = n := nI_clamp h
theorem m1I (n : Nat) : (nI n = (-1 : Int32)) = (nI n = -1) := rfl
/-- an integer as an int -/
def zI (z : Int) : Int32 := Int32.ofInt z
theorem zI_nI (n : Nat) : nI n = zI (n : Int) := (Int32.ofInt_eq_ofNat (n := n)).symm
theorem zI_to (x : Int32) : zI x.toInt = x := Int32.ofInt_toInt x
theorem zI_toInt {z : Int} (h : -2147483648 ≤ z) (h' : z < 2147483648) : (zI z).toInt = z := Int32.toInt_ofInt_of_le h h'
theorem zI_add (a b : Int) : zI a + zI b = zI (a + b) := (Int32.ofInt_add a b).symm
theorem zI_sub (a b : Int) : zI a - zI b = zI (a - b) := (Int32.ofInt_sub a b).symm
theorem zI_mul (a b : Int) : zI a * zI b = zI (a * b) := (Int32.ofInt_mul a b).symm
theorem zI_neg (a : Int) : -zI a = zI (-a) := (Int32.ofInt_neg a).symm
theorem zI_lit (n : Nat) : (OfNat.ofNat n : Int32) = zI (n : Int) := zI_nI n
theorem zI_lt {a b : Int} (h1 : -2147483648 ≤ a) (h2 : a < 2147483648) (h3 : -2147483648 ≤ b) (h4 : b < 2147483648) : (zI a < zI b) = (a < b) := by
  rw [Int32.lt_iff_toInt_lt, zI_toInt h1 h2, zI_toInt h3 h4]
theorem zI_le {a b : Int} (h1 : -2147483648 ≤ a) (h2 : a < 2147483648) (h3 : -2147483648 ≤ b) (h4 : b < 2147483648) : (zI a ≤ zI b) = (a ≤ b) := by
  rw [Int32.le_iff_toInt_le, zI_toInt h1 h2, zI_toInt h3 h4]
theorem zI_eq {a b : Int} (h1 : -2147483648 ≤ a) (h2 : a < 2147483648) (h3 : -2147483648 ≤ b) (h4 : b < 2147483648) : (zI a = zI b) = (a = b) := by
  rw [← Int32.toInt_inj, zI_toInt h1 h2, zI_toInt h3 h4]
/-- an int between two bounds -/
theorem in_nI {v : Int32} {m : Nat} (h0 : 0 ≤ v) (h1 : v ≤ nI m) (hm : m < 2147483648) : ∃ j, j ≤ m ∧ v = nI j := by
  rw [Int32.le_iff_toInt_le] at h0 h1
  rw [nI_toInt hm] at h1
  rw [Int32.toInt_zero] at h0
  refine ⟨v.toInt.toNat, by omega, Int32.toInt_inj.mp ?_⟩
  rw [nI_toInt (by omega)]
  omega
theorem s9z {x : Int32} (h : stp9 x) : ∃ z : Int, -9 ≤ z ∧ z ≤ 9 ∧ x = zI z := by
  obtain ⟨h1, h2⟩ := h
  rw [Int32.le_iff_toInt_le] at h1 h2
  exact ⟨x.toInt, h1, h2, (zI_to x).symm⟩
theorem z9s {z : Int} (h1 : -9 ≤ z) (h2 : z ≤ 9) : stp9 (zI z) := by
  refine ⟨?_, ?_⟩
  · rw [Int32.le_iff_toInt_le, zI_toInt (by omega) (by omega)]
    exact h1
  · rw [Int32.le_iff_toInt_le, zI_toInt (by omega) (by omega)]
    exact h2
/-- a cell whose row of numbers, or whose fields, are others -/
def wA (h : DT) (n : Nat) (B : Nat → Int32) : DT := (h.1, h.2.1, up1 h.2.2.1 n B, h.2.2.2)
def wF (h : DT) (n : Nat) (B : Nat → Int32) : DT := (up1 h.1 n B, h.2)
theorem sA_w (h : DT) (n k : Nat) (v : Int32) : sA h n k v = wA h n (upd (gA h n) k v) := by
  refine dt_ext (fun _ _ => rfl) (fun _ _ => rfl) (fun a b => ?_) (fun _ _ => rfl)
  simp only [gA, sA, wA, up1, up2, upd]
  by_cases h1 : a = n
  · subst h1; simp
  · simp [h1]
theorem sF_w (h : DT) (n k : Nat) (v : Int32) : sF h n k v = wF h n (upd (gF h n) k v) := by
  refine dt_ext (fun a b => ?_) (fun _ _ => rfl) (fun _ _ => rfl) (fun _ _ => rfl)
  simp only [gF, sF, wF, up1, up2, upd]
  by_cases h1 : a = n
  · subst h1; simp
  · simp [h1]
theorem gA_wA (h : DT) (n : Nat) (B : Nat → Int32) (m : Nat) : gA (wA h n B) m = if m = n then B else gA h m := by
  funext k
  by_cases h1 : m = n
  · simp [gA, wA, up1, h1]
  · simp [gA, wA, up1, h1]
theorem gA_wA' (h : DT) (n : Nat) (B : Nat → Int32) : gA (wA h n B) n = B := by rw [gA_wA, if_pos rfl]
theorem gF_wA (h : DT) (n : Nat) (B : Nat → Int32) (m : Nat) : gF (wA h n B) m = gF h m := rfl
theorem gF_wF (h : DT) (n : Nat) (B : Nat → Int32) (m : Nat) : gF (wF h n B) m = if m = n then B else gF h m := by
  funext k
  by_cases h1 : m = n
  · simp [gF, wF, up1, h1]
  · simp [gF, wF, up1, h1]
theorem gF_wF' (h : DT) (n : Nat) (B : Nat → Int32) : gF (wF h n B) n = B := by rw [gF_wF, if_pos rfl]
theorem gA_wF (h : DT) (n : Nat) (B : Nat → Int32) (m : Nat) : gA (wF h n B) m = gA h m := rfl
theorem gB_wF (h : DT) (n : Nat) (B : Nat → Int32) (m : Nat) : gB (wF h n B) m = gB h m := rfl
theorem gB_wA (h : DT) (n : Nat) (B : Nat → Int32) (m : Nat) : gB (wA h n B) m = gB h m := rfl
theorem gG_wF (h : DT) (n : Nat) (B : Nat → Int32) (m : Nat) : gG (wF h n B) m = gG h m := rfl
theorem gG_wA (h : DT) (n : Nat) (B : Nat → Int32) (m : Nat) : gG (wA h n B) m = gG h m := rfl
theorem wA_wA (h : DT) (n : Nat) (B C : Nat → Int32) : wA (wA h n B) n C = wA h n C := by
  refine dt_ext (fun _ _ => rfl) (fun _ _ => rfl) (fun a b => ?_) (fun _ _ => rfl)
  rw [gA_wA, gA_wA, gA_wA]
  by_cases h1 : a = n <;> simp [h1]
theorem wF_wF (h : DT) (n : Nat) (B C : Nat → Int32) : wF (wF h n B) n C = wF h n C := by
  refine dt_ext (fun a b => ?_) (fun _ _ => rfl) (fun _ _ => rfl) (fun _ _ => rfl)
  rw [gF_wF, gF_wF, gF_wF]
  by_cases h1 : a = n <;> simp [h1]
theorem wA_id (h : DT) (n : Nat) : wA h n (gA h n) = h := by
  refine dt_ext (fun _ _ => rfl) (fun _ _ => rfl) (fun a b => ?_) (fun _ _ => rfl)
  rw [gA_wA]
  by_cases h1 : a = n <;> simp [h1]
theorem wF_id (h : DT) (n : Nat) : wF h n (gF h n) = h := by
  refine dt_ext (fun a b => ?_) (fun _ _ => rfl) (fun _ _ => rfl) (fun _ _ => rfl)
  rw [gF_wF]
  by_cases h1 : a = n <;> simp [h1]
theorem smX_wA {S : Nat → Prop} {h : DT} {n : Nat} {B : Nat → Int32} (hn : S n) : smX S h (wA h n B) := fun a ha => by
  have : a ≠ n := fun e => ha (e ▸ hn)
  refine ⟨rfl, rfl, ?_, rfl⟩
  funext b
  simp [wA, up1, this]
theorem smX_wF {S : Nat → Prop} {h : DT} {n : Nat} {B : Nat → Int32} (hn : S n) : smX S h (wF h n B) := fun a ha => by
  have : a ≠ n := fun e => ha (e ▸ hn)
  refine ⟨?_, rfl, rfl, rfl⟩
  funext b
  simp [wF, up1, this]
/-- some numbers of a row copied into another place of it, or of another row -/
def cpA (B A : Nat → Int32) (sp dp n : Nat) : Nat → Int32 := fun j => if dp ≤ j ∧ j < dp + n then B (sp + (j - dp)) else A j
theorem yA_w (h : DT) (a b sp dp n : Nat) : yA h a b sp dp n = wA h b (cpA (gA h a) (gA h b) sp dp n) := by
  refine dt_ext (fun _ _ => rfl) (fun _ _ => rfl) (fun x y => ?_) (fun _ _ => rfl)
  rw [gA_yA, gA_wA]
  by_cases h1 : x = b
  · rw [if_pos h1, if_pos h1]; rfl
  · rw [if_neg h1, if_neg h1]
theorem upd_at (A : Nat → Int32) (k : Nat) (v : Int32) (j : Nat) : upd A k v j = if j = k then v else A j := rfl
theorem cpA_at (B A : Nat → Int32) (sp dp n j : Nat) : cpA B A sp dp n j = if dp ≤ j ∧ j < dp + n then B (sp + (j - dp)) else A j := rfl
theorem smF {S : Nat → Prop} {h h' : DT} (H : smX S h h') {n : Nat} (hn : ¬ S n) : gF h' n = gF h n := (H n hn).1
theorem smA {S : Nat → Prop} {h h' : DT} (H : smX S h h') {n : Nat} (hn : ¬ S n) : gA h' n = gA h n := (H n hn).2.2.1
theorem smB {S : Nat → Prop} {h h' : DT} (H : smX S h h') {n : Nat} (hn : ¬ S n) : gB h' n = gB h n := (H n hn).2.2.2
/-- the reference's cells but for its row of numbers a -/
def mSame (h h' : DT) : Prop := smX (fun n => 72 ≤ n ∧ n ≤ 94) h h' ∧ gA h' 74 = gA h 74 ∧ gA h' 75 = gA h 75 ∧ gA h' 76 = gA h 76 ∧ gF h' 72 4 = gF h 72 4 ∧ gF h' 72 5 = gF h 72 5 ∧ gF h' 72 6 = gF h 72 6 ∧ gF h' 72 23 = gF h 72 23
theorem mSame.rf (h : DT) : mSame h h := ⟨smX.rf _ h, rfl, rfl, rfl, rfl, rfl, rfl, rfl⟩
theorem mSame.tr {a b c : DT} (p : mSame a b) (q : mSame b c) : mSame a c := ⟨p.1.tr q.1, q.2.1.trans p.2.1, q.2.2.1.trans p.2.2.1, q.2.2.2.1.trans p.2.2.2.1, q.2.2.2.2.1.trans p.2.2.2.2.1, q.2.2.2.2.2.1.trans p.2.2.2.2.2.1, q.2.2.2.2.2.2.1.trans p.2.2.2.2.2.2.1, q.2.2.2.2.2.2.2.trans p.2.2.2.2.2.2.2⟩
theorem mSame_wA {h : DT} {n : Nat} {B : Nat → Int32} (hn : n = 73 ∨ 77 ≤ n ∧ n ≤ 94) : mSame h (wA h n B) := by
  refine ⟨smX_wA (by omega), ?_, ?_, ?_, rfl, rfl, rfl, rfl⟩ <;> rw [gA_wA, if_neg (by omega)]
