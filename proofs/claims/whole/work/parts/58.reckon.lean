/-! A LAW IN THE CLASS: its machine does what cIt says -/
theorem zt {z : Int} (h : -2147483648 ≤ z ∧ z < 2147483648) : (zI z).toInt = z := zI_toInt h.1 h.2
theorem z_n (n : Nat) : zI (n : Int) = nI n := (zI_nI n).symm
def stA (h : DT) : List Int → Prop
  | [] => True
  | v :: vs => gA h 42 vs.length = zI v ∧ stA h vs
theorem stA_up {h : DT} {k : Nat} {x : Int32} : ∀ (vs : List Int), vs.length ≤ k → stA h vs → stA (sA h 42 k x) vs
  | [], _, _ => trivial
  | v :: vs, hl, H => by
    have hl' : vs.length + 1 ≤ k := hl
    refine ⟨?_, stA_up vs (by omega) H.2⟩
    rw [gA_sA, if_neg (by omega)]
    exact H.1
theorem stA_F {h : DT} {c k : Nat} {x : Int32} : ∀ (vs : List Int), stA h vs → stA (sF h c k x) vs
  | [], _ => trivial
  | v :: vs, H => ⟨H.1, stA_F vs H.2⟩
theorem stA_cg {h h' : DT} (e : gA h' 42 = gA h 42) : ∀ (vs : List Int), stA h vs → stA h' vs
  | [], _ => trivial
  | v :: vs, H => ⟨by rw [e]; exact H.1, stA_cg e vs H.2⟩
/-- the stack of the class -/
def CSt (h : DT) (vs : List Int) (w : Int) : Prop := gF h 40 2 = nI vs.length ∧ stA h vs ∧ ∀ v ∈ vs, -(1000000 + w) ≤ v ∧ v ≤ 1000000 + w
def Cod (h : DT) (t : Nat) (C : Nat → Int) : Prop := ∃ sz, sz ≤ 300 ∧ gF h t 1 = nI sz ∧ (∀ i, i < sz → gA h (t + 4) i = zI (C i)) ∧ (∀ i, sz ≤ i → C i = 0) ∧ ∀ i, 0 ≤ C i ∧ C i ≤ 10063
def isTx (t : Nat) : Prop := t = 52 ∨ t = 57 ∨ t = 62 ∨ t = 67
section RK
variable (X : XS) (d : Nat) (tx tu gu : Option Nat) (tl : List SC)
theorem x_push (h : DT) {n : Nat} (x : Int32) (h0 : gF h 40 2 = nI n) (hn : n < 64) : cal X (d + 1) 11 [vP (some 40), vI x] (SK tx tu gu tl, h) = some (none, (SK tx tu gu tl, sF (sA h 42 n x) 40 2 (nI (n + 1)))) := by
  rw [c_X1_push, e_X1_push_0, h0, litI 64, if_neg (nI_ge hn (by omega)), inbI (by omega) (by omega), nI_1]
theorem x_pop (h : DT) {n : Nat} (h0 : gF h 40 2 = nI (n + 1)) (hn : n < 64) : cal X (d + 1) 12 [vP (some 40)] (SK tx tu gu tl, h) = some (some (vI (gA h 42 n)), (SK tx tu gu tl, sF h 40 2 (nI n))) := by
  rw [c_X1_pop, e_X1_pop_0, h0, if_neg (nI_ne0 (by omega) (by omega)), nI_pred, inbI (by omega) (by omega)]
theorem CSt_push {h : DT} {vs : List Int} {w v : Int} (H : CSt h vs w) (hv : -(1000000 + w) ≤ v ∧ v ≤ 1000000 + w) : CSt (sF (sA h 42 vs.length (zI v)) 40 2 (nI (vs.length + 1))) (v :: vs) w := by
  refine ⟨by rw [gF_sF, if_pos ⟨rfl, rfl⟩]; rfl, ⟨?_, ?_⟩, fun u hu => ?_⟩
  · rw [gA_sF, gA_sA, if_pos ⟨rfl, rfl⟩]
  · exact stA_F vs (stA_up vs (Nat.le_refl _) H.2.1)
  · rcases List.mem_cons.mp hu with e | e
    · rw [e]; exact hv
    · exact H.2.2 u e
theorem CSt_pop {h : DT} {vs : List Int} {w v : Int} (H : CSt h (v :: vs) w) : CSt (sF h 40 2 (nI vs.length)) vs w :=
  ⟨by rw [gF_sF, if_pos ⟨rfl, rfl⟩], stA_F vs H.2.1.2, fun u hu => H.2.2 u (List.mem_cons_of_mem _ hu)⟩
theorem CSt_w {h : DT} {vs : List Int} {w w' : Int} (H : CSt h vs w) (hw : w ≤ w') : CSt h vs w' :=
  ⟨H.1, H.2.1, fun u hu => by have := H.2.2 u hu; omega⟩
theorem x_codeAt (h : DT) {t i : Nat} {C : Nat → Int} (ht : isTx t) (H : Cod h t C) (hi : i < 2147483648) : cal X (d + 1) 88 [vP (some t), vI (nI i)] (SK tx tu gu tl, h) = some (some (vI (zI (C i))), (SK tx tu gu tl, h)) := by
  obtain ⟨sz, h1, h2, h3, h4, -⟩ := H
  rw [c_X7_codeAt, e_X7_codeAt_0 (ht := ht), if_neg (nI_pos hi), h2]
  by_cases g : i < sz
  · rw [if_neg (nI_ge g (by omega)), inbI (by omega) (by omega), h3 i g]
  · rw [if_pos (nI_le (by omega) hi), h4 i (by omega)]
    rfl
def clm (z m : Int) : Int := if z ≤ m then (if -m ≤ z then z else -m) else m
theorem clm_clp (z : Int) : clm z 1000000 = clp z := by
  unfold clm clp
  by_cases h1 : z ≤ 1000000
  · rw [if_pos h1, if_neg (show ¬ 1000000 < z by omega)]
    by_cases h2 : -1000000 ≤ z
    · rw [if_pos h2, if_neg (show ¬ z < -1000000 by omega)]
    · rw [if_neg h2, if_pos (show z < -1000000 by omega)]
  · rw [if_neg h1, if_pos (show 1000000 < z by omega)]
theorem zle {a b : Int} (ha : -2147483648 ≤ a ∧ a < 2147483648) (hb : -2147483648 ≤ b ∧ b < 2147483648) (h : a ≤ b) : zI a ≤ zI b := by rw [zI_le ha.1 ha.2 hb.1 hb.2]; exact h
theorem nzle {a b : Int} (ha : -2147483648 ≤ a ∧ a < 2147483648) (hb : -2147483648 ≤ b ∧ b < 2147483648) (h : ¬ a ≤ b) : ¬ zI a ≤ zI b := by rw [zI_le ha.1 ha.2 hb.1 hb.2]; exact h
theorem zlt {a b : Int} (ha : -2147483648 ≤ a ∧ a < 2147483648) (hb : -2147483648 ≤ b ∧ b < 2147483648) (h : a < b) : zI a < zI b := by rw [zI_lt ha.1 ha.2 hb.1 hb.2]; exact h
theorem nzlt {a b : Int} (ha : -2147483648 ≤ a ∧ a < 2147483648) (hb : -2147483648 ≤ b ∧ b < 2147483648) (h : ¬ a < b) : ¬ zI a < zI b := by rw [zI_lt ha.1 ha.2 hb.1 hb.2]; exact h
theorem zne {a b : Int} (ha : -2147483648 ≤ a ∧ a < 2147483648) (hb : -2147483648 ≤ b ∧ b < 2147483648) (h : ¬ a = b) : ¬ zI a = zI b := by rw [zI_eq ha.1 ha.2 hb.1 hb.2]; exact h
theorem zeq {a b : Int} (h : a = b) : zI a = zI b := congrArg zI h
theorem x_clamp (h : DT) {z m : Int} (hz : -2147483648 ≤ z ∧ z < 2147483648) (hm : 0 ≤ m ∧ m < 2147483648) : cal X (d + 1) 148 [vI (zI z), vI (zI m)] (SK tx tu gu tl, h) = some (some (vI (zI (clm z m))), (SK tx tu gu tl, h)) := by
  rw [c_X10_clamp, e_X10_clamp_0, zI_neg]
  unfold clm
  by_cases h1 : z ≤ m
  · rw [if_pos (zle hz (by omega) h1), if_pos h1]
    by_cases h2 : -m ≤ z
    · rw [if_pos (zle (by omega) hz h2), if_pos h2]
    · rw [if_neg (nzle (by omega) hz h2), if_neg h2]
  · rw [if_neg (nzle hz (by omega) h1), if_neg h1]
theorem x_stepTo (h : DT) {x y : Int} (hx : -2147483640 ≤ x ∧ x < 2147483640) (hy : -2147483640 ≤ y ∧ y < 2147483640) : cal X (d + 1) 14 [vI (zI x), vI (zI y)] (SK tx tu gu tl, h) = some (some (vI (zI (stI x y))), (SK tx tu gu tl, h)) := by
  rw [c_X1_stepTo, e_X1_stepTo_0, show (1 : Int32) = zI 1 from rfl, zI_sub, zI_add]
  unfold stI
  by_cases h1 : x < y
  · rw [if_neg (nzle (by omega) (by omega) (show ¬ y ≤ x by omega)), if_pos h1]
  · rw [if_pos (zle (by omega) (by omega) (show y ≤ x by omega)), if_neg h1]
    by_cases h2 : y < x
    · rw [if_neg (nzle (by omega) (by omega) (show ¬ x ≤ y by omega)), if_pos h2]
    · rw [if_pos (zle (by omega) (by omega) (show x ≤ y by omega)), if_neg h2]
/-- an integer as a long -/
def lI (z : Int) : Int64 := Int64.ofInt z
theorem lt6 {z : Int} (h : -9223372036854775808 ≤ z) (h' : z < 9223372036854775808) : (lI z).toInt = z := Int64.toInt_ofInt_of_le h h'
theorem z_l {z : Int} (h : -2147483648 ≤ z) (h' : z < 2147483648) : (zI z).toInt64 = lI z := Int64.toInt_inj.mp (by rw [Int32.toInt_toInt64, zI_toInt h h', lt6 (by omega) (by omega)])
theorem l_z {z : Int} (h : -2147483648 ≤ z) (h' : z < 2147483648) : (lI z).toInt32 = zI z := by
  rw [← z_l h h']
  exact Int32.toInt32_toInt64 _
theorem lI_add (a b : Int) : lI a + lI b = lI (a + b) := (Int64.ofInt_add a b).symm
theorem lI_sub (a b : Int) : lI a - lI b = lI (a - b) := (Int64.ofInt_sub a b).symm
theorem lI_mul (a b : Int) : lI a * lI b = lI (a * b) := (Int64.ofInt_mul a b).symm
theorem lI_neg (a : Int) : -lI a = lI (-a) := (Int64.ofInt_neg a).symm
theorem lI_lt {a b : Int} (h1 : -9223372036854775808 ≤ a) (h2 : a < 9223372036854775808) (h3 : -9223372036854775808 ≤ b) (h4 : b < 9223372036854775808) : (lI a < lI b) = (a < b) := by
  rw [Int64.lt_iff_toInt_lt, lt6 h1 h2, lt6 h3 h4]
theorem lI_le {a b : Int} (h1 : -9223372036854775808 ≤ a) (h2 : a < 9223372036854775808) (h3 : -9223372036854775808 ≤ b) (h4 : b < 9223372036854775808) : (lI a ≤ lI b) = (a ≤ b) := by
  rw [Int64.le_iff_toInt_le, lt6 h1 h2, lt6 h3 h4]
theorem lI_eq {a b : Int} (h1 : -9223372036854775808 ≤ a) (h2 : a < 9223372036854775808) (h3 : -9223372036854775808 ≤ b) (h4 : b < 9223372036854775808) : (lI a = lI b) = (a = b) := by
  rw [← Int64.toInt_inj, lt6 h1 h2, lt6 h3 h4]
theorem llt {a b : Int} (ha : -9223372036854775808 ≤ a ∧ a < 9223372036854775808) (hb : -9223372036854775808 ≤ b ∧ b < 9223372036854775808) (h : a < b) : lI a < lI b := by rw [lI_lt ha.1 ha.2 hb.1 hb.2]; exact h
theorem nllt {a b : Int} (ha : -9223372036854775808 ≤ a ∧ a < 9223372036854775808) (hb : -9223372036854775808 ≤ b ∧ b < 9223372036854775808) (h : ¬ a < b) : ¬ lI a < lI b := by rw [lI_lt ha.1 ha.2 hb.1 hb.2]; exact h
theorem lle {a b : Int} (ha : -9223372036854775808 ≤ a ∧ a < 9223372036854775808) (hb : -9223372036854775808 ≤ b ∧ b < 9223372036854775808) (h : a ≤ b) : lI a ≤ lI b := by rw [lI_le ha.1 ha.2 hb.1 hb.2]; exact h
theorem nlle {a b : Int} (ha : -9223372036854775808 ≤ a ∧ a < 9223372036854775808) (hb : -9223372036854775808 ≤ b ∧ b < 9223372036854775808) (h : ¬ a ≤ b) : ¬ lI a ≤ lI b := by rw [lI_le ha.1 ha.2 hb.1 hb.2]; exact h
theorem lne {a b : Int} (ha : -9223372036854775808 ≤ a ∧ a < 9223372036854775808) (hb : -9223372036854775808 ≤ b ∧ b < 9223372036854775808) (h : ¬ a = b) : ¬ lI a = lI b := by rw [lI_eq ha.1 ha.2 hb.1 hb.2]; exact h
theorem mul_b {l r : Int} (hl : -2000000 ≤ l ∧ l ≤ 2000000) (hr : -2000000 ≤ r ∧ r ≤ 2000000) : -4000000000000 ≤ l * r ∧ l * r ≤ 4000000000000 := by
  have h1 : l.natAbs ≤ 2000000 := by omega
  have h2 : r.natAbs ≤ 2000000 := by omega
  have h3 : (l * r).natAbs ≤ 2000000 * 2000000 := by
    rw [Int.natAbs_mul]
    exact Nat.mul_le_mul h1 h2
  omega
theorem zI_div {l r : Int} (hl : -2000000 ≤ l ∧ l ≤ 2000000) (hr : -2000000 ≤ r ∧ r ≤ 2000000) : zI l / zI r = zI (l.tdiv r) := by
  refine Int32.toInt_inj.mp ?_
  have hb : (l.tdiv r).natAbs ≤ l.natAbs := by
    rw [Int.natAbs_tdiv]
    exact Nat.div_le_self _ _
  rw [Int32.toInt_div_of_ne_left _ _ (by intro e; have := congrArg Int32.toInt e; rw [zI_toInt (by omega) (by omega)] at this; have e2 : Int32.minValue.toInt = -2147483648 := by decide
                                         omega), zI_toInt (by omega) (by omega), zI_toInt (by omega) (by omega), zI_toInt (by omega) (by omega)]
theorem zb (b : Prop) [Decidable b] : (if b then (1 : Int32) else 0) = zI (if b then 1 else 0) := by
  by_cases h : b
  · rw [if_pos h, if_pos h]; rfl
  · rw [if_neg h, if_neg h]; rfl
theorem x_joined (h : DT) {k l r v : Int} (hj : jnI k l r = some v) (hl : -2000000 ≤ l ∧ l ≤ 2000000) (hr : -2000000 ≤ r ∧ r ≤ 2000000) : cal X (d + 2) 13 [vI (zI k), vI (zI l), vI (zI r)] (SK tx tu gu tl, h) = some (some (vI (zI v)), (SK tx tu gu tl, h)) := by
  have hm := mul_b hl hr
  unfold jnI at hj
  rw [c_X1_joined, e_X1_joined_0]
  by_cases k1 : k = 1
  · subst k1
    rw [if_pos rfl] at hj
    cases hj
    rw [if_pos (by decide), zI_add, show (1000000 : Int32) = zI 1000000 from rfl, x_clamp X d tx tu gu tl h (by omega) (by omega), clm_clp]
    rfl
  rw [if_neg k1] at hj
  by_cases k2 : k = 2
  · subst k2
    rw [if_pos rfl] at hj
    cases hj
    rw [if_neg (by decide), if_pos (by decide), zI_sub, show (1000000 : Int32) = zI 1000000 from rfl, x_clamp X d tx tu gu tl h (by omega) (by omega), clm_clp]
    rfl
  rw [if_neg k2] at hj
  by_cases k3 : k = 3
  · subst k3
    rw [if_pos rfl] at hj
    cases hj
    rw [if_neg (by decide), if_neg (by decide), if_pos (by decide), e_X1_joined_98, z_l (by omega) (by omega), z_l (by omega) (by omega), lI_mul, show (1000000 : Int64) = lI 1000000 from rfl, lI_neg]
    unfold clp
    by_cases q1 : l * r < 1000000
    · rw [if_pos (llt (by omega) (by omega) q1), if_neg (show ¬ 1000000 < l * r by omega)]
      by_cases q2 : l * r < -1000000
      · rw [if_pos (llt (by omega) (by omega) q2), if_pos q2, l_z (by omega) (by omega)]
      · rw [if_neg (nllt (by omega) (by omega) q2), if_neg q2, l_z (by omega) (by omega)]
    · rw [if_neg (nllt (by omega) (by omega) q1), if_neg (nllt (by omega) (by omega) (show ¬ (1000000 : Int) < -1000000 by omega)), l_z (by omega) (by omega)]
      by_cases q2 : 1000000 < l * r
      · rw [if_pos q2]
      · rw [if_neg q2, if_neg (show ¬ l * r < -1000000 by omega), show l * r = 1000000 by omega]
  rw [if_neg k3] at hj
  by_cases k4 : k = 4
  · subst k4
    rw [if_pos rfl] at hj
    cases hj
    rw [if_neg (by decide), if_neg (by decide), if_neg (by decide), if_pos (by decide), e_X1_joined_119, show (0 : Int32) = zI 0 from rfl]
    by_cases q : r = 0
    · rw [if_pos (zeq q), if_pos q]
    · rw [if_neg (zne (by omega) (by omega) q), if_neg (zne (by omega) (by omega) q), if_neg q, zI_div hl hr]
  rw [if_neg k4] at hj
  by_cases k6 : k = 6
  · subst k6
    rw [if_pos rfl] at hj
    cases hj
    rw [if_neg (by decide), if_neg (by decide), if_neg (by decide), if_neg (by decide), if_neg (by decide), if_pos (by decide), x_stepTo X d tx tu gu tl h (by omega) (by omega)]
    rfl
  rw [if_neg k6] at hj
  by_cases k8 : k = 8
  · subst k8
    rw [if_pos rfl] at hj
    cases hj
    rw [if_neg (by decide), if_neg (by decide), if_neg (by decide), if_neg (by decide), if_neg (by decide), if_neg (by decide), if_neg (by decide), if_pos (by decide), e_X1_joined_140]
    by_cases q : l < r
    · rw [if_neg (nzle (by omega) (by omega) (show ¬ r ≤ l by omega)), if_pos q]; rfl
    · rw [if_pos (zle (by omega) (by omega) (show r ≤ l by omega)), if_neg q]; rfl
  rw [if_neg k8] at hj
  by_cases k9 : k = 9
  · subst k9
    rw [if_pos rfl] at hj
    cases hj
    rw [if_neg (by decide), if_neg (by decide), if_neg (by decide), if_neg (by decide), if_neg (by decide), if_neg (by decide), if_neg (by decide), if_neg (by decide), if_pos (by decide), e_X1_joined_151]
    by_cases q : l ≤ r
    · rw [if_neg (nzlt (by omega) (by omega) (show ¬ r < l by omega)), if_pos q]; rfl
    · rw [if_pos (zlt (by omega) (by omega) (show r < l by omega)), if_neg q]; rfl
  rw [if_neg k9] at hj
  by_cases k10 : k = 10
  · subst k10
    rw [if_pos rfl] at hj
    cases hj
    rw [if_neg (by decide), if_neg (by decide), if_neg (by decide), if_neg (by decide), if_neg (by decide), if_neg (by decide), if_neg (by decide), if_neg (by decide), if_neg (by decide), if_pos (by decide)]
    by_cases q : r < l
    · rw [if_neg (nzle (by omega) (by omega) (show ¬ l ≤ r by omega)), if_pos q]; rfl
    · rw [if_pos (zle (by omega) (by omega) (show l ≤ r by omega)), if_neg q]; rfl
  rw [if_neg k10] at hj
  by_cases k11 : k = 11
  · subst k11
    rw [if_pos rfl] at hj
    cases hj
    rw [if_neg (by decide), if_neg (by decide), if_neg (by decide), if_neg (by decide), if_neg (by decide), if_neg (by decide), if_neg (by decide), if_neg (by decide), if_neg (by decide), if_neg (by decide), if_pos (by decide)]
    by_cases q : r ≤ l
    · rw [if_neg (nzlt (by omega) (by omega) (show ¬ l < r by omega)), if_pos q]; rfl
    · rw [if_pos (zlt (by omega) (by omega) (show l < r by omega)), if_neg q]; rfl
  rw [if_neg k11] at hj
  by_cases k12 : k = 12
  · subst k12
    rw [if_pos rfl] at hj
    cases hj
    rw [if_neg (by decide), if_neg (by decide), if_neg (by decide), if_neg (by decide), if_neg (by decide), if_neg (by decide), if_neg (by decide), if_neg (by decide), if_neg (by decide), if_neg (by decide), if_neg (by decide), if_pos (by decide)]
    by_cases q : l = r
    · rw [if_pos (zeq q), if_pos q]; rfl
    · rw [if_neg (zne (by omega) (by omega) q), if_neg q]; rfl
  rw [if_neg k12] at hj
  by_cases k13 : k = 13
  · subst k13
    rw [if_pos rfl] at hj
    cases hj
    rw [if_neg (by decide), if_neg (by decide), if_neg (by decide), if_neg (by decide), if_neg (by decide), if_neg (by decide), if_neg (by decide), if_neg (by decide), if_neg (by decide), if_neg (by decide), if_neg (by decide), if_neg (by decide), if_pos (by decide)]
    by_cases q : l = r
    · rw [if_pos (zeq q), if_pos q]; rfl
    · rw [if_neg (zne (by omega) (by omega) q), if_neg q]; rfl
  rw [if_neg k13] at hj
  by_cases k15 : k = 15
  · subst k15
    rw [if_pos rfl] at hj
    rw [if_neg (by decide), if_neg (by decide), if_neg (by decide), if_neg (by decide), if_neg (by decide), if_neg (by decide), if_neg (by decide), if_neg (by decide), if_neg (by decide), if_neg (by decide), if_neg (by decide), if_neg (by decide), if_neg (by decide), if_neg (by decide), if_pos (by decide)]
    by_cases q : (l = 0 ∨ l = 1) ∧ (r = 0 ∨ r = 1)
    · rw [if_pos q] at hj
      cases hj
      obtain ⟨rfl | rfl, rfl | rfl⟩ := q <;> rfl
    · rw [if_neg q] at hj; cases hj
  rw [if_neg k15] at hj
  by_cases k16 : k = 16
  · subst k16
    rw [if_pos rfl] at hj
    rw [if_neg (by decide), if_neg (by decide), if_neg (by decide), if_neg (by decide), if_neg (by decide), if_neg (by decide), if_neg (by decide), if_neg (by decide), if_neg (by decide), if_neg (by decide), if_neg (by decide), if_neg (by decide), if_neg (by decide), if_neg (by decide), if_neg (by decide), if_pos (by decide)]
    by_cases q : (l = 0 ∨ l = 1) ∧ (r = 0 ∨ r = 1)
    · rw [if_pos q] at hj
      cases hj
      obtain ⟨rfl | rfl, rfl | rfl⟩ := q <;> rfl
    · rw [if_neg q] at hj; cases hj
  rw [if_neg k16] at hj
  cases hj
theorem jnI_b {k l r v : Int} {w : Int} (hj : jnI k l r = some v) (hl : -(1000000 + w) ≤ l ∧ l ≤ 1000000 + w) (hr : -(1000000 + w) ≤ r ∧ r ≤ 1000000 + w) (hw : 0 ≤ w) : -(1000000 + w) ≤ v ∧ v ≤ 1000000 + w := by
  unfold jnI at hj
  have cb : ∀ x, -(1000000 + w) ≤ clp x ∧ clp x ≤ 1000000 + w := fun x => by have := clp_b x; unfold b6 at this; omega
  by_cases k1 : k = 1
  · rw [if_pos k1] at hj
    cases hj
    exact cb _
  rw [if_neg k1] at hj
  by_cases k2 : k = 2
  · rw [if_pos k2] at hj
    cases hj
    exact cb _
  rw [if_neg k2] at hj
  by_cases k3 : k = 3
  · rw [if_pos k3] at hj
    cases hj
    exact cb _
  rw [if_neg k3] at hj
  by_cases k4 : k = 4
  · rw [if_pos k4] at hj
    cases hj
    by_cases q : r = 0
    · rw [if_pos q]; omega
    · rw [if_neg q]
      have hb : (l.tdiv r).natAbs ≤ l.natAbs := by
        rw [Int.natAbs_tdiv]
        exact Nat.div_le_self _ _
      omega
  rw [if_neg k4] at hj
  by_cases k6 : k = 6
  · rw [if_pos k6] at hj
    cases hj
    unfold stI
    by_cases q : l < r
    · rw [if_pos q]; omega
    · rw [if_neg q]
      by_cases q2 : r < l
      · rw [if_pos q2]; omega
      · rw [if_neg q2]; omega
  rw [if_neg k6] at hj
  by_cases k8 : k = 8
  · rw [if_pos k8] at hj
    cases hj
    by_cases q : l < r
    · rw [if_pos q]; omega
    · rw [if_neg q]; omega
  rw [if_neg k8] at hj
  by_cases k9 : k = 9
  · rw [if_pos k9] at hj
    cases hj
    by_cases q : l ≤ r
    · rw [if_pos q]; omega
    · rw [if_neg q]; omega
  rw [if_neg k9] at hj
  by_cases k10 : k = 10
  · rw [if_pos k10] at hj
    cases hj
    by_cases q : r < l
    · rw [if_pos q]; omega
    · rw [if_neg q]; omega
  rw [if_neg k10] at hj
  by_cases k11 : k = 11
  · rw [if_pos k11] at hj
    cases hj
    by_cases q : r ≤ l
    · rw [if_pos q]; omega
    · rw [if_neg q]; omega
  rw [if_neg k11] at hj
  by_cases k12 : k = 12
  · rw [if_pos k12] at hj
    cases hj
    by_cases q : l = r
    · rw [if_pos q]; omega
    · rw [if_neg q]; omega
  rw [if_neg k12] at hj
  by_cases k13 : k = 13
  · rw [if_pos k13] at hj
    cases hj
    by_cases q : l = r
    · rw [if_pos q]; omega
    · rw [if_neg q]; omega
  rw [if_neg k13] at hj
  by_cases k15 : k = 15
  · rw [if_pos k15] at hj
    by_cases q : (l = 0 ∨ l = 1) ∧ (r = 0 ∨ r = 1)
    · rw [if_pos q] at hj
      cases hj
      obtain ⟨rfl | rfl, rfl | rfl⟩ := q <;> omega
    · rw [if_neg q] at hj; cases hj
  rw [if_neg k15] at hj
  by_cases k16 : k = 16
  · rw [if_pos k16] at hj
    by_cases q : (l = 0 ∨ l = 1) ∧ (r = 0 ∨ r = 1)
    · rw [if_pos q] at hj
      cases hj
      obtain ⟨rfl | rfl, rfl | rfl⟩ := q <;> simp <;> omega
    · rw [if_neg q] at hj; cases hj
  rw [if_neg k16] at hj
  cases hj
/-- what laws look up: the names as they are set, the slants of seats -/
def EnvX (h : DT) (p : Nat) (E : EV) : Prop := (∀ k, k < 9 → gA h 41 k = zI (E.1 k)) ∧ EB E ∧ ∀ (d : Nat) (h' : DT) (x : Int), smX (fun c => c = 40 ∨ c = 42) h h' → -2000000 ≤ x ∧ x ≤ 2000000 → cal X (d + 1) 58 [vP (some p), vI (zI x)] (SK tx tu gu tl, h') = some (some (vI (zI (E.2 x))), (SK tx tu gu tl, h'))
theorem EnvX.cg {h h' : DT} {p : Nat} {E : EV} (H : EnvX X tx tu gu tl h p E) (s : smX (fun c => c = 40 ∨ c = 42) h h') : EnvX X tx tu gu tl h' p E :=
  ⟨fun k hk => by rw [smA s (by omega)]; exact H.1 k hk, H.2.1, fun d h2 x hs hx => H.2.2 d h2 x (s.tr hs) hx⟩
theorem Cod.cg {h h' : DT} {t : Nat} {C : Nat → Int} (H : Cod h t C) (ht : isTx t) (s : smX (fun c => c = 40 ∨ c = 42) h h') : Cod h' t C := by
  obtain ⟨sz, h1, h2, h3, h4⟩ := H
  exact ⟨sz, h1, by rw [smF s (by unfold isTx at ht; omega)]; exact h2, fun i hi => by rw [smA s (by unfold isTx at ht; omega)]; exact h3 i hi, h4⟩
abbrev mR (f : Nat) (p t : Nat) (a n : Nat) (h : DT) : RR := m_X1_reckon X (d + 2) f 11 [(0, vP (some 40)), (1, vP (some p)), (2, vP (some t)), (4, vI (nI a)), (5, vI (nI n))] [] (SK tx tu gu tl, h)
theorem cSt_0 {C : Nat → Int} {E : EV} {a : Nat} {vs : List Int} (h : C a = 0) : cSt C E a vs = none := by
  unfold cSt
  rw [h, if_neg (by omega), if_neg (by omega), if_neg (by omega), if_neg (by omega), if_neg (by omega), if_neg (by omega), if_neg (by omega)]
  cases vs with
  | nil => rfl
  | cons v vs =>
    cases vs with
    | nil => rfl
    | cons u vs => rfl
theorem rk_step {p t a n f : Nat} {C : Nat → Int} {E : EV} {vs vs' : List Int} {a' : Nat} (hp : p = 1 ∨ p = 31) (ht : isTx t) (h : DT) (HE : EnvX X tx tu gu tl h p E) (HC : Cod h t C) (HS : CSt h vs n) (hn : n < 300) (ha : a < 100000) (hv : vs.length ≤ 64) (e : cSt C E a vs = some (a', vs')) :
    ∃ f' h', f ≤ f' ∧ mR X d tx tu gu tl (f + 8) p t a n h = mR X d tx tu gu tl f' p t a' (n + 1) h' ∧ smX (fun c => c = 40 ∨ c = 42) h h' ∧ CSt h' vs' ((n : Int) + 1) ∧ vs'.length ≤ 64 ∧ a' < 100000 := by
  have hb := HC.elim fun sz q => q.2.2.2.2
  have ca := x_codeAt X (d + 1) tx tu gu tl h (i := a) ht HC (by omega)
  have ca1 := x_codeAt X (d + 1) tx tu gu tl h (i := a + 1) ht HC (by omega)
  have e11 : mR X d tx tu gu tl (f + 8) p t a n h = m_X1_reckon X (d + 2) (f + 7) 25 [(0, vP (some 40)), (1, vP (some p)), (2, vP (some t)), (4, vI (nI a)), (5, vI (nI n))] [vI (zI (C a))] (SK tx tu gu tl, h) := by
    show m_X1_reckon X (d + 2) (f + 7 + 1) 11 [(0, vP (some 40)), (1, vP (some p)), (2, vP (some t)), (4, vI (nI a)), (5, vI (nI n))] [] (SK tx tu gu tl, h) = _
    rw [e_X1_reckon_11 (hp := hp) (ht := ht), litI 300, if_neg (nI_ge hn (by omega)), ca, bI_s]
  have c0 : ¬ C a = 0 := fun q => by rw [cSt_0 q] at e; cases e
  have ha3 : a < 300 := by
    obtain ⟨sz, q1, -, -, q4, -⟩ := HC
    rcases Nat.lt_or_ge a sz with q | q
    · omega
    · exact absurd (q4 a q) c0
  have hCa := hb a
  have hC1 := hb (a + 1)
  have z0 : (0 : Int32) = zI 0 := rfl
  unfold cSt at e
  rw [e11, e_X1_reckon_25 (hp := hp) (ht := ht), show (64 : Int32) = zI 64 from rfl, show (32 : Int32) = zI 32 from rfl, nI_1, nI_1, zI_sub, zI_sub, z0]
  have n0 : ¬ C a = 0 → ¬ zI (C a) = zI 0 := zne (by omega) (by omega)
  have n17 : ¬ C a = 17 → ¬ zI (C a) = zI 17 := zne (by omega) (by omega)
  have n18 : ¬ C a = 18 → ¬ zI (C a) = zI 18 := zne (by omega) (by omega)
  have n7 : ¬ C a = 7 → ¬ zI (C a) = zI 7 := zne (by omega) (by omega)
  have l64 : C a < 64 → zI (C a) < zI 64 := zlt (by omega) (by omega)
  have l32 : C a < 32 → zI (C a) < zI 32 := zlt (by omega) (by omega)
  have g64 : ¬ C a < 64 → ¬ zI (C a) < zI 64 := nzlt (by omega) (by omega)
  have g32 : ¬ C a < 32 → ¬ zI (C a) < zI 32 := nzlt (by omega) (by omega)
  by_cases c64 : 64 ≤ C a
  · rw [if_pos c64] at e
    by_cases g : C a ≤ 10063 ∧ vs.length < 64
    · rw [if_pos g] at e
      cases e
      refine ⟨f + 6, _, by omega, ?_, ((smX_sA (Or.inr rfl)).tr (smX_sF (Or.inl rfl))), CSt_push (v := C a - 64) (CSt_w (w' := (n : Int) + 1) HS (by omega)) (by omega), by simp; omega, by omega⟩
      rw [if_neg (n0 (by omega)), if_neg (g64 (by omega)), x_push X (d + 1) tx tu gu tl h _ HS.1 g.2, bV_s]
    · rw [if_neg g] at e; cases e
  rw [if_neg c64] at e
  by_cases c32 : 32 ≤ C a
  · rw [if_pos c32] at e
    by_cases g : C a < 41 ∧ vs.length < 64
    · rw [if_pos g] at e
      cases e
      have hk : (C a - 32).toNat < 9 := by omega
      have he := HE.2.1.1 _ hk
      unfold b6 at he
      have z9 : zI (C a - 32) = nI (C a - 32).toNat := by
        rw [zI_nI]; congr 1; omega
      refine ⟨f + 6, _, by omega, ?_, ((smX_sA (Or.inr rfl)).tr (smX_sF (Or.inl rfl))), CSt_push (v := E.1 (C a - 32).toNat) (CSt_w (w' := (n : Int) + 1) HS (by omega)) (by omega), by simp; omega, by omega⟩
      rw [if_neg (n0 (by omega)), if_pos (l64 (by omega)), if_neg (g32 (by omega)), show (9 : Int32) = zI 9 from rfl, if_neg (nzle (by omega) (by omega) (show ¬ (9 : Int) ≤ C a - 32 by omega)), z9, inbI (by omega) (by omega), HE.1 _ hk, x_push X (d + 1) tx tu gu tl h _ HS.1 g.2, bV_s]
    · rw [if_neg g] at e; cases e
  rw [if_neg c32] at e
  rw [if_pos (l64 (by omega)), if_pos (l32 (by omega)), show (17 : Int32) = zI 17 from rfl, show (18 : Int32) = zI 18 from rfl, show (7 : Int32) = zI 7 from rfl]
  by_cases c17 : C a = 17
  · rw [if_pos c17, if_pos hC1.1] at e
    cases e
    refine ⟨f + 6, h, by omega, ?_, smX.rf _ h, CSt_w HS (by omega), hv, by omega⟩
    have z9 : zI (C (a + 1)) = nI (C (a + 1)).toNat := by
      rw [zI_nI]; congr 1; omega
    rw [if_neg (n0 (by omega)), if_pos (zeq c17), ca1, bI_s, z9]
  rw [if_neg c17] at e
  by_cases c18 : C a = 18
  · rw [if_pos c18] at e
    cases vs with
    | nil => cases e
    | cons v vs =>
      have hl : vs.length < 64 := by simp at hv; omega
      change (if v = 0 then (if 0 ≤ C (a + 1) then some ((C (a + 1)).toNat, vs) else none) else some (a + 2, vs)) = some (a', vs') at e
      have h1 : gF h 40 2 = nI (vs.length + 1) := HS.1
      have hv2 := HS.2.2 v List.mem_cons_self
      have ca2 := x_codeAt X (d + 1) tx tu gu tl (sF h 40 2 (nI vs.length)) (i := a + 1) ht (HC.cg ht (smX_sF (Or.inl rfl))) (by omega)
      rw [if_neg (n0 (by omega)), if_neg (n17 (by omega)), if_pos (zeq c18), x_pop X (d + 1) tx tu gu tl h h1 hl, bI_s, e_X1_reckon_124 (hp := hp) (ht := ht), HS.2.1.1, z0, nI_1, nI_1]
      by_cases g : v = 0
      · rw [if_pos g, if_pos hC1.1] at e
        cases e
        have z9 : zI (C (a + 1)) = nI (C (a + 1)).toNat := by
          rw [zI_nI]; congr 1; omega
        refine ⟨f + 5, _, by omega, ?_, smX_sF (Or.inl rfl), CSt_w (CSt_pop HS) (by omega), by omega, by omega⟩
        rw [if_pos (zeq g), ca2, bI_s, z9]
      · rw [if_neg g] at e
        cases e
        refine ⟨f + 5, _, by omega, ?_, smX_sF (Or.inl rfl), CSt_w (CSt_pop HS) (by omega), by omega, by omega⟩
        rw [if_neg (zne (by omega) (by omega) g)]
  rw [if_neg c18] at e
  by_cases c7 : C a = 7
  · rw [if_pos c7] at e
    cases vs with
    | nil => cases e
    | cons v vs =>
      have hl : vs.length < 64 := by simp at hv; omega
      change some (a + 1, E.2 v :: vs) = some (a', vs') at e
      cases e
      have h1 : gF h 40 2 = nI (vs.length + 1) := HS.1
      have hv2 := HS.2.2 v List.mem_cons_self
      have he := HE.2.1.2 v
      unfold b6 at he
      refine ⟨f + 4, _, by omega, ?_, ((smX_sF (Or.inl rfl)).tr (smX_sA (Or.inr rfl))).tr (smX_sF (Or.inl rfl)), CSt_push (v := E.2 v) (CSt_w (w' := (n : Int) + 1) (CSt_pop HS) (by omega)) (by omega), by simp; omega, by omega⟩
      rw [if_neg (n0 (by omega)), if_neg (n17 (by omega)), if_neg (n18 (by omega)), if_pos (zeq c7), x_pop X (d + 1) tx tu gu tl h h1 hl, bI_s, e_X1_reckon_158 (hp := hp) (ht := ht), HS.2.1.1, HE.2.2 (d + 1) _ v (smX_sF (Or.inl rfl)) (by omega), bI_s, e_X1_reckon_161 (hp := hp) (ht := ht), x_push X (d + 1) tx tu gu tl _ _ (CSt_pop HS).1 hl, bV_s, nI_1]
  rw [if_neg c7] at e
  rw [if_neg (n17 c17), if_neg (n18 c18), if_neg (n7 c7)]
  by_cases c5 : C a = 5
  · rw [if_pos c5] at e
    cases vs with
    | nil => cases e
    | cons v vs =>
      have hl : vs.length < 64 := by simp at hv; omega
      change some (a + 1, -v :: vs) = some (a', vs') at e
      cases e
      have h1 : gF h 40 2 = nI (vs.length + 1) := HS.1
      have hv2 := HS.2.2 v List.mem_cons_self
      refine ⟨f + 4, _, by omega, ?_, ((smX_sF (Or.inl rfl)).tr (smX_sA (Or.inr rfl))).tr (smX_sF (Or.inl rfl)), CSt_push (v := -v) (CSt_w (w' := (n : Int) + 1) (CSt_pop HS) (by omega)) (by omega), by simp; omega, by omega⟩
      rw [if_neg (n0 (by omega)), x_pop X (d + 1) tx tu gu tl h h1 hl, bI_s, e_X1_reckon_171 (hp := hp) (ht := ht), c5, if_pos (by decide), c_X1_joined, e_X1_joined_0, if_neg (by decide), if_neg (by decide), if_neg (by decide), if_neg (by decide), if_pos (by decide), bI_s, e_X1_reckon_206 (hp := hp) (ht := ht), HS.2.1.1, zI_neg, x_push X (d + 1) tx tu gu tl _ _ (CSt_pop HS).1 hl, bV_s, nI_1]
  rw [if_neg c5] at e
  by_cases c14 : C a = 14
  · rw [if_pos c14] at e
    cases vs with
    | nil => cases e
    | cons v vs =>
      have hl : vs.length < 64 := by simp at hv; omega
      change some (a + 1, (1 - v) :: vs) = some (a', vs') at e
      cases e
      have h1 : gF h 40 2 = nI (vs.length + 1) := HS.1
      have hv2 := HS.2.2 v List.mem_cons_self
      refine ⟨f + 4, _, by omega, ?_, ((smX_sF (Or.inl rfl)).tr (smX_sA (Or.inr rfl))).tr (smX_sF (Or.inl rfl)), CSt_push (v := 1 - v) (CSt_w (w' := (n : Int) + 1) (CSt_pop HS) (by omega)) (by omega), by simp; omega, by omega⟩
      rw [if_neg (n0 (by omega)), x_pop X (d + 1) tx tu gu tl h h1 hl, bI_s, e_X1_reckon_171 (hp := hp) (ht := ht), c14, if_neg (by decide), if_pos (by decide), c_X1_joined, e_X1_joined_0, if_neg (by decide), if_neg (by decide), if_neg (by decide), if_neg (by decide), if_neg (by decide), if_neg (by decide), if_neg (by decide), if_neg (by decide), if_neg (by decide), if_neg (by decide), if_neg (by decide), if_neg (by decide), if_neg (by decide), if_pos (by decide), bI_s, e_X1_reckon_206 (hp := hp) (ht := ht), HS.2.1.1, show (1 : Int32) = zI 1 from rfl, zI_sub, x_push X (d + 1) tx tu gu tl _ _ (CSt_pop HS).1 hl, bV_s]
      show m_X1_reckon X (d + 2) (f + 4) 11 [(0, vP (some 40)), (1, vP (some p)), (2, vP (some t)), (4, vI (nI (a + 1))), (5, vI (nI n + zI 1))] [] _ = _
      rw [show nI n + zI 1 = nI (n + 1) from nI_1 n]
  rw [if_neg c14] at e
  cases vs with
  | nil => cases e
  | cons v vs =>
    cases vs with
    | nil => cases e
    | cons u vs =>
      have hl : vs.length < 63 := by simp at hv; omega
      change (jnI (C a) u v).map (fun x => (a + 1, x :: vs)) = some (a', vs') at e
      cases hj : jnI (C a) u v with
      | none => rw [hj] at e; cases e
      | some x =>
        rw [hj] at e
        cases e
        have h1 : gF h 40 2 = nI (vs.length + 1 + 1) := HS.1
        have hv2 := HS.2.2 v List.mem_cons_self
        have hu2 := HS.2.2 u (List.mem_cons_of_mem _ List.mem_cons_self)
        have hx := jnI_b hj hu2 hv2 (by omega)
        have HS1 : CSt (sF h 40 2 (nI (vs.length + 1))) (u :: vs) n := CSt_pop HS
        have HS2 := CSt_pop HS1
        refine ⟨f + 4, _, by omega, ?_, (((smX_sF (Or.inl rfl)).tr (smX_sF (Or.inl rfl))).tr (smX_sA (Or.inr rfl))).tr (smX_sF (Or.inl rfl)), CSt_push (v := x) (CSt_w (w' := (n : Int) + 1) HS2 (by omega)) (by omega), by simp; omega, by omega⟩
        have p1 := x_pop X (d + 1) tx tu gu tl (sF h 40 2 (nI (vs.length + 1))) (n := vs.length) (by rw [gF_sF, if_pos ⟨rfl, rfl⟩]) (by omega)
        have e42 : gA (sF h 40 2 (nI (vs.length + 1))) 42 vs.length = zI u := HS.2.1.2.1
        rw [e42] at p1
        rw [if_neg (n0 c0), x_pop X (d + 1) tx tu gu tl h h1 (by omega), bI_s, e_X1_reckon_171 (hp := hp) (ht := ht), show (5 : Int32) = zI 5 from rfl, show (14 : Int32) = zI 14 from rfl, if_neg (zne (by omega) (by omega) c5), if_neg (zne (by omega) (by omega) c14), p1, bI_s, show gA h 42 (vs.length + 1) = zI v from HS.2.1.1, x_joined X d tx tu gu tl _ hj (by omega) (by omega), bI_s, e_X1_reckon_206 (hp := hp) (ht := ht), x_push X (d + 1) tx tu gu tl _ _ HS2.1 (by omega), bV_s, nI_1]
theorem rk_run {p t : Nat} {C : Nat → Int} {E : EV} (hp : p = 1 ∨ p = 31) (ht : isTx t) : ∀ (m a n f b : Nat) (vs vs' : List Int) (h : DT), EnvX X tx tu gu tl h p E → Cod h t C → CSt h vs n → n + m ≤ 300 → a < 100000 → vs.length ≤ 64 → 8 * m ≤ f → cIt C E m a vs = some (b, vs') → ∃ f' h', f - 8 * m ≤ f' ∧ mR X d tx tu gu tl f p t a n h = mR X d tx tu gu tl f' p t b (n + m) h' ∧ smX (fun c => c = 40 ∨ c = 42) h h' ∧ CSt h' vs' ((n : Int) + m) ∧ vs'.length ≤ 64 ∧ b < 100000
  | 0, a, n, f, b, vs, vs', h, HE, HC, HS, hn, ha, hv, hf, e => by
    cases e
    exact ⟨f, h, by omega, rfl, smX.rf _ h, CSt_w HS (by omega), hv, ha⟩
  | m + 1, a, n, f, b, vs, vs', h, HE, HC, HS, hn, ha, hv, hf, e => by
    obtain ⟨f, rfl⟩ : ∃ g, f = g + 8 := ⟨f - 8, by omega⟩
    change (cSt C E a vs).bind (fun q => cIt C E m q.1 q.2) = some (b, vs') at e
    cases hs : cSt C E a vs with
    | none => rw [hs] at e; cases e
    | some q =>
      rw [hs] at e
      obtain ⟨f1, h1, g1, g2, g3, g4, g5, g6⟩ := rk_step X d tx tu gu tl hp ht h HE HC HS (by omega) ha hv (f := f) (a' := q.1) (vs' := q.2) hs
      have g4' : CSt h1 q.2 ((n + 1 : Nat) : Int) := g4
      obtain ⟨f2, h2, k1, k2, k3, k4, k5, k6⟩ := rk_run hp ht m q.1 (n + 1) f1 b q.2 vs' h1 (HE.cg X tx tu gu tl g3) (HC.cg ht g3) g4' (by omega) g6 g5 (by omega) e
      refine ⟨f2, h2, by omega, ?_, g3.tr k3, ?_, k5, k6⟩
      · rw [g2, k2, show n + 1 + m = n + (m + 1) by omega]
      · exact CSt_w k4 (by omega)
/-- a law is reckoned: it comes to what its code does -/
theorem x_reckon {p t a b w : Nat} {C : Nat → Int} {E : EV} {D : EV → Int} (hp : p = 1 ∨ p = 31) (ht : isTx t) (h : DT) (HE : EnvX X tx tu gu tl h p E) (HC : Cod h t C) (hS : CS C a b w D) (hw : w ≤ 64) (hb : b < 300) (h0 : C b = 0) : ∃ h', cal X (d + 3) 10 [vP (some 40), vP (some p), vP (some t), vI (nI a)] (SK tx tu gu tl, h) = some (some (vI (zI (D E))), (SK tx tu gu tl, h')) ∧ smX (fun c => c = 40 ∨ c = 42) h h' := by
  have hab := hS.1
  obtain ⟨m, hm, e⟩ := hS.2 C (fun _ _ _ => rfl) E HE.2.1 [] (by simpa using hw)
  have s0 : smX (fun c => c = 40 ∨ c = 42) h (sF h 40 2 0) := smX_sF (Or.inl rfl)
  have HS0 : CSt (sF h 40 2 0) [] ((0 : Nat) : Int) := ⟨by rw [gF_sF, if_pos ⟨rfl, rfl⟩]; rfl, trivial, fun v hv => by cases hv⟩
  obtain ⟨f', h', k1, k2, k3, k4, k5, k6⟩ := rk_run X d tx tu gu tl (E := E) hp ht m a 0 999999 b [] [D E] (sF h 40 2 0) (HE.cg X tx tu gu tl s0) (HC.cg ht s0) HS0 (by omega) (by omega) (by simp) (by omega) e
  obtain ⟨f', rfl⟩ : ∃ g, f' = g + 2 := ⟨f' - 2, by omega⟩
  refine ⟨sF h' 40 2 (nI 0), ?_, (s0.tr k3).tr (smX_sF (Or.inl rfl))⟩
  rw [c_X1_reckon, e_X1_reckon_0 (hp := hp) (ht := ht)]
  refine k2.trans ?_
  have hC' := HC.cg ht (s0.tr k3)
  have e42 : gA h' 42 0 = zI (D E) := k4.2.1.1
  show m_X1_reckon X (d + 2) (f' + 1 + 1) 11 [(0, vP (some 40)), (1, vP (some p)), (2, vP (some t)), (4, vI (nI b)), (5, vI (nI (0 + m)))] [] (SK tx tu gu tl, h') = _
  rw [e_X1_reckon_11 (hp := hp) (ht := ht), litI 300, if_neg (nI_ge (by omega) (by omega)), x_codeAt X (d + 1) tx tu gu tl h' ht hC' (by omega), bI_s, e_X1_reckon_25 (hp := hp) (ht := ht), h0, if_pos (by decide), x_pop X (d + 1) tx tu gu tl h' (n := 0) k4.1 (by omega), bI_s, e42]
end RK
