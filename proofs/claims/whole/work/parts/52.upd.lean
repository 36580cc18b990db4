/-! UPDATES of both sides; what was told one by one -/
theorem if2 {p q : Prop} [Decidable p] [Decidable q] {v x y : Int32} (hpq : p ↔ q) (hxy : ¬ p → x = y) : (if p then v else x) = (if q then v else y) := by
  by_cases h : p
  · rw [if_pos h, if_pos (hpq.mp h)]
  · rw [if_neg h, if_neg (fun g => h (hpq.mpr g)), hxy h]
theorem gF_sFn {h : DT} {n k c : Nat} {v : Int32} (hc : c ≠ n) : gF (sF h n k v) c = gF h c := by
  funext b
  rw [gF_sF, if_neg (fun q => hc q.1)]
theorem gA_sAn {h : DT} {n k c : Nat} {v : Int32} (hc : c ≠ n) : gA (sA h n k v) c = gA h c := by
  funext b
  rw [gA_sA, if_neg (fun q => hc q.1)]
theorem XTold.f {h : DT} {t f a : Nat} {A : Nat → Int32} {v : Int32} (H : XTold h t A) (e : f = 0 ∧ a = 1 ∨ f = 1 ∧ a = 2 ∨ f = 2 ∧ a = 37 ∨ f = 3 ∧ a = 4 ∨ f = 4 ∧ a = 5 ∨ f = 5 ∧ a = 6) : XTold (sF h t f v) t (upd A a v) := by
  obtain ⟨t0, t1, t2, t3, t4, t5, t6, t7, t8, t9, t10, t11⟩ := H
  refine ⟨?_, ?_, ?_, ?_, ?_, ?_, fun i hi => ?_, fun i hi => ?_, fun i hi => ?_, fun i hi => ?_, fun i hi => ?_, fun i hi => ?_⟩
  · rw [gF_sF, upd_at]; exact if2 (by omega) (fun _ => t0)
  · rw [gF_sF, upd_at]; exact if2 (by omega) (fun _ => t1)
  · rw [gF_sF, upd_at]; exact if2 (by omega) (fun _ => t2)
  · rw [gF_sF, upd_at]; exact if2 (by omega) (fun _ => t3)
  · rw [gF_sF, upd_at]; exact if2 (by omega) (fun _ => t4)
  · rw [gF_sF, upd_at]; exact if2 (by omega) (fun _ => t5)
  · rw [gA_sF, upd_at, if_neg (by omega)]; exact t6 i hi
  · rw [gA_sF, upd_at, if_neg (by omega)]; exact t7 i hi
  · rw [gA_sF, upd_at, if_neg (by omega)]; exact t8 i hi
  · rw [gA_sF, upd_at, if_neg (by omega)]; exact t9 i hi
  · rw [gA_sF, upd_at, if_neg (by omega)]; exact t10 i hi
  · rw [gA_sF, upd_at, if_neg (by omega)]; exact t11 i hi
theorem XTold.a {h : DT} {t c j a : Nat} {A : Nat → Int32} {v : Int32} (H : XTold h t A) (e : c = t + 1 ∧ j < 5 ∧ a = 32 + j ∨ c = t + 2 ∧ j < 10 ∧ a = 38 + j ∨ c = t + 3 ∧ j < 6 ∧ a = 48 + 2 * j ∨ c = t + 4 ∧ j < 6 ∧ a = 49 + 2 * j ∨ c = t + 5 ∧ j < 8 ∧ a = 60 + 2 * j ∨ c = t + 6 ∧ j < 8 ∧ a = 61 + 2 * j) : XTold (sA h c j v) t (upd A a v) := by
  obtain ⟨t0, t1, t2, t3, t4, t5, t6, t7, t8, t9, t10, t11⟩ := H
  refine ⟨?_, ?_, ?_, ?_, ?_, ?_, fun i hi => ?_, fun i hi => ?_, fun i hi => ?_, fun i hi => ?_, fun i hi => ?_, fun i hi => ?_⟩
  · rw [gF_sA, upd_at, if_neg (by omega)]; exact t0
  · rw [gF_sA, upd_at, if_neg (by omega)]; exact t1
  · rw [gF_sA, upd_at, if_neg (by omega)]; exact t2
  · rw [gF_sA, upd_at, if_neg (by omega)]; exact t3
  · rw [gF_sA, upd_at, if_neg (by omega)]; exact t4
  · rw [gF_sA, upd_at, if_neg (by omega)]; exact t5
  · rw [gA_sA, upd_at]; exact if2 (by omega) (fun _ => t6 i hi)
  · rw [gA_sA, upd_at]; exact if2 (by omega) (fun _ => t7 i hi)
  · rw [gA_sA, upd_at]; exact if2 (by omega) (fun _ => t8 i hi)
  · rw [gA_sA, upd_at]; exact if2 (by omega) (fun _ => t9 i hi)
  · rw [gA_sA, upd_at]; exact if2 (by omega) (fun _ => t10 i hi)
  · rw [gA_sA, upd_at]; exact if2 (by omega) (fun _ => t11 i hi)
theorem XRow.f {h : DT} {p f a : Nat} {A : Nat → Int32} {v : Int32} (H : XRow h p A) (e : f = 0 ∧ a = 0 ∨ f = 1 ∧ a = 10 ∨ f = 2 ∧ a = 9 ∨ f = 3 ∧ a = 7 ∨ f = 4 ∧ a = 8 ∨ f = 5 ∧ a = 11) : XRow (sF h p f v) p (upd A a v) := by
  obtain ⟨t0, t1, t2, t3, t4, t5, t6, t7, t8, t9, t10⟩ := H
  refine ⟨?_, ?_, ?_, ?_, ?_, ?_, fun i hi => ?_, fun i hi => ?_, fun i hi => ?_, fun i hi => ?_, fun i hi => ?_⟩
  · rw [gF_sF, upd_at]; exact if2 (by omega) (fun _ => t0)
  · rw [gF_sF, upd_at]; exact if2 (by omega) (fun _ => t1)
  · rw [gF_sF, upd_at]; exact if2 (by omega) (fun _ => t2)
  · rw [gF_sF, upd_at]; exact if2 (by omega) (fun _ => t3)
  · rw [gF_sF, upd_at]; exact if2 (by omega) (fun _ => t4)
  · rw [gF_sF, upd_at]; exact if2 (by omega) (fun _ => t5)
  · rw [gA_sF, upd_at, if_neg (by omega)]; exact t6 i hi
  · rw [gA_sF, upd_at, if_neg (by omega)]; exact t7 i hi
  · rw [gA_sF, upd_at, if_neg (by omega)]; exact t8 i hi
  · rw [gA_sF, upd_at, if_neg (by omega)]; exact t9 i hi
  · rw [gA_sF, upd_at, if_neg (by omega)]; exact t10 i hi
theorem XRow.a {h : DT} {p c j a : Nat} {A : Nat → Int32} {v : Int32} (H : XRow h p A) (e : c = p + 1 ∧ j < 5 ∧ a = 12 + j ∨ c = p + 2 ∧ j < 5 ∧ a = 22 + j ∨ c = p + 3 ∧ j < 5 ∧ a = 27 + j ∨ c = p + 4 ∧ j < 5 ∧ a = 17 + j ∨ c = p + 5 ∧ j < 30 ∧ a = 1456 + j) : XRow (sA h c j v) p (upd A a v) := by
  obtain ⟨t0, t1, t2, t3, t4, t5, t6, t7, t8, t9, t10⟩ := H
  refine ⟨?_, ?_, ?_, ?_, ?_, ?_, fun i hi => ?_, fun i hi => ?_, fun i hi => ?_, fun i hi => ?_, fun i hi => ?_⟩
  · rw [gF_sA, upd_at, if_neg (by omega)]; exact t0
  · rw [gF_sA, upd_at, if_neg (by omega)]; exact t1
  · rw [gF_sA, upd_at, if_neg (by omega)]; exact t2
  · rw [gF_sA, upd_at, if_neg (by omega)]; exact t3
  · rw [gF_sA, upd_at, if_neg (by omega)]; exact t4
  · rw [gF_sA, upd_at, if_neg (by omega)]; exact t5
  · rw [gA_sA, upd_at]; exact if2 (by omega) (fun _ => t6 i hi)
  · rw [gA_sA, upd_at]; exact if2 (by omega) (fun _ => t7 i hi)
  · rw [gA_sA, upd_at]; exact if2 (by omega) (fun _ => t8 i hi)
  · rw [gA_sA, upd_at]; exact if2 (by omega) (fun _ => t9 i hi)
  · rw [gA_sA, upd_at]; exact if2 (by omega) (fun _ => t10 i hi)
def XA (h : DT) (A : Nat → Int32) (k : Nat) : Prop := XRow h 1 A ∧ XSteps h 7 A k ∧ XTold h 9 A
theorem XA.tf {h : DT} {A : Nat → Int32} {k f a : Nat} {v : Int32} (H : XA h A k) (e : f = 0 ∧ a = 1 ∨ f = 1 ∧ a = 2 ∨ f = 2 ∧ a = 37 ∨ f = 3 ∧ a = 4 ∨ f = 4 ∧ a = 5 ∨ f = 5 ∧ a = 6) : XA (sF h 9 f v) (upd A a v) k :=
  ⟨(H.1.cg (fun c _ _ => ⟨gF_sFn (by omega), rfl⟩)).cA (pk_un (by omega)) (fun i _ _ => pk_un (by omega)) (fun i _ _ => pk_un (by omega)), (H.2.1.cg (fun c _ _ => ⟨gF_sFn (by omega), rfl⟩)).cA (pk_un (by omega)) (fun i _ _ => pk_un (by omega)), H.2.2.f e⟩
theorem XA.ta {h : DT} {A : Nat → Int32} {k c j a : Nat} {v : Int32} (H : XA h A k) (e : c = 10 ∧ j < 5 ∧ a = 32 + j ∨ c = 11 ∧ j < 10 ∧ a = 38 + j ∨ c = 12 ∧ j < 6 ∧ a = 48 + 2 * j ∨ c = 13 ∧ j < 6 ∧ a = 49 + 2 * j ∨ c = 14 ∧ j < 8 ∧ a = 60 + 2 * j ∨ c = 15 ∧ j < 8 ∧ a = 61 + 2 * j) : XA (sA h c j v) (upd A a v) k :=
  ⟨(H.1.cg (h' := sA h c j v) (fun x _ _ => ⟨rfl, gA_sAn (by omega)⟩)).cA (pk_un (by omega)) (fun i _ _ => pk_un (by omega)) (fun i _ _ => pk_un (by omega)), (H.2.1.cg (h' := sA h c j v) (fun x _ _ => ⟨rfl, gA_sAn (by omega)⟩)).cA (pk_un (by omega)) (fun i _ _ => pk_un (by omega)), H.2.2.a (by omega)⟩
theorem XA.rf {h : DT} {A : Nat → Int32} {k f a : Nat} {v : Int32} (H : XA h A k) (e : f = 0 ∧ a = 0 ∨ f = 1 ∧ a = 10 ∨ f = 2 ∧ a = 9 ∨ f = 3 ∧ a = 7 ∨ f = 4 ∧ a = 8 ∨ f = 5 ∧ a = 11) : XA (sF h 1 f v) (upd A a v) k :=
  ⟨H.1.f e, (H.2.1.cg (fun c _ _ => ⟨gF_sFn (by omega), rfl⟩)).cA (pk_un (by omega)) (fun i _ _ => pk_un (by omega)), (H.2.2.cg (fun c _ _ => ⟨gF_sFn (by omega), rfl⟩)).cA (fun i _ => pk_un (by omega))⟩
theorem XA.ra {h : DT} {A : Nat → Int32} {k c j a : Nat} {v : Int32} (H : XA h A k) (hk : k ≤ 30) (e : c = 2 ∧ j < 5 ∧ a = 12 + j ∨ c = 3 ∧ j < 5 ∧ a = 22 + j ∨ c = 4 ∧ j < 5 ∧ a = 27 + j ∨ c = 5 ∧ j < 5 ∧ a = 17 + j ∨ c = 6 ∧ j < 30 ∧ a = 1456 + j) : XA (sA h c j v) (upd A a v) k :=
  ⟨H.1.a (by omega), (H.2.1.cg (h' := sA h c j v) (fun x _ _ => ⟨rfl, gA_sAn (by omega)⟩)).cA (pk_un (by omega)) (fun i _ _ => pk_un (by omega)), (H.2.2.cg (h' := sA h c j v) (fun x _ _ => ⟨rfl, gA_sAn (by omega)⟩)).cA (fun i _ => pk_un (by omega))⟩
theorem sc {k f : Nat} (h : k < f) : ∃ g, f = g + 1 := ⟨f - 1, by omega⟩
theorem RA.p {h : DT} {A : Nat → Int32} {n t k : Nat} (H : RA h A n t k) : A 0 = nI n ∧ n ≤ 5 ∧ gF h 1 0 = nI n := ⟨H.1.1.1, H.1.1.2.1, H.2.1.1.trans H.1.1.1⟩
theorem RA.sl {h : DT} {A : Nat → Int32} {n t k i : Nat} (H : RA h A n t k) (hi : i < 5) : gA h 2 i = A (12 + i) := H.2.1.2.2.2.2.2.2.1 i hi
theorem RA.we {h : DT} {A : Nat → Int32} {n t k i : Nat} (H : RA h A n t k) (hi : i < 5) : gA h 3 i = A (22 + i) := H.2.1.2.2.2.2.2.2.2.1 i hi
theorem RA.si {h : DT} {A : Nat → Int32} {n t k i : Nat} (H : RA h A n t k) (hi : i < 5) : gA h 5 i = A (17 + i) := H.2.1.2.2.2.2.2.2.2.2.2.1 i hi
theorem RA.bo {h : DT} {A : Nat → Int32} {n t k i : Nat} (H : RA h A n t k) (hi : i < 30) : gA h 6 i = A (1456 + i) := H.2.1.2.2.2.2.2.2.2.2.2.2 i hi
theorem RA.s9 {h : DT} {A : Nat → Int32} {n t k i : Nat} (H : RA h A n t k) (hi : i < 5) : stp9 (A (12 + i)) := H.1.2.2.2.1.2.2.2.2.2.2.1 i hi
theorem RA.at {h : DT} {A : Nat → Int32} {n t k s : Nat} (H : RA h A n t k) (hs : s < n) : ∃ p, p < n ∧ A (17 + s) = nI p := H.1.2.2.2.1.2.2.2.2.2.2.2.2.1 s hs
theorem RA.bk {h : DT} {A : Nat → Int32} {n t k : Nat} (H : RA h A n t k) : ∃ b, b ≤ 30 ∧ A 11 = nI b ∧ gF h 1 5 = nI b := by
  obtain ⟨b, hb, e⟩ := H.1.2.2.2.1.2.2.2.2.2.1
  exact ⟨b, hb, e, H.2.1.2.2.2.2.2.1.trans e⟩
theorem RA.k30 {h : DT} {A : Nat → Int32} {n t k : Nat} (H : RA h A n t k) : k ≤ 30 := H.1.2.2.1.2.1
theorem bt_set : ∀ b, b < 32 → ∀ j, j < 5 → ∃ c, c < 32 ∧ nI b ||| ((1 : Int32) <<< (nI j &&& 31)) = nI c := by decide +kernel
theorem bt_clr : ∀ b, b < 32 → ∀ j, j < 5 → ∃ c, c < 32 ∧ nI b &&& (((1 : Int32) <<< (nI j &&& 31)) ^^^ (-1)) = nI c := by decide +kernel
theorem bt_xor : ∀ b, b < 32 → ∀ j, j < 5 → ∃ c, c < 32 ∧ nI b ^^^ ((1 : Int32) <<< (nI j &&& 31)) = nI c := by decide +kernel
/-- what holds of the numbers stays, where one told number changes -/
theorem Inv.to {A : Nat → Int32} {n t k i0 : Nat} {v : Int32} (H : Inv A n t k) (hi : 32 ≤ i0 ∧ i0 ≤ 37) (h1 : i0 < 37 → stp9 v) (h2 : i0 = 37 → ∃ b, b < 32 ∧ v = nI b) : Inv (upd A i0 v) n t k := by
  obtain ⟨⟨p0, p1, p2, p3, p4, p5⟩, ht, hs, hr, ⟨w, hw⟩, ⟨q, hq⟩, ⟨s, hsd⟩⟩ := H
  refine ⟨⟨?_, p1, fun i hi => ?_, fun i hi => ?_, fun i hi => ?_, ?_⟩, ht.cg (pk_un (by omega)) (pk_un (by omega)), hs.cg (Nat.le_refl _) (pk_un (by omega)) (fun i _ _ => pk_un (by omega)), hr.cg (fun i _ => pk_un (by omega)), ⟨w, hw.cg (pk_un (by omega)) (fun i _ _ => pk_un (by omega))⟩, ⟨q, hq.cg (Nat.le_refl _) (pk_un (by omega)) (fun i _ _ => pk_un (by omega))⟩, ⟨s, hsd.cg (Nat.le_refl _) (pk_un (by omega)) (fun i _ _ => pk_un (by omega))⟩⟩
  · rw [pk_un (by omega)]; exact p0
  · rw [pk_un (by omega)]; exact p2 i hi
  · rw [pk_un (by omega)]; exact p3 i hi
  · by_cases e : 32 + i = i0
    · rw [← e, pk_us]; exact h1 (by omega)
    · rw [pk_un e]; exact p4 i hi
  · by_cases e : 37 = i0
    · rw [← e, pk_us]; exact h2 e.symm
    · rw [pk_un e]; exact p5
theorem Inv.tx {A : Nat → Int32} {n t k : Nat} {v : Int32} (H : Inv A n t k) (hv : v = -1 ∨ ∃ r, r < t ∧ v = nI r) : Inv (upd A 2 v) n t k := by
  obtain ⟨hp, ⟨ht0, ht1, ht2⟩, hs, hr, ⟨w, hw⟩, ⟨q, hq⟩, ⟨s, hsd⟩⟩ := H
  exact ⟨hp.cg (pk_un (by omega)) (fun i _ _ => pk_un (by omega)), ⟨by rw [pk_un (by omega)]; exact ht0, ht1, by rw [pk_us]; exact hv⟩, hs.cg (Nat.le_refl _) (pk_un (by omega)) (fun i _ _ => pk_un (by omega)), hr.cg (fun i _ => pk_un (by omega)), ⟨w, hw.cg (pk_un (by omega)) (fun i _ _ => pk_un (by omega))⟩, ⟨q, hq.cg (Nat.le_refl _) (pk_un (by omega)) (fun i _ _ => pk_un (by omega))⟩, ⟨s, hsd.cg (Nat.le_refl _) (pk_un (by omega)) (fun i _ _ => pk_un (by omega))⟩⟩
/-- words, heard and said are replaced -/
theorem Inv.wr {A B : Nat → Int32} {n t k : Nat} (H : Inv A n t k) (e : ∀ i, ¬ (4 ≤ i ∧ i ≤ 6) → ¬ (38 ≤ i ∧ i < 76) → B i = A i) (hw : ∃ w, WrdOk B w) (hq : ∃ q, HrdOk B n q) (hs : ∃ s, SadOk B n s) : Inv B n t k :=
  ⟨H.1.cg (e _ (by omega) (by omega)) (fun i _ _ => e _ (by omega) (by omega)), H.2.1.cg (e _ (by omega) (by omega)) (e _ (by omega) (by omega)), H.2.2.1.cg (Nat.le_refl _) (e _ (by omega) (by omega)) (fun i _ _ => e _ (by omega) (by omega)), H.2.2.2.1.cg (fun i _ => e _ (by omega) (by omega)), hw, hq, hs⟩
theorem in_nI1 {v : Int32} {m : Nat} (h0 : 1 ≤ v) (h1 : v ≤ nI m) (hm : m < 2147483648) : ∃ j, 1 ≤ j ∧ j ≤ m ∧ v = nI j := by
  rw [i32le, i1t] at h0
  have h0' : (0 : Int32) ≤ v := by rw [i32le, i0t]; omega
  obtain ⟨j, hj, rfl⟩ := in_nI h0' h1 hm
  rw [nIt (by omega)] at h0
  exact ⟨j, by omega, hj, rfl⟩
theorem in_z {v : Int32} {lo hi : Int} (h1 : zI lo ≤ v) (h2 : v ≤ zI hi) (hl : -2147483648 ≤ lo) (hl' : lo < 2147483648) (hh : -2147483648 ≤ hi) (hh' : hi < 2147483648) : ∃ z : Int, lo ≤ z ∧ z ≤ hi ∧ v = zI z := by
  rw [i32le, zI_toInt hl hl'] at h1
  rw [i32le, zI_toInt hh hh'] at h2
  exact ⟨v.toInt, h1, h2, (zI_to v).symm⟩
section TL
variable (X : XS) (tx tu gu : Option Nat) (tl : List SC) (h : DT)
theorem op_rack {n t k : Nat} (H : RA h (gA h 73) n t k) (x1 x2 : Int32) : OpA X tx tu gu tl h n t k 100 [vP (some 0), vI x1, vI x2] 174 [vP (some 72), vI x1, vI x2] := by
  by_cases hv : (0 ≤ x1 ∧ x1 ≤ 4)
  · by_cases hw : (-9 ≤ x2 ∧ x2 ≤ 9)
    · have hd1 := in_dec hv
      have hd2 := in_dec hw
      obtain ⟨j, hj, rfl⟩ := in_nI (m := 4) hv.1 hv.2 (by omega)
      obtain ⟨hI, hX⟩ := H
      refine OpA_w (h1 := sA h 10 j x2) (v := vI 1) (B := upd (gA h 73) (32 + j) x2) ?_ (smX_sA (by unfold isXa; omega)) ?_ ⟨Inv.to hI (by omega) (fun _ => hw) (by omega), XA.ta hX (by omega)⟩
      · simp only [c_X10_rack, e_X10_rack_0, x_within, hd1, bz_t, bI_s, if_neg one0, x_isSlant, hd2, e_X10_rack_13]
        rw [inbI (by omega) (by omega)]
      · simp only [c_X11_rack, e_X11_rack_0, k_isSeat, hd1, bz_t, bI_s, if_neg one0, k_isSteep, hd2, e_X11_rack_11]
        rw [litI 32, addI, inbI (by omega) (by omega), sA_w]
        rfl
    · have hd1 := in_dec hv
      have hd2 := in_decf hw
      refine OpA_id (v := vI 0) H ?_ ?_
      · simp only [c_X10_rack, e_X10_rack_0, x_within, hd1, bz_t, bz_f, bI_s, if_neg one0, x_isSlant, hd2, e_X10_rack_13, if_true]
      · simp only [c_X11_rack, e_X11_rack_0, k_isSeat, hd1, bz_t, bz_f, bI_s, if_neg one0, k_isSteep, hd2, e_X11_rack_11, if_true]
  · have hd1 := in_decf hv
    refine OpA_id (v := vI 0) H ?_ ?_
    · simp only [c_X10_rack, e_X10_rack_0, x_within, hd1, bz_t, bz_f, bI_s, if_true]
    · simp only [c_X11_rack, e_X11_rack_0, k_isSeat, hd1, bz_t, bz_f, bI_s, if_true]
theorem x_withBit (d : Nat) (q x y : Int32) : cal X (d + 1) 149 [vI q, vI x, vI y] (SK tx tu gu tl, h) = some (some (vI (if y = 0 then q &&& ((1 <<< (x &&& 31)) ^^^ (-1)) else q ||| (1 <<< (x &&& 31)))), (SK tx tu gu tl, h)) := by
  rw [c_X10_withBit, e_X10_withBit_0]
  by_cases h0 : y = 0
  · rw [if_pos h0, if_pos h0]
  · rw [if_neg h0, if_neg h0]
theorem x_bar_t (q x y : Int32) (eq : gF h 9 2 = q) (hd : (decide (0 ≤ x) && decide (x ≤ 4)) = true) : cal X 100 131 [vP (some 0), vI x, vI y] (SK tx tu gu tl, h) = some (some (vI (1)), (SK tx tu gu tl, sF h 9 2 (if y = 0 then q &&& ((1 <<< (x &&& 31)) ^^^ (-1)) else q ||| (1 <<< (x &&& 31))))) := by
  rw [c_X10_bar, e_X10_bar_0, x_within, hd, bz_t, bI_s, e_X10_bar_6, if_neg one0, x_withBit, bI_s, e_X10_bar_27, eq]
theorem k_bar_t (q x y : Int32) (eq : gA h 73 37 = q) (hd : (decide (0 ≤ x) && decide (x ≤ 4)) = true) : cal X 100 175 [vP (some 72), vI x, vI y] (SK tx tu gu tl, h) = some (some (vI (1)), (SK tx tu gu tl, wA h 73 (upd (gA h 73) 37 (if y = 0 then q &&& ((1 <<< (x &&& 31)) ^^^ (-1)) else q ||| (1 <<< (x &&& 31)))))) := by
  rw [c_X11_bar, e_X11_bar_0, k_isSeat, hd, bz_t, bI_s, e_X11_bar_4, if_neg one0]
  by_cases h0 : y = 0
  · rw [if_pos h0, if_pos h0, sA_w, eq]
  · rw [if_neg h0, if_neg h0, sA_w, eq]
theorem op_bar {n t k : Nat} (H : RA h (gA h 73) n t k) (x1 x2 : Int32) : OpA X tx tu gu tl h n t k 131 [vP (some 0), vI x1, vI x2] 175 [vP (some 72), vI x1, vI x2] := by
  by_cases hv : (0 ≤ x1 ∧ x1 ≤ 4)
  · have hd1 := in_dec hv
    obtain ⟨j, hj, rfl⟩ := in_nI (m := 4) hv.1 hv.2 (by omega)
    obtain ⟨hI, hX⟩ := H
    obtain ⟨b, hb, eb⟩ := hI.1.2.2.2.2.2
    have xb : gF h 9 2 = nI b := hX.2.2.2.2.1.trans eb
    obtain ⟨c, hc, ec⟩ : ∃ c, c < 32 ∧ (if x2 = 0 then nI b &&& ((1 <<< (nI j &&& 31)) ^^^ (-1)) else nI b ||| (1 <<< (nI j &&& 31))) = nI c := by
      by_cases h0 : x2 = 0
      · rw [if_pos h0]; exact bt_clr b hb j (by omega)
      · rw [if_neg h0]; exact bt_set b hb j (by omega)
    have e1 := x_bar_t X tx tu gu tl h (nI b) (nI j) x2 xb hd1
    rw [ec] at e1
    have e2 := k_bar_t X tx tu gu tl (sF h 9 2 (nI c)) (nI b) (nI j) x2 eb hd1
    rw [ec] at e2
    exact OpA_w e1 (smX_sF (by unfold isXa; omega)) e2 ⟨Inv.to hI (by omega) (fun q => absurd q (by omega)) (fun _ => ⟨c, hc, rfl⟩), XA.tf hX (by omega)⟩
  · have hd1 := in_decf hv
    refine OpA_id (v := vI 0) H ?_ ?_
    · rw [c_X10_bar, e_X10_bar_0, x_within, hd1, bz_f, bI_s, e_X10_bar_6, if_pos rfl]
    · rw [c_X11_bar, e_X11_bar_0, k_isSeat, hd1, bz_f, bI_s, e_X11_bar_4, if_pos rfl]
theorem x_isText (d : Nat) (x : Int32) : cal X (d + 2) 150 [vP (some 0), vI x] (SK tx tu gu tl, h) = some (some (vI (bzB (decide (0 ≤ x) && decide (x ≤ gF h 9 0 - 1)))), (SK tx tu gu tl, h)) := by
  rw [c_X10_isText, e_X10_isText_0, x_within, bI_s, if_pos (bz01 _)]
theorem op_by {n t k : Nat} (H : RA h (gA h 73) n t k) (x1 : Int32) : OpA X tx tu gu tl h n t k 105 [vP (some 0), vI x1] 216 [vP (some 72), vI x1] := by
  obtain ⟨hI, hX⟩ := id H
  obtain ⟨et, ht4, -⟩ := hI.2.1
  have xt : gF h 9 0 = nI t := hX.2.2.1.trans et
  have yes : (x1 = -1 ∨ ∃ r, r < t ∧ x1 = nI r) → cal X 100 105 [vP (some 0), vI x1] (SK tx tu gu tl, h) = some (some (vI (1)), (SK tx tu gu tl, sF h 9 1 x1)) → OpA X tx tu gu tl h n t k 105 [vP (some 0), vI x1] 216 [vP (some 72), vI x1] := fun hv e1 => by
    have hd : (decide ((-1 : Int32) ≤ x1) && decide (x1 ≤ gA h 73 1 - 1)) = true := by
      refine in_dec ?_
      rw [et]
      rcases hv with rfl | ⟨r, hr, rfl⟩
      · refine ⟨by decide, ?_⟩
        rw [i32le, nIm1 (by omega), im1t]
        omega
      · rw [i32le, i32le, nIm1 (by omega), im1t, nIt (by omega)]
        omega
    refine OpA_w (h1 := sF h 9 1 x1) (v := vI 1) (B := upd (gA h 73) 2 x1) e1 (smX_sF (by unfold isXa; omega)) ?_ ⟨Inv.tx hI hv, XA.tf hX (by omega)⟩
    simp only [c_X11_by, e_X11_by_0, gA_sF, k_isIn, hd, bz_t, bI_s, e_X11_by_13, if_neg one0]
    rw [sA_w]
    rfl
  by_cases h1 : x1 = -1
  · exact yes (Or.inl h1) (by rw [c_X10_by, e_X10_by_0, if_pos h1])
  · rcases per_cs x1 (n := t) (by omega) with ⟨r, hr, rfl⟩ | hx
    · refine yes (Or.inr ⟨r, hr, rfl⟩) ?_
      have hd := per_t (n := t) (j := r) (by omega) hr
      simp only [c_X10_by, e_X10_by_0, if_neg h1, x_isText, xt, hd, bz_t, bI_s, e_X10_by_10, if_neg one0]
    · have hd := per_f (n := t) (by omega) hx
      have hd2 : (decide ((-1 : Int32) ≤ x1) && decide (x1 ≤ nI t - 1)) = false := by
        refine in_decf fun ⟨q1, q2⟩ => ?_
        rw [i32le, im1t] at q1
        rw [i32le, nIm1 (by omega)] at q2
        rcases hx with g | g
        · rw [i32lt, i0t] at g
          exact h1 (i32eq.mpr (by rw [im1t]; omega))
        · rw [i32le, nIt (by omega)] at g
          omega
      refine OpA_id (v := vI 0) H ?_ ?_
      · simp only [c_X10_by, e_X10_by_0, if_neg h1, x_isText, xt, hd, bz_f, bI_s, e_X10_by_10, if_true]
      · simp only [c_X11_by, e_X11_by_0, k_isIn, et, hd2, bz_f, bI_s, e_X11_by_13, if_true]
theorem op_word {n t k : Nat} (H : RA h (gA h 73) n t k) (x1 : Int32) : OpA X tx tu gu tl h n t k 124 [vP (some 0), vI x1] 271 [vP (some 72), vI x1] := by
  obtain ⟨hI, hX⟩ := id H
  obtain ⟨w, ew, hw, hw2⟩ := hI.2.2.2.2.1
  have xw : gF h 9 3 = nI w := hX.2.2.2.2.2.1.trans ew
  by_cases h1 : x1 = -1
  · refine OpA_w (h1 := sF h 9 3 0) (v := vI 0) (B := upd (gA h 73) 4 0) (by rw [c_X10_word, e_X10_word_0, if_pos h1]) (smX_sF (by unfold isXa; omega)) ?_ ⟨hI.wr (fun i _ _ => pk_un (by omega)) ⟨0, by rw [pk_us]; rfl, by omega, fun i hi => by omega⟩ (hI.2.2.2.2.2.1.imp fun q hq => hq.cg (Nat.le_refl _) (pk_un (by omega)) (fun i _ _ => pk_un (by omega))) (hI.2.2.2.2.2.2.imp fun q hq => hq.cg (Nat.le_refl _) (pk_un (by omega)) (fun i _ _ => pk_un (by omega))), XA.tf hX (by omega)⟩
    rw [c_X11_word, e_X11_word_0, if_pos h1, sA_w]
    rfl
  · by_cases hv : 1 ≤ x1 ∧ x1 ≤ 20
    · have hd := in_dec hv
      by_cases h10 : w = 10
      · subst h10
        refine OpA_id (v := vI (-2)) H ?_ ?_
        · simp only [c_X10_word, e_X10_word_0, if_neg h1, x_within, hd, bz_t, bI_s, e_X10_word_22, if_neg one0]
          rw [xw, if_neg (by decide)]
        · simp only [c_X11_word, e_X11_word_0, if_neg h1, k_isIn, hd, bz_t, bI_s, e_X11_word_21, if_neg one0]
          rw [ew, if_pos (by decide)]
      · obtain ⟨z, hz1, hz2, rfl⟩ := in_nI1 (m := 20) hv.1 hv.2 (by omega)
        refine OpA_w (h1 := sF (sA h 11 w (nI z)) 9 3 (nI (w + 1))) (v := vI (nI (w + 1))) (B := upd (upd (gA h 73) (38 + w) (nI z)) 4 (nI (w + 1))) ?_ ((smX_sA (by unfold isXa; omega)).tr (smX_sF (by unfold isXa; omega))) ?_ ⟨hI.wr (fun i _ _ => by rw [pk_un (by omega), pk_un (by omega)]) ⟨w + 1, by rw [pk_us], by omega, fun i hi => ?_⟩ (hI.2.2.2.2.2.1.imp fun q hq => hq.cg (Nat.le_refl _) (by rw [pk_un (by omega), pk_un (by omega)]) (fun i _ _ => by rw [pk_un (by omega), pk_un (by omega)])) (hI.2.2.2.2.2.2.imp fun q hq => hq.cg (Nat.le_refl _) (by rw [pk_un (by omega), pk_un (by omega)]) (fun i _ _ => by rw [pk_un (by omega), pk_un (by omega)])), XA.tf (XA.ta hX (by omega)) (by omega)⟩
        · simp only [c_X10_word, e_X10_word_0, if_neg h1, x_within, hd, bz_t, bI_s, e_X10_word_22, if_neg one0]
          rw [xw, if_pos (by rw [litI 10, ltI (by omega) (by omega)]; omega), inbI (by omega) (by omega), nI_1]
        · have kw : ∀ h' : DT, gA h' 73 = gA h 73 → cal X 100 271 [vP (some 72), vI (nI z)] (SK tx tu gu tl, h') = some (some (vI (nI (w + 1))), (SK tx tu gu tl, wA h' 73 (upd (upd (gA h 73) (38 + w) (nI z)) 4 (nI (w + 1))))) := fun h' e' => by
            simp only [c_X11_word, e_X11_word_0, if_neg h1, k_isIn, hd, bz_t, bI_s, e_X11_word_21, if_neg one0]
            rw [e', ew, if_neg (by rw [litI 10, eqI (by omega) (by omega)]; omega), litI 38, addI, inbI (by omega) (by omega)]
            simp only [sA_w, gA_wA', wA_wA]
            rw [e', pk_un (by omega), ew, nI_1]
          exact kw _ (by rw [show gA (sF (sA h 11 w (nI z)) 9 3 (nI (w + 1))) 73 = gA (sA h 11 w (nI z)) 73 from rfl, gA_sAn (by omega)])
        · by_cases e : i = w
          · subst e
            exact ⟨z, hz1, hz2, by rw [pk_un (by omega), pk_us]⟩
          · rw [pk_un (by omega), pk_un (by omega)]
            exact hw2 i (by omega)
    · have hd := in_decf hv
      refine OpA_id (v := vI (-2)) H ?_ ?_
      · simp only [c_X10_word, e_X10_word_0, if_neg h1, x_within, hd, bz_f, bI_s, e_X10_word_22, if_true]
      · simp only [c_X11_word, e_X11_word_0, if_neg h1, k_isIn, hd, bz_f, bI_s, e_X11_word_21, if_true]
end TL
