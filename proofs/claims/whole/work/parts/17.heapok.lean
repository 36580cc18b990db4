theorem szN_set {H : HP} {n : Nat} {c c' : SC} (hn : H.1[n]? = some c) (hs : szC c' = szC c) (h' : DT) : (putL H.1 n c', h').1.length = H.1.length ∧ tot (putL H.1 n c', h').1 = tot H.1 := by
  simp only [putL_eq]
  exact ⟨by simp, tot_set hn hs⟩
/-- how large the heap is -/
theorem W_sz {T : TT} {own n : Nat} {isI : Bool} {cc : ByteArray} {B N0 : Nat} {D : va_G} {kc : Nat → ClassId} {E V : Nat → Nat} {X : XS} (C : Cx T own n isI cc B N0 D kc E V X) {H : HP} {Hm : Heap} {locs : List Loc} {cells slots pc : Nat} {Q : State → Prop} {ls : Array Slot} {st : List Value} (hP : va_P D CLS (wsO kc B H) Hm) (hS : va_S (fun q => B ≤ q) T.2.2.2.2.1.heap Hm locs) (hc : H.1.length = N0 + cells)
    (w : Hm.size = B + H.1.length → WC T Hm locs cells slots Q pc ls st) : WC T Hm locs cells slots Q pc ls st := by
  intro t ht X'
  have h1 := X'.heapSize
  rw [ht, C.2.2.2.2.2.2.2.2.1] at h1
  have h2 : B + H.1.length ≤ Hm.size := by
    cases hl : H.1.length with
    | zero =>
      have := hS.1
      rw [C.2.2.2.2.2.2.2.2.1] at this
      omega
    | succ k =>
      have hk : H.1[k]? = some (H.1[k]'(by omega)) := List.getElem?_eq_getElem _
      have := (hP k _ (wsO_at hk)).lt
      simp only at this
      omega
  exact w (by omega) t ht X'
/-- a new cell lies behind the others -/
theorem W_q {T : TT} {own n : Nat} {isI : Bool} {cc : ByteArray} {B N0 : Nat} {D : va_G} {kc : Nat → ClassId} {E V : Nat → Nat} {X : XS} (C : Cx T own n isI cc B N0 D kc E V X) {H : HP} {Hm : Heap} {locs : List Loc} {cells slots pc q : Nat} {e : va_E} {Q : State → Prop} {ls : Array Slot} {st : List Value} (hP : va_P D CLS (wsO kc B H ++ [(q, e)]) Hm) (hD : va_D (fun q => B ≤ q) (wsO kc B H ++ [(q, e)])) (hc : H.1.length = N0 + cells)
    (w : q = B + H.1.length → WC T Hm locs (cells + 1) slots Q pc ls st) : WC T Hm locs (cells + 1) slots Q pc ls st := by
  intro t ht X'
  have h1 := X'.heapSize
  rw [ht, C.2.2.2.2.2.2.2.2.1] at h1
  have hl : (wsO kc B H ++ [(q, e)])[H.1.length]? = some (q, e) := by
    rw [List.getElem?_append_right (by rw [wsO_len]; exact Nat.le_refl _), wsO_len]
    simp
  have h2 := (hP _ _ hl).lt
  have h3 := hD.2 _ _ hl
  simp only at h2 h3
  have h4 : ¬ q < B + H.1.length := by
    intro hq
    have hk : H.1[q - B]? = some (H.1[q - B]'(by omega)) := List.getElem?_eq_getElem _
    have h5 := wsO_at (kc := kc) (B := B) hk
    have h6 : (wsO kc B H ++ [(q, e)])[q - B]? = some (B + (q - B), ce kc B H.2 (q - B) (H.1[q - B]'(by omega))) := by
      rw [List.getElem?_append_left (by rw [wsO_len]; omega)]
      exact h5
    have := hD.1 _ _ _ _ h6 hl (by show B + (q - B) = q; omega)
    omega
  exact w (by omega) t ht X'
theorem n32 {x : Int32} (h : ¬ (x < 0 ∨ 200000 < x)) : ¬ x < 0 ∧ x.toNatClampNeg ≤ 200000 := by
  have h1 : ¬ x < 0 := fun q => h (Or.inl q)
  have h2 : ¬ (200000 : Int32) < x := fun q => h (Or.inr q)
  refine ⟨h1, ?_⟩
  rw [Int32.lt_iff_toInt_lt] at h2
  have h3 : (200000 : Int32).toInt = 200000 := by decide
  rw [h3] at h2
  show x.toInt.toNat ≤ 200000
  omega
theorem zF_fs {B c n : Nat} {h : DT} (h12 : c < 12) : ∀ j, j < NN c → defaultValue (tyN c j) = vp_V (fsv B c (List.replicate (NN c) none) (zF h n) n) j := by
  intro j hj
  have e : vp_V (fsv B c (List.replicate (NN c) none) (zF h n) n) j = fv B c (List.replicate (NN c) none) (zF h n) n j := by
    rw [vp_V, List.getD_eq_getElem?_getD, fsv_at hj]
    rfl
  rw [e]
  have h4 := KD_lt h12 hj
  rcases (show KD c j = 0 ∨ KD c j = 1 ∨ KD c j = 2 ∨ KD c j = 3 by omega) with hk | hk | hk | hk
  · rw [tyK0 h12 hj hk]
    simp [fv, hk, gF, zF, up1, defaultValue]
  · rw [tyK1 h12 hj hk]
    simp [fv, hk, gG, zF, up1, defaultValue]
  · have : (List.replicate (NN c) (none : Option Nat)).getD j none = none := by
      simp only [List.getD_eq_getElem?_getD, List.getElem?_replicate]
      split <;> rfl
    rcases tyK2 h12 hj hk with ⟨t, ht⟩ | ⟨t, ht⟩ <;> rw [ht] <;> simp only [fv, hk, this] <;> rfl
  · rw [tyK3 h12 hj hk]
    simp [fv, hk, gF, zF, up1, defaultValue]
theorem zA_i (kc : Nat → ClassId) (B : Nat) (h : DT) (n m : Nat) : ce kc B (zA h n) n (.inr (.inl (0, m))) = .inl (kc 0, m, .inl (fun _ => 0)) := by
  simp only [ce]
  congr 4
  funext b
  simp [gA, zA, up1]
theorem zA_z (kc : Nat → ClassId) (B : Nat) (h : DT) (n m : Nat) : ce kc B (zA h n) n (.inr (.inl (1, m))) = .inl (kc 1, m, .inl (fun _ => 0)) := by
  simp only [ce]
  congr 4
  funext b
  simp [gA, zA, up1]
theorem zA_l (kc : Nat → ClassId) (B : Nat) (h : DT) (n m : Nat) : ce kc B (zA h n) n (.inr (.inl (2, m))) = .inl (kc 2, m, .inr (.inl (fun _ => 0))) := by
  simp only [ce]
  congr 5
  funext b
  simp [gB, zA, up1]
theorem zR_r (kc : Nat → ClassId) (B : Nat) (h : DT) (n m : Nat) : ce kc B h n (.inr (.inr (List.replicate m none))) = .inl (kc 3, m, .inr (.inr (.inr (.inr (fun _ => none))))) := by
  simp only [ce, List.length_replicate]
  congr 7
  funext b
  simp only [List.getD_eq_getElem?_getD, List.getElem?_replicate, rfB]
  split <;> rfl
theorem tot1 (l : List SC) (c : SC) : (l ++ [c]).length = l.length + 1 ∧ tot (l ++ [c]) = tot l + szC c := by
  simp [tot_app, tot]
set_option maxHeartbeats 8000000 in
theorem opH_ok {T : TT} {own n : Nat} {isI : Bool} {cc : ByteArray} {B N0 : Nat} {D : va_G} {kc : Nat → ClassId} {E V : Nat → Nat} {X : XS} (C : Cx T own n isI cc B N0 D kc E V X) {pc : Nat} {i : Instr} {len : Nat} {ax : List Nat} {cI : Int32} {cL : Int64} (hd : decode cc pc = .ok (i, len)) (hk : len = lenF i len ∧ axOk own isI pc i ax cI cL = true) {S : ST} {H : HP} {k : ST → HP → RR} {x : Option AV × HP} (h : opH X i ax S H k = some x) :
    ∃ S' H', k S' H' = some x ∧ HOk T B N0 D kc E pc len S H S' H' := by
  obtain ⟨hx, hb, hml, hown, hts, hlk, hini, hcw, hsz, hfr, hlo⟩ := id C
  obtain ⟨hK, hZ, hT, hsr, hrr, hcs, hio, hX, hXb, hBs, hNw, hAO⟩ := id hcw
  have hA : ∀ q : Nat, T.2.2.2.2.1.heap.size ≤ q → B ≤ q := fun q hq => by omega
  cases i with
  | getfield ix =>
    obtain rfl : len = 3 := by simpa [lenF] using hk.1
    match ax, h, hk.2 with
    | [], h, h2 => exact absurd h (by simp [opH])
    | [_], h, h2 => exact absurd h (by simp [opH])
    | [_, _], h, h2 => exact absurd h (by simp [opH])
    | ci :: j :: kd :: _ :: _, h, h2 => exact absurd h2 (by simp [axOk])
    | [ci, j, kd], h, h2 =>
      simp only [axOk, Bool.and_eq_true, Nat.beq_eq] at h2
      obtain ⟨hkd, hfl⟩ := h2
      obtain ⟨hw, h12, hj, hre⟩ := fl_use hfl
      simp only [opH] at h
      obtain ⟨a, S1, rfl, h1⟩ := tN_inv h
      obtain ⟨r, hr, h3⟩ := oneC_inv h1
      have row : ∀ v : AV, cv E B v = fv B ci r H.2 a j → HOk T B N0 D kc E pc 3 (vP (some a) :: S1) H (v :: S1) H := fun v hv => HOk.read fun Hm locs cells slots Q ls hP hS w => by
        refine va_get (own := RN own) (ref := RN ci) (T := TN ci) (N := NN ci) hx hb hts (inN h12) hown hK hP a (wsO_at hr) (clsN h12) j hj (hts _ hw) (fun y hy => by rw [hre] at hy; exact hy) (fsv_at hj) hd ?_
        rw [← hv]
        exact w
      match kd, hkd, h3 with
      | 0, hkd, h3 => exact ⟨_, _, h3, row _ (by simp [fv, ← hkd, cv])⟩
      | 1, hkd, h3 => exact ⟨_, _, h3, row _ (by simp [fv, ← hkd, cv])⟩
      | 2, hkd, h3 => exact ⟨_, _, h3, row _ (by rw [cv_P]; simp [fv, ← hkd])⟩
      | kd + 3, hkd, h3 => exact ⟨_, _, h3, row _ (by simp [fv, ← hkd, cv])⟩
  | putfield ix =>
    obtain rfl : len = 3 := by simpa [lenF] using hk.1
    match ax, h, hk.2 with
    | [], h, h2 => exact absurd h (by simp [opH])
    | [_], h, h2 => exact absurd h (by simp [opH])
    | [_, _], h, h2 => exact absurd h (by simp [opH])
    | ci :: j :: kd :: _ :: _, h, h2 => exact absurd h2 (by simp [axOk])
    | [ci, j, kd], h, h2 =>
      simp only [axOk, Bool.and_eq_true, Nat.beq_eq] at h2
      obtain ⟨⟨hkd, hfl⟩, hfin⟩ := h2
      obtain ⟨hw, h12, hj, hre⟩ := fl_use hfl
      have row : ∀ (a : Nat) (r : List (Option Nat)) (v : AV) (S1 : ST) (H' : HP), H.1[a]? = some (.inl (ci, r)) → narrow (tyN ci j) (cv E B v) = cv E B v → fits (tyN ci j) (cv E B v) = true → (H'.1.length = H.1.length ∧ tot H'.1 = tot H.1) → wsO kc B H' = (wsO kc B H).set a (B + a, .inr (ci, (fsv B ci r H.2 a).set j (cv E B v))) → HOk T B N0 D kc E pc 3 (v :: vP (some a) :: S1) H S1 H' := by
        intro a r v S1 H' hr hn hf hl hws
        refine HOk.write hl.1 hl.2 fun Hm locs cells slots Q ls hP hS _ w => ?_
        have hjl : j < (fsv B ci r H.2 a).length := by rw [fsv_len]; exact hj
        cases hfb : (TN ci j).2.2.2 with
        | false =>
          refine va_put (own := RN own) (ref := RN ci) (T := TN ci) (N := NN ci) hx hb hts (inN h12) (tyN ci) (tyN_ok h12) (nmN h12) hown hK hP (wsO_D kc B H) hS a (wsO_at hr) (clsN h12) j hj (hts _ hw) (fun y hy => by rw [hre] at hy; exact hy) hfb (tyN_ok h12 j hj) hn hf hjl hd fun H1 l1 hP1 _ hS1 => w H1 l1 (by rw [hws]; exact hP1) hS1
        | true =>
          rw [hfb] at hfin
          simp only [Bool.not_true, Bool.false_or, Bool.and_eq_true, Nat.beq_eq] at hfin
          refine va_putF (own := RN own) (ref := RN ci) (T := TN ci) (N := NN ci) hx hb hts (inN h12) (tyN ci) (tyN_ok h12) (nmN h12) hown hK hP (wsO_D kc B H) hS a (wsO_at hr) (clsN h12) j hj (hts _ hw) (fun y hy => by rw [hre] at hy; exact hy) hfb (hini hfin.1) (by rw [hre, hfin.2]) (tyN_ok h12 j hj) hn hf hjl hd fun H1 l1 hP1 _ hS1 => w H1 l1 (by rw [hws]; exact hP1) hS1
      simp only [opH] at h
      match kd, hkd, h with
      | 0, hkd, h =>
        obtain ⟨v, S1, rfl, h1⟩ := tI_inv h
        obtain ⟨a, S2, rfl, h3⟩ := tN_inv h1
        obtain ⟨r, hr, h4⟩ := oneC_inv h3
        refine ⟨_, _, h4, row a r (vI v) S2 _ hr (by rw [tyK0 h12 hj hkd.symm]; rfl) (by rw [tyK0 h12 hj hkd.symm]; rfl) ⟨rfl, rfl⟩ ?_⟩
        rw [wsO_set1 hr (agr_sF _ _ _ _)]
        simp only [ce]
        rw [fsv_F v (Or.inl hkd.symm)]
        rfl
      | 1, hkd, h =>
        obtain ⟨v, S1, rfl, h1⟩ := tL_inv h
        obtain ⟨a, S2, rfl, h3⟩ := tN_inv h1
        obtain ⟨r, hr, h4⟩ := oneC_inv h3
        refine ⟨_, _, h4, row a r (vL v) S2 _ hr (by rw [tyK1 h12 hj hkd.symm]; rfl) (by rw [tyK1 h12 hj hkd.symm]; rfl) ⟨rfl, rfl⟩ ?_⟩
        rw [wsO_set1 hr (agr_sG _ _ _ _)]
        simp only [ce]
        rw [fsv_G v hkd.symm]
        rfl
      | 2, hkd, h =>
        obtain ⟨v, S1, rfl, h1⟩ := tP_inv h
        obtain ⟨a, S2, rfl, h3⟩ := tN_inv h1
        obtain ⟨r, hr, h4⟩ := oneC_inv h3
        obtain ⟨hjr, h5⟩ := bif_inv h4
        refine ⟨_, _, h5, row a r (vP v) S2 _ hr ?_ ?_ (szN_set (c' := cO ci (putL r j v)) hr rfl _) ?_⟩
        · rcases tyK2 h12 hj hkd.symm with ⟨t, ht⟩ | ⟨t, ht⟩ <;> rw [ht] <;> cases v <;> rfl
        · rcases tyK2 h12 hj hkd.symm with ⟨t, ht⟩ | ⟨t, ht⟩ <;> rw [ht] <;> cases v <;> rfl
        · rw [wsO_set hr (putL_eq _ _ _) (agr_rf _ _)]
          simp only [ce, putL_eq]
          rw [fsv_R v hkd.symm (Nat.le_of_ble_eq_true hjr), cv_P]
      | kd + 3, hkd, h =>
        obtain rfl : kd = 0 := by have := KD_lt h12 hj; omega
        obtain ⟨v, S1, rfl, h1⟩ := tI_inv h
        obtain ⟨a, S2, rfl, h3⟩ := tN_inv h1
        obtain ⟨r, hr, h4⟩ := oneC_inv h3
        by_cases hv : v = 0 ∨ v = 1
        · rw [if_pos hv] at h4
          refine ⟨_, _, h4, row a r (vI v) S2 _ hr (by rw [tyK3 h12 hj hkd.symm]; rcases hv with rfl | rfl <;> rfl) (by rw [tyK3 h12 hj hkd.symm]; rcases hv with rfl | rfl <;> rfl) ⟨rfl, rfl⟩ ?_⟩
          rw [wsO_set1 hr (agr_sF _ _ _ _)]
          simp only [ce]
          rw [fsv_F v (Or.inr hkd.symm)]
          rfl
        · rw [if_neg hv] at h4; cases h4
  | getstatic ix =>
    obtain rfl : len = 3 := by simpa [lenF] using hk.1
    match ax, h, hk.2 with
    | [], h, h2 => exact absurd h (by simp [opH])
    | j :: r, h, h2 =>
      simp only [axOk, Bool.and_eq_true, Bool.or_eq_true, Nat.beq_eq] at h2
      obtain ⟨rfl, h2⟩ := h2
      refine ⟨_, _, h, HOk.read fun Hm locs cells slots Q ls hP hS w => ?_⟩
      rcases h2 with ⟨rfl, rfl⟩ | ⟨rfl, rfl⟩
      · exact va_gets (own := RN 10) (ref := "ItalicsLean") hx hb hZ hS hown (hts _ (tblw (i := 988) (by decide +kernel) rfl)) (fun y hy => hy) hd w
      · exact va_getsN (own := RN 9) (ref := "ItalicsLean") (host := "ItalicsLean") hx hb hZ hS hown (va_Nw.use rfl (hNw _ (tbw (i := 979) (by decide +kernel)) rfl)) (fun y hy => hy) hd w
  | iaload =>
    obtain rfl : len = 1 := by simpa [lenF] using hk.1
    simp only [opH] at h
    split at h
    · rename_i i0 e S1
      cases he : Nat.beq e 100 with
      | true =>
        rw [he] at h
        simp only [cond_true] at h
        obtain ⟨hi, h1⟩ := inb_inv h
        rw [Nat.beq_eq] at he
        subst he
        exact ⟨_, _, h1, HOk.read fun Hm locs cells slots Q ls hP hS w => va_ti hx hb hT hS hi rfl hd w⟩
      | false =>
        rw [he] at h
        simp only [cond_false] at h
        obtain ⟨he1, h1⟩ := bif_inv h
        rw [Nat.beq_eq] at he1
        subst he1
        obtain ⟨hi, h2⟩ := inb_inv h1
        exact ⟨_, _, h2, HOk.read fun Hm locs cells slots Q ls hP hS w => va_sld hx hb hX (Nat.lt_of_lt_of_le hXb hBs) (Nat.not_le.mpr hXb) hS hi hd w⟩
    · obtain ⟨i0, S1, rfl, h1⟩ := tI_inv h
      obtain ⟨a, S2, rfl, h2⟩ := tN_inv h1
      obtain ⟨m0, hm, h3⟩ := oneN_inv h2
      obtain ⟨hi, h4⟩ := inb_inv h3
      exact ⟨_, _, h4, HOk.read fun Hm locs cells slots Q ls hP hS w => va_iald hx hb hK hP a 0 (wsO_at hm) rfl hi hd w⟩
  | baload =>
    obtain rfl : len = 1 := by simpa [lenF] using hk.1
    obtain ⟨i0, S1, rfl, h1⟩ := tI_inv h
    obtain ⟨a, S2, rfl, h2⟩ := tN_inv h1
    obtain ⟨m0, hm, h3⟩ := oneN_inv h2
    obtain ⟨hi, h4⟩ := inb_inv h3
    exact ⟨_, _, h4, HOk.read fun Hm locs cells slots Q ls hP hS w => va_zald hx hb hK hP a 1 (wsO_at hm) rfl hi hd w⟩
  | laload =>
    obtain rfl : len = 1 := by simpa [lenF] using hk.1
    obtain ⟨i0, S1, rfl, h1⟩ := tI_inv h
    obtain ⟨a, S2, rfl, h2⟩ := tN_inv h1
    obtain ⟨m0, hm, h3⟩ := oneN_inv h2
    obtain ⟨hi, h4⟩ := inb_inv h3
    exact ⟨_, _, h4, HOk.read fun Hm locs cells slots Q ls hP hS w => va_lald hx hb hK hP a 2 (wsO_at hm) rfl hi hd w⟩
  | aaload =>
    obtain rfl : len = 1 := by simpa [lenF] using hk.1
    obtain ⟨i0, S1, rfl, h1⟩ := tI_inv h
    obtain ⟨a, S2, rfl, h2⟩ := tN_inv h1
    obtain ⟨r, hr, h3⟩ := oneR_inv h2
    obtain ⟨hi, h4⟩ := inb_inv h3
    refine ⟨_, _, h4, HOk.read fun Hm locs cells slots Q ls hP hS w => ?_⟩
    refine va_aldq (C := "ItalicsLean$Text") hx hb hK hP a 3 (wsO_at hr) rfl hi hd ?_
    rw [← cv_P E B]
    exact w
  | iastore =>
    obtain rfl : len = 1 := by simpa [lenF] using hk.1
    obtain ⟨v, S0, rfl, h0⟩ := tI_inv h
    obtain ⟨i0, S1, rfl, h1⟩ := tI_inv h0
    obtain ⟨a, S2, rfl, h2⟩ := tN_inv h1
    obtain ⟨m0, hm, h3⟩ := oneN_inv h2
    obtain ⟨hi, h4⟩ := inb_inv h3
    refine ⟨_, _, h4, HOk.write rfl rfl fun Hm locs cells slots Q ls hP hS _ w => ?_⟩
    refine va_iast hx hb hK hP (wsO_D kc B H) hS a 0 (wsO_at hm) rfl hi hd fun H1 l1 hP1 _ hS1 => w H1 l1 ?_ hS1
    rw [wsO_set1 hm (agr_sA _ _ _ _), sA_row]
    exact hP1
  | bastore =>
    obtain rfl : len = 1 := by simpa [lenF] using hk.1
    obtain ⟨v, S0, rfl, h0⟩ := tI_inv h
    obtain ⟨i0, S1, rfl, h1⟩ := tI_inv h0
    obtain ⟨a, S2, rfl, h2⟩ := tN_inv h1
    obtain ⟨m0, hm, h3⟩ := oneN_inv h2
    obtain ⟨hi, h4⟩ := inb_inv h3
    refine ⟨_, _, h4, HOk.write rfl rfl fun Hm locs cells slots Q ls hP hS _ w => ?_⟩
    refine va_zast hx hb hK hP (wsO_D kc B H) hS a 1 (wsO_at hm) rfl hi hd fun H1 l1 hP1 _ hS1 => w H1 l1 ?_ hS1
    rw [wsO_set1 hm (agr_sA _ _ _ _), sA_rowZ]
    exact hP1
  | lastore =>
    obtain rfl : len = 1 := by simpa [lenF] using hk.1
    obtain ⟨v, S0, rfl, h0⟩ := tL_inv h
    obtain ⟨i0, S1, rfl, h1⟩ := tI_inv h0
    obtain ⟨a, S2, rfl, h2⟩ := tN_inv h1
    obtain ⟨m0, hm, h3⟩ := oneN_inv h2
    obtain ⟨hi, h4⟩ := inb_inv h3
    refine ⟨_, _, h4, HOk.write rfl rfl fun Hm locs cells slots Q ls hP hS _ w => ?_⟩
    refine va_last hx hb hK hP (wsO_D kc B H) hS a 2 (wsO_at hm) rfl hi hd fun H1 l1 hP1 _ hS1 => w H1 l1 ?_ hS1
    rw [wsO_set1 hm (agr_sB _ _ _ _), sB_row]
    exact hP1
  | aastore =>
    obtain rfl : len = 1 := by simpa [lenF] using hk.1
    obtain ⟨v, S0, rfl, h0⟩ := tN_inv h
    obtain ⟨i0, S1, rfl, h1⟩ := tI_inv h0
    obtain ⟨a, S2, rfl, h2⟩ := tN_inv h1
    obtain ⟨r, hr, h3⟩ := oneR_inv h2
    obtain ⟨rv, hv, h4⟩ := oneC_inv h3
    obtain ⟨hi, h5⟩ := inb_inv h4
    have hlt : i0.toNatClampNeg < r.length := Nat.not_le.mp fun q => hi (Or.inr q)
    refine ⟨_, _, h5, HOk.write (by simp [putL_eq]) (by rw [putL_eq]; exact tot_set hr (by simp [szC, putL_eq])) fun Hm locs cells slots Q ls hP hS _ w => ?_⟩
    refine va_astq (r := (RX7, TX7, 8)) hx hb hK hP (wsO_D kc B H) hS a 3 v 7 (wsO_at hr) rfl (wsO_at hv) rfl hi hd fun H1 l1 hP1 _ hS1 => w H1 l1 ?_ hS1
    rw [wsO_set hr (putL_eq _ _ _) (agr_rf _ _), putL_eq, rR_row _ _ _ _ _ _ _ hlt]
    exact hP1
  | arraylength =>
    obtain rfl : len = 1 := by simpa [lenF] using hk.1
    simp only [opH] at h
    split at h
    · rename_i e S1
      obtain ⟨he1, h1⟩ := bif_inv h
      rw [Nat.beq_eq] at he1
      subst he1
      exact ⟨_, _, h1, HOk.read fun Hm locs cells slots Q ls hP hS w => va_slen hx hb hX (Nat.lt_of_lt_of_le hXb hBs) (Nat.not_le.mpr hXb) hS hd w⟩
    · cases h
  | new ix =>
    obtain rfl : len = 3 := by simpa [lenF] using hk.1
    match ax, h, hk.2 with
    | [], h, h2 => exact absurd h (by simp [opH])
    | [_], h, h2 => exact absurd h (by simp [opH])
    | ci :: nf :: _, h, h2 =>
      simp only [axOk, Bool.and_eq_true, Nat.beq_eq] at h2
      obtain ⟨rfl, h2⟩ := h2
      obtain ⟨q, hq, hf⟩ := any_inv h2
      simp only [Bool.and_eq_true, Nat.beq_eq] at hf
      obtain ⟨⟨rfl, rfl⟩, rfl⟩ := hf
      have hw := List.all_eq_true.mp CLT_ok q hq
      simp only [Bool.and_eq_true, decide_eq_true_eq] at hw
      obtain ⟨⟨⟨g1, g2⟩, g3⟩, g4⟩ := hw
      have h12 : q.2.2.1 < 12 := Nat.le_of_ble_eq_true g4
      obtain ⟨t1, t2⟩ := tot1 H.1 (cO q.2.2.1 (List.replicate (NN q.2.2.1) none))
      simp only [szC] at t2
      refine ⟨_, _, h, ⟨by simp only [t1]; omega, by simp only [t2]; omega⟩, fun HF T0 hRc hRs hl hs Hm locs cells slots Q ls hP hS h1 h2 _ w => ?_⟩
      simp only [t1] at hl
      simp only [t2] at hs
      refine va_new (ci := q.2.2.1) (fs := fsv B q.2.2.1 (List.replicate (NN q.2.2.1) none) (zF H.2 H.1.length) H.1.length) (own := RN q.1) (T := TN q.2.2.1) (N := NN q.2.2.1) hx hb hts (inN h12) (tyN q.2.2.1) (tyN_ok h12) hown (hts _ (tblw g1 rfl)) (hts _ (tblw g2 rfl)) (hts _ (tblw g3 rfl)) hK hP (wsO_D kc B H) hS hA (clsN h12) (zF_fs h12) (by omega) (by omega) hd fun a H1 hP1 hD1 hS1 => ?_
      refine W_q C hP1 hD1 h1 fun ha => ?_
      subst ha
      refine w H1 locs (cells + 1) (slots + NN q.2.2.1) ?_ hS1 (by simp only [t1]; omega) (by simp only [t2]; omega)
      rw [wsO_push (agr_zF _ _)]
      exact hP1
  | newarray t =>
    obtain rfl : len = 2 := by simpa [lenF] using hk.1
    match ax, h, hk.2 with
    | [], h, h2 => exact absurd h (by simp [opH])
    | k0 :: _, h, h2 =>
      obtain ⟨v, S1, rfl, h1⟩ := tI_inv h
      obtain ⟨hv, h3⟩ := ite_inv h1
      obtain ⟨hv0, hv1⟩ := n32 hv
      obtain ⟨t1, t2⟩ := tot1 H.1 (cN k0 v.toNatClampNeg)
      simp only [szC] at t2
      refine ⟨_, _, h3, ⟨by simp only [t1]; omega, by simp only [t2]; omega⟩, fun HF T0 hRc hRs hl hs Hm locs cells slots Q ls hP hS hc1 hc2 _ w => ?_⟩
      simp only [t1] at hl
      simp only [t2] at hs
      cases t with
      | int =>
        simp only [axOk, Nat.beq_eq] at h2
        subst h2
        refine va_newa (atype := .int) (ty := .int) (a0 := (v.toNatClampNeg, .inl (fun _ => 0))) hx hb (hts _ (tblw (i := 195) (by decide +kernel) rfl)) rfl hK hP (wsO_D kc B H) hS hA (fun _ => rfl) hv0 rfl (by show _ * 4 ≤ _; omega) (by omega) (by omega) hd fun a cA H1 hK1 hP1 hD1 hS1 => ?_
        obtain rfl : cA = kc 0 := Option.some.inj ((show _ = some cA from (hK1.2 4 _ rfl).2).symm.trans (show _ = some (kc 0) from (hK.2 0 _ rfl).2))
        refine W_q C hP1 hD1 hc1 fun ha => ?_
        subst ha
        refine w H1 locs (cells + 1) (slots + v.toNatClampNeg) ?_ hS1 (by simp only [t1]; omega) (by simp only [t2]; omega)
        rw [wsO_push (agr_zA _ _), zA_i]
        exact hP1
      | boolean =>
        simp only [axOk, Nat.beq_eq] at h2
        subst h2
        refine va_newa (atype := .boolean) (ty := .boolean) (a0 := (v.toNatClampNeg, .inl (fun _ => 0))) hx hb (hts _ (tblw (i := 1343) (by decide +kernel) rfl)) rfl hK hP (wsO_D kc B H) hS hA (fun _ => rfl) hv0 rfl (by show _ * 1 ≤ _; omega) (by omega) (by omega) hd fun a cA H1 hK1 hP1 hD1 hS1 => ?_
        obtain rfl : cA = kc 1 := Option.some.inj ((show _ = some cA from (hK1.2 4 _ rfl).2).symm.trans (show _ = some (kc 1) from (hK.2 1 _ rfl).2))
        refine W_q C hP1 hD1 hc1 fun ha => ?_
        subst ha
        refine w H1 locs (cells + 1) (slots + v.toNatClampNeg) ?_ hS1 (by simp only [t1]; omega) (by simp only [t2]; omega)
        rw [wsO_push (agr_zA _ _), zA_z]
        exact hP1
      | long =>
        simp only [axOk, Nat.beq_eq] at h2
        subst h2
        refine va_newa (atype := .long) (ty := .long) (a0 := (v.toNatClampNeg, .inr (.inl (fun _ => 0)))) hx hb (hts _ (tblw (i := 369) (by decide +kernel) rfl)) rfl hK hP (wsO_D kc B H) hS hA (fun _ => rfl) hv0 rfl (by show _ * 8 ≤ _; omega) (by omega) (by omega) hd fun a cA H1 hK1 hP1 hD1 hS1 => ?_
        obtain rfl : cA = kc 2 := Option.some.inj ((show _ = some cA from (hK1.2 4 _ rfl).2).symm.trans (show _ = some (kc 2) from (hK.2 2 _ rfl).2))
        refine W_q C hP1 hD1 hc1 fun ha => ?_
        subst ha
        refine w H1 locs (cells + 1) (slots + v.toNatClampNeg) ?_ hS1 (by simp only [t1]; omega) (by simp only [t2]; omega)
        rw [wsO_push (agr_zA _ _), zA_l]
        exact hP1
      | _ => exact absurd h2 (by simp [axOk])
  | anewarray ix =>
    obtain rfl : len = 3 := by simpa [lenF] using hk.1
    have h2 := hk.2
    simp only [axOk, Bool.and_eq_true, Nat.beq_eq] at h2
    obtain ⟨rfl, rfl⟩ := h2
    obtain ⟨v, S1, rfl, h1⟩ := tI_inv h
    obtain ⟨hv, h3⟩ := ite_inv h1
    obtain ⟨hv0, hv1⟩ := n32 hv
    obtain ⟨t1, t2⟩ := tot1 H.1 (cR (List.replicate v.toNatClampNeg none))
    simp only [szC, List.length_replicate] at t2
    refine ⟨_, _, h3, ⟨by simp only [t1]; omega, by simp only [t2]; omega⟩, fun HF T0 hRc hRs hl hs Hm locs cells slots Q ls hP hS hc1 hc2 _ w => ?_⟩
    simp only [t1] at hl
    simp only [t2] at hs
    refine va_newq (own := RN 10) (C := "ItalicsLean$Text") hx hb hown (hts _ (tblw (i := 273) (by decide +kernel) rfl)) hAO hK hP (wsO_D kc B H) hS hA hv0 rfl (by omega) (by omega) (by omega) hd fun a cA H1 hK1 hP1 hD1 hS1 => ?_
    obtain rfl : cA = kc 3 := by
      obtain ⟨_, _, _, _, _, g1⟩ := (hK1.2 4 _ rfl).2
      obtain ⟨_, _, _, _, _, g2⟩ := (hK.2 3 _ rfl).2
      exact Option.some.inj (g1.symm.trans g2)
    refine W_q C hP1 hD1 hc1 fun ha => ?_
    subst ha
    refine w H1 locs (cells + 1) (slots + v.toNatClampNeg) ?_ hS1 (by simp only [t1]; omega) (by simp only [t2]; omega)
    rw [wsO_push (agr_rf _ _), zR_r]
    exact hP1
  | _ => exact absurd h (by simp [opH])
