set_option maxRecDepth 20000 in
theorem MLT_y : MLT.all (fun q => Nat.blt q.2.2.1 300) = true := by decide +kernel
set_option maxRecDepth 20000 in
theorem Y_own : (List.range 300).all (fun y => decide ((YN y).cls = RN (ownY y))) = true := by decide +kernel
set_option maxRecDepth 20000 in
theorem Y_max : YL.all (fun q => Nat.ble q.2.2.1 80) = true := by decide +kernel
theorem YN_at {y : Nat} {q : MethodName × ByteArray × Nat × Option FieldType × Bool × Nat} (h : nth YL y = some q) : YN y = q.1 := by unfold YN; rw [h]
set_option maxRecDepth 20000 in
theorem YL_len : YL.length = 301 := rfl
theorem mlt_use {own ix y : Nat} (h : MLT.any (fun q => Nat.beq q.1 own && Nat.beq q.2.1 ix && Nat.beq q.2.2.1 y) = true) : y < 300 ∧ ∃ q, nth YL y = some q ∧ (Cond.methodLink (RN own) ix q.1 ∈ gtb ∨ Cond.methodLinkNest (RN own) ix q.1 "ItalicsLean" ∈ lw_tbl) := by
  obtain ⟨q, hq, hf⟩ := any_inv h
  simp only [Bool.and_eq_true, Nat.beq_eq] at hf
  obtain ⟨⟨rfl, rfl⟩, rfl⟩ := hf
  have hy : q.2.2.1 < 300 := Nat.le_of_ble_eq_true (List.all_eq_true.mp MLT_y q hq)
  have hw := of_decide_eq_true (List.all_eq_true.mp MLT_ok q hq)
  have hs : nth YL q.2.2.1 = some (YL[q.2.2.1]'(by rw [YL_len]; omega)) := by rw [nth_eq]; exact List.getElem?_eq_getElem _
  refine ⟨hy, _, hs, ?_⟩
  rw [YN_at hs] at hw
  by_cases h0 : q.2.2.2.1 = 0
  · rw [if_pos h0] at hw; exact Or.inl (tblw hw rfl)
  · rw [if_neg h0] at hw; exact Or.inr (tbw hw)
theorem mlt_use0 {own ix y : Nat} (h : MLT.any (fun q => Nat.beq q.1 own && Nat.beq q.2.1 ix && Nat.beq q.2.2.1 y && Nat.beq q.2.2.2.1 0) = true) : y < 300 ∧ ∃ q, nth YL y = some q ∧ Cond.methodLink (RN own) ix q.1 ∈ gtb := by
  obtain ⟨q, hq, hf⟩ := any_inv h
  simp only [Bool.and_eq_true, Nat.beq_eq] at hf
  obtain ⟨⟨⟨rfl, rfl⟩, rfl⟩, h0⟩ := hf
  have hy : q.2.2.1 < 300 := Nat.le_of_ble_eq_true (List.all_eq_true.mp MLT_y q hq)
  have hw := of_decide_eq_true (List.all_eq_true.mp MLT_ok q hq)
  have hs : nth YL q.2.2.1 = some (YL[q.2.2.1]'(by rw [YL_len]; omega)) := by rw [nth_eq]; exact List.getElem?_eq_getElem _
  refine ⟨hy, _, hs, ?_⟩
  rw [YN_at hs, if_pos h0] at hw
  exact tblw hw rfl
theorem yOk_use {y : Nat} {q : MethodName × ByteArray × Nat × Option FieldType × Bool × Nat} (h : nth YL y = some q) (hy : y < 300) : Cond.initialized q.1.cls ∈ gtb ∧ (q.2.2.2.2.1 = true → Cond.static q.1 ∈ gtb) ∧ (q.2.2.2.2.1 = false → Cond.instanceMethod q.1 ∈ gtb ∧ (q.1.name ≠ "<init>" → Cond.selects q.1.cls q.1 q.1 ∈ gtb)) ∧ (q.1.cls ≠ "java/lang/invoke/MethodHandle" ∧ q.1.cls ≠ "java/lang/invoke/VarHandle" ∧ (parseMethodDescriptor q.1.desc).map (fun d => d.parameters.length) = some q.2.2.2.2.2) ∧ plainName q.1.cls = true ∧ q.2.2.1 ≤ 80 := by
  obtain ⟨-, p, hp⟩ := yOk_at h hy
  simp only [yOk, Bool.and_eq_true, decide_eq_true_eq] at hp
  obtain ⟨⟨⟨⟨⟨h1, h2⟩, h3⟩, h4⟩, h5⟩, h6⟩ := hp
  refine ⟨tblw h1 rfl, fun hs => ?_, fun hs => ?_, ⟨h3, h4, h5⟩, h6, ?_⟩
  · rw [if_pos hs] at h2
    exact tblw (of_decide_eq_true h2) rfl
  · rw [hs] at h2
    simp only [Bool.false_eq_true, if_false, Bool.and_eq_true, Bool.or_eq_true, decide_eq_true_eq] at h2
    refine ⟨tblw h2.1 rfl, fun hn => ?_⟩
    rcases h2.2 with h7 | h7
    · exact absurd h7 hn
    · exact tblw h7 rfl
  · rw [nth_eq] at h
    exact Nat.le_of_ble_eq_true (List.all_eq_true.mp Y_max q (List.mem_of_getElem? h))
set_option maxRecDepth 4000 in
theorem rm_ok {d mc ms fr lo mx : Nat} (h1 : d + 10 ≤ fr) (h2 : 100 * d + 500 ≤ lo) (h3 : mx ≤ 80) : (rmD d mc ms).frames + 1 ≤ fr ∧ 8 + (mx + 11) + (rmD d mc ms).locals ≤ lo := ⟨h1, by simp only [rmD]; omega⟩
set_option maxRecDepth 20000 in
theorem Y_init : YL.all (fun q => !(decide (q.1.name = "<init>")) || decide (q.2.2.2.1 = none)) = true := by decide +kernel
theorem initNone {y : Nat} {q : MethodName × ByteArray × Nat × Option FieldType × Bool × Nat} (h : nth YL y = some q) (hy : y < 300) (hn : q.1.name = "<init>") : q.2.2.2.1 = none := by
  rw [nth_eq] at h
  have := List.all_eq_true.mp Y_init q (List.mem_of_getElem? h)
  simp only [hn, decide_true, Bool.not_true, Bool.false_or, decide_eq_true_eq] at this
  exact this
theorem bV_inv {r : RR} {k : HP → RR} {x : Option AV × HP} (h : bV r k = some x) : ∃ H1, r = some (none, H1) ∧ k H1 = some x := by
  unfold bV at h
  split at h
  · exact ⟨_, rfl, h⟩
  · cases h
theorem bI_inv {r : RR} {k : Int32 → HP → RR} {x : Option AV × HP} (h : bI r k = some x) : ∃ a H1, r = some (some (vI a), H1) ∧ k a H1 = some x := by
  unfold bI at h
  split at h
  · exact ⟨_, _, rfl, h⟩
  · cases h
theorem bL_inv {r : RR} {k : Int64 → HP → RR} {x : Option AV × HP} (h : bL r k = some x) : ∃ a H1, r = some (some (vL a), H1) ∧ k a H1 = some x := by
  unfold bL at h
  split at h
  · exact ⟨_, _, rfl, h⟩
  · cases h
theorem bP_inv {r : RR} {k : Option Nat → HP → RR} {x : Option AV × HP} (h : bP r k = some x) : ∃ a H1, r = some (some (vP a), H1) ∧ k a H1 = some x := by
  unfold bP at h
  split at h
  · exact ⟨_, _, rfl, h⟩
  · cases h
/-- the answer of a call, whatever its kind -/
theorem goC_inv {rt : Nat} {r0 : RR} {S : ST} {k : ST → HP → RR} {x : Option AV × HP} (h : (match rt with
        | 0 => bV r0 fun H => k S H
        | 1 => bI r0 fun x H => k (vI x :: S) H
        | 2 => bL r0 fun x H => k (vL x :: S) H
        | _ => bP r0 fun x H => k (vP x :: S) H) = some x) : ∃ r H1, r0 = some (r, H1) ∧ k (r.toList ++ S) H1 = some x := by
  split at h
  · obtain ⟨H1, h1, h2⟩ := bV_inv h
    exact ⟨none, H1, h1, h2⟩
  · obtain ⟨a, H1, h1, h2⟩ := bI_inv h
    exact ⟨_, H1, h1, h2⟩
  · obtain ⟨a, H1, h1, h2⟩ := bL_inv h
    exact ⟨_, H1, h1, h2⟩
  · obtain ⟨a, H1, h1, h2⟩ := bP_inv h
    exact ⟨_, H1, h1, h2⟩
/-- a call's row out of the callee's run -/
theorem HOk.call {T : TT} {own n : Nat} {isI : Bool} {cc : ByteArray} {B N0 : Nat} {D : va_G} {kc : Nat → ClassId} {E V : Nat → Nat} {X : XS} (C : Cx T own n isI cc B N0 D kc E V X) {pc : Nat} {S S' : ST} {H H1 : HP} {r : Option AV} {a : Array Value} (hm : H.1.length ≤ H1.1.length ∧ tot H.1 ≤ tot H1.1)
    (run : ∀ (Hm : Heap) (locs : List Loc) (cells slots : Nat) (ls : Array Slot), va_P D CLS (wsO kc B H) Hm → va_S (fun q => B ≤ q) T.2.2.2.2.1.heap Hm locs → Hm.size = B + H.1.length → ls.size = T.2.2.2.2.2.2.2.2.2.maxLocals → cells + (H1.1.length - H.1.length) ≤ T.2.2.2.1.cells ∧ slots + (tot H1.1 - tot H.1) ≤ T.2.2.2.1.slots → va_Run T.1 T.2.1 T.2.2.1 T.2.2.2.1 T.2.2.2.2.1 T.2.2.2.2.2.1 T.2.2.2.2.2.2.1 T.2.2.2.2.2.2.2.1 T.2.2.2.2.2.2.2.2.1 T.2.2.2.2.2.2.2.2.2 Hm locs cells slots (H1.1.length - H.1.length) (tot H1.1 - tot H.1) (F0 T.2.2.2.2.2.1 pc ls (S.map (cv E B))) (S'.map (cv E B)) (QcM B D kc E r H1 a) (fun a => B ≤ a)) :
    HOk T B N0 D kc E pc 3 S H (r.toList ++ S') H1 := by
  refine ⟨hm, fun HF T0 hRc hRs hl hs Hm locs cells slots Q ls hP hS h1 h2 hls w => ?_⟩
  refine W_sz C hP hS h1 fun hz => ?_
  refine callg (C.2.2.2.2.2.2.2.1.2.2.2.2.2.2.2.2.2.1) (run Hm locs cells slots ls hP hS hz hls ⟨by omega, by omega⟩) hS fun H1m locs1 hP1 hS1 => ?_
  have := w H1m locs1 _ _ hP1 hS1 (show H1.1.length = N0 + (cells + (H1.1.length - H.1.length)) by omega) (show tot H1.1 = T0 + (slots + (tot H1.1 - tot H.1)) by omega)
  rw [List.map_append] at this
  cases r <;> exact this
set_option maxHeartbeats 4000000 in
theorem opC_st {T : TT} {own n : Nat} {isI : Bool} {cc : ByteArray} {B N0 : Nat} {D : va_G} {kc : Nat → ClassId} {E V : Nat → Nat} {X : XS} (C : Cx T own n isI cc B N0 D kc E V X) {d : Nat} {call : Nat → List AV → HP → RR} (hcall : CallOk T.2.1 B D kc E V X d call) (hR : d + 10 ≤ T.2.2.2.1.frames ∧ 100 * d + 500 ≤ T.2.2.2.1.locals) {pc ix len : Nat} {ax : List Nat} {cI : Int32} {cL : Int64} (hd : decode cc pc = .ok (.invokestatic ix, len)) (hk : len = lenF (.invokestatic ix) len ∧ axOk own isI pc (.invokestatic ix) ax cI cL = true) (hne : ∀ b r, ax ≠ 2 :: b :: r) {S : ST} {H : HP} {k : ST → HP → RR} {x : Option AV × HP} (h : opC call ax S H k = some x) :
    ∃ S' H', k S' H' = some x ∧ HOk T B N0 D kc E pc len S H S' H' := by
  obtain ⟨hx, hb, hml, hown, hts, hlk, hini, hcw, hsz, hfr, hlo⟩ := id C
  obtain ⟨-, -, -, -, -, -, -, -, -, -, hNw, -⟩ := id hcw
  obtain rfl : len = 3 := by simpa [lenF] using hk.1
  have h2 := hk.2
  unfold axOk at h2
  simp only at h2
  split at h2
  · exact absurd rfl (hne _ _)
  · rename_i y na rt
    simp only [Bool.and_eq_true, Nat.beq_eq] at h2
    obtain ⟨⟨⟨hm, hst⟩, hna⟩, hrt⟩ := h2
    obtain ⟨hy, q, hq, hlink⟩ := mlt_use hm
    obtain ⟨u1, u2, -, u4, u5, u6⟩ := yOk_use hq hy
    have hstq : q.2.2.2.2.1 = true := by unfold isStat at hst; rw [hq] at hst; exact hst
    have hnq : na = q.2.2.2.2.2 := by unfold narg at hna; rw [hq] at hna; exact hna
    simp only [opC] at h
    obtain ⟨as, S1, hl, rfl, h3⟩ := popN_inv h
    obtain ⟨hwd, h4⟩ := bif_inv h3
    obtain ⟨r, H1, hr, h5⟩ := goC_inv h4
    rw [List.append_nil] at hr
    obtain ⟨hmo, hMet⟩ := hcall y as H r H1 hr
    have hM := hMet q hq hy
    have hwd' : (((S1.map (cv E B)).map fun v => v.category).sum) ≤ 8 := by rw [words_eq]; exact Nat.le_of_ble_eq_true hwd
    have hrm : (rmD d (H1.1.length - H.1.length) (tot H1.1 - tot H.1)).frames + 1 ≤ T.2.2.2.1.frames ∧ 8 + (q.2.2.1 + 11) + (rmD d (H1.1.length - H.1.length) (tot H1.1 - tot H.1)).locals ≤ T.2.2.2.1.locals := rm_ok hR.1 hR.2 u6
    refine ⟨_, _, h5, HOk.call C (a := (as.map (cv E B)).toArray) hmo fun Hm locs cells slots ls hP hS hz hls hf => ?_⟩
    have hpre : PreS T.2.2.2.2.1 Hm (PcM B D kc E V X as H) (as.map (cv E B)) := ⟨PcM_blind, fun U hU hW => ⟨rfl, by rw [hU]; exact hP, hcw.warm hW hU hS, by rw [hU]; exact hz⟩⟩
    have hstk : (F0 T.2.2.2.2.2.1 pc ls ((as.reverse ++ S1).map (cv E B))).stack = (as.map (cv E B)).reverse ++ S1.map (cv E B) := by simp
    rcases hlink with hlink | hlink
    · exact va_runS (n := q.2.2.2.2.2) ⟨hx, hb, hml, hown, hts⟩ hM ⟨callB_of _ hts (wY_good hq hy) rfl rfl rfl (hts _ u1) (hts _ hlink) u4 hrm, hts _ (u2 hstq)⟩ hpre rfl (by simp [hl, hnq]) (by rw [← hml]; exact hls) hstk (lv_room hwd') hd hf
    · exact va_runSN (n := q.2.2.2.2.2) (host := "ItalicsLean") ⟨hx, hb, hml, hown, hts⟩ hM ⟨va_cnB _ hts (wY_good hq hy) rfl rfl rfl (hNw _ hlink rfl) (hts _ u1) u4 hrm, hts _ (u2 hstq), trivial⟩ hpre rfl (by simp [hl, hnq]) (by rw [← hml]; exact hls) hstk (lv_room hwd') hd hf
  · cases h2
set_option maxHeartbeats 4000000 in
theorem opC_vi {T : TT} {own n : Nat} {isI : Bool} {cc : ByteArray} {B N0 : Nat} {D : va_G} {kc : Nat → ClassId} {E V : Nat → Nat} {X : XS} (C : Cx T own n isI cc B N0 D kc E V X) {d : Nat} {call : Nat → List AV → HP → RR} (hcall : CallOk T.2.1 B D kc E V X d call) (hR : d + 10 ≤ T.2.2.2.1.frames ∧ 100 * d + 500 ≤ T.2.2.2.1.locals) {pc ix len : Nat} {ax : List Nat} {cI : Int32} {cL : Int64} (hd : decode cc pc = .ok (.invokevirtual ix, len)) (hk : len = lenF (.invokevirtual ix) len ∧ axOk own isI pc (.invokevirtual ix) ax cI cL = true) (hne : ∀ b r, ax ≠ 2 :: b :: r) {S : ST} {H : HP} {k : ST → HP → RR} {x : Option AV × HP} (h : opC call ax S H k = some x) :
    ∃ S' H', k S' H' = some x ∧ HOk T B N0 D kc E pc len S H S' H' := by
  obtain ⟨hx, hb, hml, hown, hts, hlk, hini, hcw, hsz, hfr, hlo⟩ := id C
  obtain ⟨hK, -⟩ := id hcw
  obtain rfl : len = 3 := by simpa [lenF] using hk.1
  have h2 := hk.2
  unfold axOk at h2
  simp only at h2
  split at h2
  · exact absurd rfl (hne _ _)
  · rename_i y na rt ci
    simp only [Bool.and_eq_true, Nat.beq_eq, Bool.not_eq_true', decide_eq_false_iff_not] at h2
    obtain ⟨⟨⟨⟨⟨⟨hm, hst⟩, hna⟩, hrt⟩, hci⟩, hc12⟩, hnin⟩ := h2
    obtain ⟨hy, q, hq, hlink⟩ := mlt_use0 hm
    obtain ⟨u1, -, u3, u4, u5, u6⟩ := yOk_use hq hy
    have hstq : q.2.2.2.2.1 = false := by unfold isStat at hst; rw [hq] at hst; exact hst
    have hnq : na = q.2.2.2.2.2 := by unfold narg at hna; rw [hq] at hna; exact hna
    have hcls : q.1.cls = RN ci := by
      have := of_decide_eq_true (List.all_eq_true.mp Y_own y (List.mem_range.mpr hy))
      rw [YN_at hq] at this
      rw [this, hci]
    have h12 : ci < 12 := Nat.le_of_ble_eq_true hc12
    rw [YN_at hq] at hnin
    simp only [opC] at h
    obtain ⟨as, S1, hl, rfl, h3⟩ := popN_inv h
    obtain ⟨b0, S2, rfl, h4⟩ := tN_inv h3
    obtain ⟨rb, hrb, h5⟩ := oneC_inv h4
    obtain ⟨hwd, h6⟩ := bif_inv h5
    obtain ⟨r, H1, hr, h7⟩ := goC_inv h6
    rw [List.append_nil] at hr
    obtain ⟨hmo, hMet⟩ := hcall y _ H r H1 hr
    have hM := hMet q hq hy
    have hwd' : (((S2.map (cv E B)).map fun v => v.category).sum) ≤ 8 := by rw [words_eq]; exact Nat.le_of_ble_eq_true hwd
    have hrm : (rmD d (H1.1.length - H.1.length) (tot H1.1 - tot H.1)).frames + 1 ≤ T.2.2.2.1.frames ∧ 8 + (q.2.2.1 + 11) + (rmD d (H1.1.length - H.1.length) (tot H1.1 - tot H.1)).locals ≤ T.2.2.2.1.locals := rm_ok hR.1 hR.2 u6
    refine ⟨_, _, h7, HOk.call C (a := (Value.ref (B + b0) :: as.map (cv E B)).toArray) hmo fun Hm locs cells slots ls hP hS hz hls hf => ?_⟩
    have hpre : PreV T.2.2.2.2.1 Hm q.1.cls (B + b0) (PcM B D kc E V X (vP (some b0) :: as) H) (as.map (cv E B)) := ⟨PcM_blind, by rw [hcls]; exact va_recv hK hP (clsN h12) (wsO_at hrb), fun U hU hW => ⟨rfl, by rw [hU]; exact hP, hcw.warm hW hU hS, by rw [hU]; exact hz⟩⟩
    have hstk : (F0 T.2.2.2.2.2.1 pc ls ((as.reverse ++ vP (some b0) :: S2).map (cv E B))).stack = (as.map (cv E B)).reverse ++ Value.ref (B + b0) :: S2.map (cv E B) := by simp [cv]
    exact va_runV (n := q.2.2.2.2.2) ⟨hx, hb, hml, hown, hts⟩ hM ⟨callB_of _ hts (wY_good hq hy) rfl rfl rfl (hts _ u1) (hts _ hlink) u4 hrm, hts _ (u3 hstq).1, hts _ ((u3 hstq).2 hnin)⟩ hpre rfl (by simp [hl, hnq]) (by rw [← hml]; exact hls) hstk (lv_room hwd') hd hf
  · cases h2
set_option maxHeartbeats 4000000 in
theorem opC_sp {T : TT} {own n : Nat} {isI : Bool} {cc : ByteArray} {B N0 : Nat} {D : va_G} {kc : Nat → ClassId} {E V : Nat → Nat} {X : XS} (C : Cx T own n isI cc B N0 D kc E V X) {d : Nat} {call : Nat → List AV → HP → RR} (hcall : CallOk T.2.1 B D kc E V X d call) (hR : d + 10 ≤ T.2.2.2.1.frames ∧ 100 * d + 500 ≤ T.2.2.2.1.locals) {pc ix len : Nat} {ax : List Nat} {cI : Int32} {cL : Int64} (hd : decode cc pc = .ok (.invokespecial ix, len)) (hk : len = lenF (.invokespecial ix) len ∧ axOk own isI pc (.invokespecial ix) ax cI cL = true) (hne : ∀ b r, ax ≠ 2 :: b :: r) {S : ST} {H : HP} {k : ST → HP → RR} {x : Option AV × HP} (h : opC call ax S H k = some x) :
    ∃ S' H', k S' H' = some x ∧ HOk T B N0 D kc E pc len S H S' H' := by
  obtain ⟨hx, hb, hml, hown, hts, hlk, hini, hcw, hsz, hfr, hlo⟩ := id C
  obtain ⟨hK, -, -, -, -, -, -, -, -, -, hNw, -⟩ := id hcw
  obtain rfl : len = 3 := by simpa [lenF] using hk.1
  have h2 := hk.2
  unfold axOk at h2
  simp only at h2
  split at h2
  · exact absurd rfl (hne _ _)
  · rename_i y na rt ci
    simp only [Bool.and_eq_true, Nat.beq_eq, Bool.not_eq_true', decide_eq_true_eq] at h2
    obtain ⟨⟨⟨⟨⟨⟨⟨hm, hst⟩, hna⟩, hrt0⟩, hrt⟩, hci⟩, hc12⟩, hnin⟩ := h2
    obtain ⟨hy, q, hq, hlink⟩ := mlt_use hm
    obtain ⟨u1, -, u3, u4, u5, u6⟩ := yOk_use hq hy
    have hstq : q.2.2.2.2.1 = false := by unfold isStat at hst; rw [hq] at hst; exact hst
    have hnq : na = q.2.2.2.2.2 := by unfold narg at hna; rw [hq] at hna; exact hna
    have hret : q.2.2.2.1 = none := initNone hq hy (by rw [← YN_at hq]; exact hnin)
    rw [YN_at hq] at hnin
    simp only [opC] at h
    obtain ⟨as, S1, hl, rfl, h3⟩ := popN_inv h
    obtain ⟨b0, S2, rfl, h4⟩ := tN_inv h3
    obtain ⟨rb, hrb, h5⟩ := oneC_inv h4
    obtain ⟨hwd, h6⟩ := bif_inv h5
    obtain ⟨r, H1, hr, h7⟩ := goC_inv h6
    rw [List.append_nil] at hr
    obtain ⟨hmo, hMet⟩ := hcall y _ H r H1 hr
    have hM := hMet q hq hy
    have hwd' : (((S2.map (cv E B)).map fun v => v.category).sum) ≤ 8 := by rw [words_eq]; exact Nat.le_of_ble_eq_true hwd
    have hrm : (rmD d (H1.1.length - H.1.length) (tot H1.1 - tot H.1)).frames + 1 ≤ T.2.2.2.1.frames ∧ 8 + (q.2.2.1 + 11) + (rmD d (H1.1.length - H.1.length) (tot H1.1 - tot H.1)).locals ≤ T.2.2.2.1.locals := rm_ok hR.1 hR.2 u6
    refine ⟨_, _, h7, HOk.call C (a := (Value.ref (B + b0) :: as.map (cv E B)).toArray) hmo fun Hm locs cells slots ls hP hS hz hls hf => ?_⟩
    have hpre : PreS T.2.2.2.2.1 Hm (PcM B D kc E V X (vP (some b0) :: as) H) (Value.ref (B + b0) :: as.map (cv E B)) := ⟨PcM_blind, fun U hU hW => ⟨rfl, by rw [hU]; exact hP, hcw.warm hW hU hS, by rw [hU]; exact hz⟩⟩
    have hstk : (F0 T.2.2.2.2.2.1 pc ls ((as.reverse ++ vP (some b0) :: S2).map (cv E B))).stack = (as.map (cv E B)).reverse ++ Value.ref (B + b0) :: S2.map (cv E B) := by simp [cv]
    have hwq : wY q = Cond.code q.1 q.2.1 q.2.2.1 none :: gtb := by unfold wY; rw [hret]
    rcases hlink with hlink | hlink
    · exact va_runI (n := q.2.2.2.2.2) ⟨hx, hb, hml, hown, hts⟩ hM ⟨callB_of _ hts (wY_good hq hy) hwq rfl rfl (hts _ u1) (hts _ hlink) u4 hrm, hnin, hts _ (u3 hstq).1⟩ hpre rfl (by simp [hl, hnq]) (by rw [← hml]; exact hls) hstk (lv_room hwd') hd hf
    · exact va_runIN (n := q.2.2.2.2.2) (host := "ItalicsLean") ⟨hx, hb, hml, hown, hts⟩ hM ⟨va_cnB _ hts (wY_good hq hy) hwq rfl rfl (hNw _ hlink rfl) (hts _ u1) u4 hrm, hnin, hts _ (u3 hstq).1⟩ hpre rfl (by simp [hl, hnq]) (by rw [← hml]; exact hls) hstk (lv_room hwd') hd hf
  · cases h2
