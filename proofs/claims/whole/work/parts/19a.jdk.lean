/-! the library's own methods: bitCount, and length and charAt of a text constant -/
theorem dj_bit_0 : decode prog_14_method_49_code 0 = .ok (.iload_n 0, 1) := by decide +kernel
theorem dj_bit_1 : decode prog_14_method_49_code 1 = .ok (.iload_n 0, 1) := by decide +kernel
theorem dj_bit_2 : decode prog_14_method_49_code 2 = .ok (.iconst 1, 1) := by decide +kernel
theorem dj_bit_3 : decode prog_14_method_49_code 3 = .ok (.iushr, 1) := by decide +kernel
theorem dj_bit_4 : decode prog_14_method_49_code 4 = .ok (.ldc_w 265, 3) := by decide +kernel
theorem dj_bit_7 : decode prog_14_method_49_code 7 = .ok (.iand, 1) := by decide +kernel
theorem dj_bit_8 : decode prog_14_method_49_code 8 = .ok (.isub, 1) := by decide +kernel
theorem dj_bit_9 : decode prog_14_method_49_code 9 = .ok (.istore_n 0, 1) := by decide +kernel
theorem dj_bit_10 : decode prog_14_method_49_code 10 = .ok (.iload_n 0, 1) := by decide +kernel
theorem dj_bit_11 : decode prog_14_method_49_code 11 = .ok (.ldc_w 266, 3) := by decide +kernel
theorem dj_bit_14 : decode prog_14_method_49_code 14 = .ok (.iand, 1) := by decide +kernel
theorem dj_bit_15 : decode prog_14_method_49_code 15 = .ok (.iload_n 0, 1) := by decide +kernel
theorem dj_bit_16 : decode prog_14_method_49_code 16 = .ok (.iconst 2, 1) := by decide +kernel
theorem dj_bit_17 : decode prog_14_method_49_code 17 = .ok (.iushr, 1) := by decide +kernel
theorem dj_bit_18 : decode prog_14_method_49_code 18 = .ok (.ldc_w 266, 3) := by decide +kernel
theorem dj_bit_21 : decode prog_14_method_49_code 21 = .ok (.iand, 1) := by decide +kernel
theorem dj_bit_22 : decode prog_14_method_49_code 22 = .ok (.iadd, 1) := by decide +kernel
theorem dj_bit_23 : decode prog_14_method_49_code 23 = .ok (.istore_n 0, 1) := by decide +kernel
theorem dj_bit_24 : decode prog_14_method_49_code 24 = .ok (.iload_n 0, 1) := by decide +kernel
theorem dj_bit_25 : decode prog_14_method_49_code 25 = .ok (.iload_n 0, 1) := by decide +kernel
theorem dj_bit_26 : decode prog_14_method_49_code 26 = .ok (.iconst 4, 1) := by decide +kernel
theorem dj_bit_27 : decode prog_14_method_49_code 27 = .ok (.iushr, 1) := by decide +kernel
theorem dj_bit_28 : decode prog_14_method_49_code 28 = .ok (.iadd, 1) := by decide +kernel
theorem dj_bit_29 : decode prog_14_method_49_code 29 = .ok (.ldc_w 267, 3) := by decide +kernel
theorem dj_bit_32 : decode prog_14_method_49_code 32 = .ok (.iand, 1) := by decide +kernel
theorem dj_bit_33 : decode prog_14_method_49_code 33 = .ok (.istore_n 0, 1) := by decide +kernel
theorem dj_bit_34 : decode prog_14_method_49_code 34 = .ok (.iload_n 0, 1) := by decide +kernel
theorem dj_bit_35 : decode prog_14_method_49_code 35 = .ok (.iload_n 0, 1) := by decide +kernel
theorem dj_bit_36 : decode prog_14_method_49_code 36 = .ok (.bipush 8, 2) := by decide +kernel
theorem dj_bit_38 : decode prog_14_method_49_code 38 = .ok (.iushr, 1) := by decide +kernel
theorem dj_bit_39 : decode prog_14_method_49_code 39 = .ok (.iadd, 1) := by decide +kernel
theorem dj_bit_40 : decode prog_14_method_49_code 40 = .ok (.istore_n 0, 1) := by decide +kernel
theorem dj_bit_41 : decode prog_14_method_49_code 41 = .ok (.iload_n 0, 1) := by decide +kernel
theorem dj_bit_42 : decode prog_14_method_49_code 42 = .ok (.iload_n 0, 1) := by decide +kernel
theorem dj_bit_43 : decode prog_14_method_49_code 43 = .ok (.bipush 16, 2) := by decide +kernel
theorem dj_bit_45 : decode prog_14_method_49_code 45 = .ok (.iushr, 1) := by decide +kernel
theorem dj_bit_46 : decode prog_14_method_49_code 46 = .ok (.iadd, 1) := by decide +kernel
theorem dj_bit_47 : decode prog_14_method_49_code 47 = .ok (.istore_n 0, 1) := by decide +kernel
theorem dj_bit_48 : decode prog_14_method_49_code 48 = .ok (.iload_n 0, 1) := by decide +kernel
theorem dj_bit_49 : decode prog_14_method_49_code 49 = .ok (.bipush 63, 2) := by decide +kernel
theorem dj_bit_51 : decode prog_14_method_49_code 51 = .ok (.iand, 1) := by decide +kernel
theorem dj_bit_52 : decode prog_14_method_49_code 52 = .ok (.ireturn, 1) := by decide +kernel
def yj_bit : MethodName := ⟨"java/lang/Integer", "bitCount", "(I)I"⟩
abbrev wj_bit : List Cond := Cond.code yj_bit prog_14_method_49_code 1 (some .int) :: gtb
theorem dj_len_0 : decode prog_16_method_54_code 0 = .ok (.aload_n 0, 1) := by decide +kernel
theorem dj_len_1 : decode prog_16_method_54_code 1 = .ok (.getfield 9, 3) := by decide +kernel
theorem dj_len_4 : decode prog_16_method_54_code 4 = .ok (.arraylength, 1) := by decide +kernel
theorem dj_len_5 : decode prog_16_method_54_code 5 = .ok (.aload_n 0, 1) := by decide +kernel
theorem dj_len_6 : decode prog_16_method_54_code 6 = .ok (.invokevirtual 335, 3) := by decide +kernel
theorem dj_len_9 : decode prog_16_method_54_code 9 = .ok (.ishr, 1) := by decide +kernel
theorem dj_len_10 : decode prog_16_method_54_code 10 = .ok (.ireturn, 1) := by decide +kernel
def yj_len : MethodName := ⟨"java/lang/String", "length", "()I"⟩
abbrev wj_len : List Cond := Cond.code yj_len prog_16_method_54_code 1 (some .int) :: gtb
theorem dj_cod_0 : decode prog_16_method_152_code 0 = .ok (.getstatic 38, 3) := by decide +kernel
theorem dj_cod_3 : decode prog_16_method_152_code 3 = .ok (.ifCond .eq 10, 3) := by decide +kernel
theorem dj_cod_6 : decode prog_16_method_152_code 6 = .ok (.aload_n 0, 1) := by decide +kernel
theorem dj_cod_7 : decode prog_16_method_152_code 7 = .ok (.getfield 15, 3) := by decide +kernel
theorem dj_cod_10 : decode prog_16_method_152_code 10 = .ok (.goto 4, 3) := by decide +kernel
theorem dj_cod_13 : decode prog_16_method_152_code 13 = .ok (.iconst 1, 1) := by decide +kernel
theorem dj_cod_14 : decode prog_16_method_152_code 14 = .ok (.ireturn, 1) := by decide +kernel
def yj_cod : MethodName := ⟨"java/lang/String", "coder", "()B"⟩
abbrev wj_cod : List Cond := Cond.code yj_cod prog_16_method_152_code 1 (some .byte) :: gtb
theorem dj_chr_0 : decode prog_16_method_56_code 0 = .ok (.aload_n 0, 1) := by decide +kernel
theorem dj_chr_1 : decode prog_16_method_56_code 1 = .ok (.invokevirtual 492, 3) := by decide +kernel
theorem dj_chr_4 : decode prog_16_method_56_code 4 = .ok (.ifCond .eq 12, 3) := by decide +kernel
theorem dj_chr_7 : decode prog_16_method_56_code 7 = .ok (.aload_n 0, 1) := by decide +kernel
theorem dj_chr_8 : decode prog_16_method_56_code 8 = .ok (.getfield 9, 3) := by decide +kernel
theorem dj_chr_11 : decode prog_16_method_56_code 11 = .ok (.iload_n 1, 1) := by decide +kernel
theorem dj_chr_12 : decode prog_16_method_56_code 12 = .ok (.invokestatic 495, 3) := by decide +kernel
theorem dj_chr_15 : decode prog_16_method_56_code 15 = .ok (.ireturn, 1) := by decide +kernel
theorem dj_chr_16 : decode prog_16_method_56_code 16 = .ok (.aload_n 0, 1) := by decide +kernel
theorem dj_chr_17 : decode prog_16_method_56_code 17 = .ok (.getfield 9, 3) := by decide +kernel
theorem dj_chr_20 : decode prog_16_method_56_code 20 = .ok (.iload_n 1, 1) := by decide +kernel
theorem dj_chr_21 : decode prog_16_method_56_code 21 = .ok (.invokestatic 498, 3) := by decide +kernel
theorem dj_chr_24 : decode prog_16_method_56_code 24 = .ok (.ireturn, 1) := by decide +kernel
def yj_chr : MethodName := ⟨"java/lang/String", "charAt", "(I)C"⟩
abbrev wj_chr : List Cond := Cond.code yj_chr prog_16_method_56_code 2 (some .char) :: gtb
theorem dj_lat_0 : decode prog_16_method_154_code 0 = .ok (.getstatic 38, 3) := by decide +kernel
theorem dj_lat_3 : decode prog_16_method_154_code 3 = .ok (.ifCond .eq 14, 3) := by decide +kernel
theorem dj_lat_6 : decode prog_16_method_154_code 6 = .ok (.aload_n 0, 1) := by decide +kernel
theorem dj_lat_7 : decode prog_16_method_154_code 7 = .ok (.getfield 15, 3) := by decide +kernel
theorem dj_lat_10 : decode prog_16_method_154_code 10 = .ok (.ifCond .ne 7, 3) := by decide +kernel
theorem dj_lat_13 : decode prog_16_method_154_code 13 = .ok (.iconst 1, 1) := by decide +kernel
theorem dj_lat_14 : decode prog_16_method_154_code 14 = .ok (.goto 4, 3) := by decide +kernel
theorem dj_lat_17 : decode prog_16_method_154_code 17 = .ok (.iconst 0, 1) := by decide +kernel
theorem dj_lat_18 : decode prog_16_method_154_code 18 = .ok (.ireturn, 1) := by decide +kernel
def yj_lat : MethodName := ⟨"java/lang/String", "isLatin1", "()Z"⟩
abbrev wj_lat : List Cond := Cond.code yj_lat prog_16_method_154_code 1 (some .boolean) :: gtb
theorem dj_lch_0 : decode prog_17_method_2_code 0 = .ok (.iload_n 1, 1) := by decide +kernel
theorem dj_lch_1 : decode prog_17_method_2_code 1 = .ok (.aload_n 0, 1) := by decide +kernel
theorem dj_lch_2 : decode prog_17_method_2_code 2 = .ok (.arraylength, 1) := by decide +kernel
theorem dj_lch_3 : decode prog_17_method_2_code 3 = .ok (.invokestatic 9, 3) := by decide +kernel
theorem dj_lch_6 : decode prog_17_method_2_code 6 = .ok (.aload_n 0, 1) := by decide +kernel
theorem dj_lch_7 : decode prog_17_method_2_code 7 = .ok (.iload_n 1, 1) := by decide +kernel
theorem dj_lch_8 : decode prog_17_method_2_code 8 = .ok (.baload, 1) := by decide +kernel
theorem dj_lch_9 : decode prog_17_method_2_code 9 = .ok (.sipush 255, 3) := by decide +kernel
theorem dj_lch_12 : decode prog_17_method_2_code 12 = .ok (.iand, 1) := by decide +kernel
theorem dj_lch_13 : decode prog_17_method_2_code 13 = .ok (.i2c, 1) := by decide +kernel
theorem dj_lch_14 : decode prog_17_method_2_code 14 = .ok (.ireturn, 1) := by decide +kernel
def yj_lch : MethodName := ⟨"java/lang/StringLatin1", "charAt", "([BI)C"⟩
abbrev wj_lch : List Cond := Cond.code yj_lch prog_17_method_2_code 2 (some .char) :: gtb
theorem dj_chk_0 : decode prog_16_method_155_code 0 = .ok (.iload_n 0, 1) := by decide +kernel
theorem dj_chk_1 : decode prog_16_method_155_code 1 = .ok (.iload_n 1, 1) := by decide +kernel
theorem dj_chk_2 : decode prog_16_method_155_code 2 = .ok (.getstatic 1053, 3) := by decide +kernel
theorem dj_chk_5 : decode prog_16_method_155_code 5 = .ok (.invokestatic 1059, 3) := by decide +kernel
theorem dj_chk_8 : decode prog_16_method_155_code 8 = .ok (.pop, 1) := by decide +kernel
theorem dj_chk_9 : decode prog_16_method_155_code 9 = .ok (.return_, 1) := by decide +kernel
def yj_chk : MethodName := ⟨"java/lang/String", "checkIndex", "(II)V"⟩
abbrev wj_chk : List Cond := Cond.code yj_chk prog_16_method_155_code 2 none :: gtb
theorem dj_pre_0 : decode prog_20_method_11_code 0 = .ok (.iload_n 0, 1) := by decide +kernel
theorem dj_pre_1 : decode prog_20_method_11_code 1 = .ok (.ifCond .lt 8, 3) := by decide +kernel
theorem dj_pre_4 : decode prog_20_method_11_code 4 = .ok (.iload_n 0, 1) := by decide +kernel
theorem dj_pre_5 : decode prog_20_method_11_code 5 = .ok (.iload_n 1, 1) := by decide +kernel
theorem dj_pre_6 : decode prog_20_method_11_code 6 = .ok (.if_icmp .lt 10, 3) := by decide +kernel
theorem dj_pre_9 : decode prog_20_method_11_code 9 = .ok (.aload_n 2, 1) := by decide +kernel
theorem dj_pre_10 : decode prog_20_method_11_code 10 = .ok (.iload_n 0, 1) := by decide +kernel
theorem dj_pre_11 : decode prog_20_method_11_code 11 = .ok (.iload_n 1, 1) := by decide +kernel
theorem dj_pre_12 : decode prog_20_method_11_code 12 = .ok (.invokestatic 95, 3) := by decide +kernel
theorem dj_pre_15 : decode prog_20_method_11_code 15 = .ok (.athrow, 1) := by decide +kernel
theorem dj_pre_16 : decode prog_20_method_11_code 16 = .ok (.iload_n 0, 1) := by decide +kernel
theorem dj_pre_17 : decode prog_20_method_11_code 17 = .ok (.ireturn, 1) := by decide +kernel
def yj_pre : MethodName := ⟨"jdk/internal/util/Preconditions", "checkIndex", "(IILjava/util/function/BiFunction;)I"⟩
abbrev wj_pre : List Cond := Cond.code yj_pre prog_20_method_11_code 3 (some .int) :: gtb
def PcV (B : Nat) (D : va_G) (kc : Nat → ClassId) (E V : Nat → Nat) (X : XS) (vs : List Value) (H : HP) : Array Value → State → Prop := fun v U => v = vs.toArray ∧ va_P D CLS (wsO kc B H) U.heap ∧ CW B D kc E V X U ∧ U.heap.size = B + H.1.length
theorem PcV_blind {B : Nat} {D : va_G} {kc : Nat → ClassId} {E V : Nat → Nat} {X : XS} {vs : List Value} {H : HP} : FrameBlind (PcV B D kc E V X vs H) := fun a U g mk q => ⟨q.1, q.2.1, q.2.2.1.calling g mk a, q.2.2.2⟩
def rmJ (k : Nat) : Room := { frames := k, cells := 0, slots := 0, locals := 40 * k }
def MetJ (l : Launch) (B : Nat) (D : va_G) (kc : Nat → ClassId) (E V : Nat → Nat) (X : XS) (y : MethodName) (ws : List Cond) (k : Nat) (vs : List Value) (r : Option AV) (H : HP) : Prop := Met l y ws (rmJ k) (PcV B D kc E V X vs H) (QcM B D kc E r H) 0 0 (fun a => B ≤ a)
theorem gt_good {w : Cond} (h : w ∈ gtb) : w ∈ gtb ∧ ((w.onTables && w.keeps) = true ∨ ∃ ty, w = .arrayClass ty) := ⟨h, good_of_word (List.mem_filter.mp h).2⟩
theorem wj_good {y : MethodName} {bytes : ByteArray} {n i : Nat} {ret : Option FieldType} (h : lw_tbl[i]? = some (Cond.code y bytes n ret)) : GoodIn gtb (Cond.code y bytes n ret :: gtb) := by
  intro w hw
  rcases List.mem_cons.mp hw with rfl | hw
  · exact gt_good (tblw h rfl)
  · exact gt_good hw
set_option maxRecDepth 20000 in
set_option maxHeartbeats 4000000 in
theorem cj_bit (l : Launch) (B : Nat) (D : va_G) (kc : Nat → ClassId) (E V : Nat → Nat) (X : XS) (v : Int32) (H : HP) : MetJ l B D kc E V X yj_bit wj_bit 1 [.int v] (some (vI (bitC v))) H := by
  refine Met.ofW (cc := prog_14_method_49_code) (maxL := 1) (ret := (some .int)) (ws' := gtb) (by decide) rfl ?_
  intro p e s m args below meth c s₁ Bd hml hv
  obtain ⟨rfl, hP, hcw, hz⟩ := hv
  have hx := Bd.exec
  have hb := Bd.bytes
  have hr := Bd.returns
  have hlk := Bd.notSynchronized
  have hts : ∀ w ∈ gtb, w.before _ s = true := fun w hw => atoms_spec (ws := wj_bit) Bd.pre w (List.mem_cons_of_mem _ hw)
  have hown : s.vm.findClass "java/lang/Integer" = some m.cls := findClass_of_methodNamed Bd.named
  have hl := lv_entry [.int v] (n := 1) (Nat.le_of_ble_eq_true rfl)
  rw [lg_entry_eq]
  generalize (lg_sl [.int v] ++ List.replicate (1 - (lg_sl [.int v]).length) Slot.unset).toArray = ls at hl ⊢
  have hl : lv_has ls 1 [(0, .int v)] := hl
  have hS : va_S (fun q => B ≤ q) s.heap s.heap [] := va_S.rf
  refine lv_iload_n hx hb dj_bit_0 rfl (lv_at hl 0 rfl) ?_
  refine lv_iload_n hx hb dj_bit_1 rfl (lv_at hl 0 rfl) ?_
  refine lv_iconst (v := 1) hx hb dj_bit_2 (by decide) ?_
  refine lv_iushr hx hb dj_bit_3 rfl ?_
  refine lv_ldcw (v := 1431655765) hx hb hown (hts _ (tblw (i := 1128) (by decide +kernel) rfl)) dj_bit_4 ?_
  refine lv_iand hx hb dj_bit_7 ?_
  refine lv_isub hx hb dj_bit_8 ?_
  refine lv_topi (fun a1 ea1 => ?_)
  refine lv_istore_n (lv' := [(0, .int a1)]) hx hb dj_bit_9 rfl hl (by decide) rfl (fun ls hl => ?_)
  refine lv_iload_n hx hb dj_bit_10 rfl (lv_at hl 0 rfl) ?_
  refine lv_ldcw (v := 858993459) hx hb hown (hts _ (tblw (i := 1129) (by decide +kernel) rfl)) dj_bit_11 ?_
  refine lv_iand hx hb dj_bit_14 ?_
  refine lv_iload_n hx hb dj_bit_15 rfl (lv_at hl 0 rfl) ?_
  refine lv_iconst (v := 2) hx hb dj_bit_16 (by decide) ?_
  refine lv_iushr hx hb dj_bit_17 rfl ?_
  refine lv_ldcw (v := 858993459) hx hb hown (hts _ (tblw (i := 1129) (by decide +kernel) rfl)) dj_bit_18 ?_
  refine lv_iand hx hb dj_bit_21 ?_
  refine lv_iadd hx hb dj_bit_22 ?_
  refine lv_topi (fun a2 ea2 => ?_)
  refine lv_istore_n (lv' := [(0, .int a2)]) hx hb dj_bit_23 rfl hl (by decide) rfl (fun ls hl => ?_)
  refine lv_iload_n hx hb dj_bit_24 rfl (lv_at hl 0 rfl) ?_
  refine lv_iload_n hx hb dj_bit_25 rfl (lv_at hl 0 rfl) ?_
  refine lv_iconst (v := 4) hx hb dj_bit_26 (by decide) ?_
  refine lv_iushr hx hb dj_bit_27 rfl ?_
  refine lv_iadd hx hb dj_bit_28 ?_
  refine lv_ldcw (v := 252645135) hx hb hown (hts _ (tblw (i := 1130) (by decide +kernel) rfl)) dj_bit_29 ?_
  refine lv_iand hx hb dj_bit_32 ?_
  refine lv_topi (fun a3 ea3 => ?_)
  refine lv_istore_n (lv' := [(0, .int a3)]) hx hb dj_bit_33 rfl hl (by decide) rfl (fun ls hl => ?_)
  refine lv_iload_n hx hb dj_bit_34 rfl (lv_at hl 0 rfl) ?_
  refine lv_iload_n hx hb dj_bit_35 rfl (lv_at hl 0 rfl) ?_
  refine lv_bipush (v := 8) hx hb dj_bit_36 (by decide) ?_
  refine lv_iushr hx hb dj_bit_38 rfl ?_
  refine lv_iadd hx hb dj_bit_39 ?_
  refine lv_topi (fun a4 ea4 => ?_)
  refine lv_istore_n (lv' := [(0, .int a4)]) hx hb dj_bit_40 rfl hl (by decide) rfl (fun ls hl => ?_)
  refine lv_iload_n hx hb dj_bit_41 rfl (lv_at hl 0 rfl) ?_
  refine lv_iload_n hx hb dj_bit_42 rfl (lv_at hl 0 rfl) ?_
  refine lv_bipush (v := 16) hx hb dj_bit_43 (by decide) ?_
  refine lv_iushr hx hb dj_bit_45 rfl ?_
  refine lv_iadd hx hb dj_bit_46 ?_
  refine lv_topi (fun a5 ea5 => ?_)
  refine lv_istore_n (lv' := [(0, .int a5)]) hx hb dj_bit_47 rfl hl (by decide) rfl (fun ls hl => ?_)
  refine lv_iload_n hx hb dj_bit_48 rfl (lv_at hl 0 rfl) ?_
  refine lv_bipush (v := 63) hx hb dj_bit_49 (by decide) ?_
  refine lv_iand hx hb dj_bit_51 ?_
  refine lv_topi (fun z ez => ?_)
  have ev : z = bitC v := by subst ez; subst ea5; subst ea4; subst ea3; subst ea2; subst ea1; rfl
  subst ev
  exact W.iret hx hb hr (fun t ht _ => ⟨rfl, by rw [ht]; exact hP, hS.F ht⟩) hS.2.2 dj_bit_52 hlk
theorem cj_cod (l : Launch) (B : Nat) (D : va_G) (kc : Nat → ClassId) (E V : Nat → Nat) (X : XS) (i : Nat) (hi : i < 29) (H : HP) : MetJ l B D kc E V X yj_cod wj_cod 1 [.ref (E i)] (some (vI 0)) H := by
  refine Met.ofW (cc := prog_16_method_152_code) (maxL := 1) (ret := (some .byte)) (ws' := gtb) (by decide) rfl ?_
  intro p e s m args below meth c s₁ Bd hml hv
  obtain ⟨rfl, hP, hcw, hz⟩ := hv
  have hx := Bd.exec
  have hb := Bd.bytes
  have hr := Bd.returns
  have hlk := Bd.notSynchronized
  have hts : ∀ w ∈ gtb, w.before _ s = true := fun w hw => atoms_spec (ws := wj_cod) Bd.pre w (List.mem_cons_of_mem _ hw)
  have hown : s.vm.findClass "java/lang/String" = some m.cls := findClass_of_methodNamed Bd.named
  have hl := lv_entry [.ref (E i)] (n := 1) (Nat.le_of_ble_eq_true rfl)
  rw [lg_entry_eq]
  generalize (lg_sl [.ref (E i)] ++ List.replicate (1 - (lg_sl [.ref (E i)]).length) Slot.unset).toArray = ls at hl ⊢
  have hl : lv_has ls 1 [(0, .ref (E i))] := hl
  have hS : va_S (fun q => B ≤ q) s.heap s.heap [] := va_S.rf
  obtain ⟨hK, hZ, hT, hsr, hrr, hcs, hio, -⟩ := id hcw
  obtain ⟨g1, g2, g3, g4⟩ := hsr i hi
  refine va_gets (ref := "java/lang/String") hx hb hcs hS hown (hts _ (tblw (i := 538) (by decide +kernel) rfl)) (fun y hy => hy) dj_cod_0 ?_
  refine lv_if_eq (tgt := 13) hx hb dj_cod_3 (by decide) (fun c0 => absurd c0 (by decide)) (fun _ => ?_)
  refine lv_aload_n hx hb dj_cod_6 rfl (lv_at hl 0 rfl) ?_
  refine vk_getf (ref := "java/lang/String") hx hb g2 hS hown (hts _ (tblw (i := 1890) (by decide +kernel) rfl)) (fun y hy => hy) dj_cod_7 ?_
  refine lv_goto (tgt := 14) hx hb dj_cod_10 (by decide) ?_
  exact W.zret hx hb hr rfl (fun t ht _ => ⟨rfl, by rw [ht]; exact hP, hS.F ht⟩) hS.2.2 dj_cod_14 hlk
theorem cj_lat (l : Launch) (B : Nat) (D : va_G) (kc : Nat → ClassId) (E V : Nat → Nat) (X : XS) (i : Nat) (hi : i < 29) (H : HP) : MetJ l B D kc E V X yj_lat wj_lat 1 [.ref (E i)] (some (vI 1)) H := by
  refine Met.ofW (cc := prog_16_method_154_code) (maxL := 1) (ret := (some .boolean)) (ws' := gtb) (by decide) rfl ?_
  intro p e s m args below meth c s₁ Bd hml hv
  obtain ⟨rfl, hP, hcw, hz⟩ := hv
  have hx := Bd.exec
  have hb := Bd.bytes
  have hr := Bd.returns
  have hlk := Bd.notSynchronized
  have hts : ∀ w ∈ gtb, w.before _ s = true := fun w hw => atoms_spec (ws := wj_lat) Bd.pre w (List.mem_cons_of_mem _ hw)
  have hown : s.vm.findClass "java/lang/String" = some m.cls := findClass_of_methodNamed Bd.named
  have hl := lv_entry [.ref (E i)] (n := 1) (Nat.le_of_ble_eq_true rfl)
  rw [lg_entry_eq]
  generalize (lg_sl [.ref (E i)] ++ List.replicate (1 - (lg_sl [.ref (E i)]).length) Slot.unset).toArray = ls at hl ⊢
  have hl : lv_has ls 1 [(0, .ref (E i))] := hl
  have hS : va_S (fun q => B ≤ q) s.heap s.heap [] := va_S.rf
  obtain ⟨hK, hZ, hT, hsr, hrr, hcs, hio, -⟩ := id hcw
  obtain ⟨g1, g2, g3, g4⟩ := hsr i hi
  refine va_gets (ref := "java/lang/String") hx hb hcs hS hown (hts _ (tblw (i := 538) (by decide +kernel) rfl)) (fun y hy => hy) dj_lat_0 ?_
  refine lv_if_eq (tgt := 17) hx hb dj_lat_3 (by decide) (fun c0 => absurd c0 (by decide)) (fun _ => ?_)
  refine lv_aload_n hx hb dj_lat_6 rfl (lv_at hl 0 rfl) ?_
  refine vk_getf (ref := "java/lang/String") hx hb g2 hS hown (hts _ (tblw (i := 1890) (by decide +kernel) rfl)) (fun y hy => hy) dj_lat_7 ?_
  refine lv_if_ne (tgt := 17) hx hb dj_lat_10 (by decide) (fun c0 => absurd rfl c0) (fun _ => ?_)
  refine lv_iconst (v := 1) hx hb dj_lat_13 (by decide) ?_
  refine lv_goto (tgt := 18) hx hb dj_lat_14 (by decide) ?_
  exact W.zret hx hb hr rfl (fun t ht _ => ⟨rfl, by rw [ht]; exact hP, hS.F ht⟩) hS.2.2 dj_lat_18 hlk
theorem cj_pre (l : Launch) (B : Nat) (D : va_G) (kc : Nat → ClassId) (E V : Nat → Nat) (X : XS) (a b : Int32) (f : Value) (hf : f = .null ∨ ∃ q, f = .ref q) (h0 : ¬ a < 0) (h1 : a < b) (H : HP) : MetJ l B D kc E V X yj_pre wj_pre 1 [.int a, .int b, f] (some (vI a)) H := by
  have hfc : f.category = 1 := by rcases hf with rfl | ⟨q, rfl⟩ <;> rfl
  refine Met.ofW (cc := prog_20_method_11_code) (maxL := 3) (ret := some .int) (ws' := gtb) (by decide) rfl ?_
  intro p e s m args below meth c s₁ Bd hml hv
  obtain ⟨rfl, hP, hcw, hz⟩ := hv
  have hx := Bd.exec
  have hb := Bd.bytes
  have hr := Bd.returns
  have hlk := Bd.notSynchronized
  have hl := lv_entry [.int a, .int b, f] (n := 3) (by rcases hf with rfl | ⟨q, rfl⟩ <;> exact Nat.le_of_ble_eq_true rfl)
  rw [lg_entry_eq]
  generalize (lg_sl [.int a, .int b, f] ++ List.replicate (3 - (lg_sl [.int a, .int b, f]).length) Slot.unset).toArray = ls at hl ⊢
  have hl : lv_has ls 3 [(0, .int a), (1, .int b), (2, f)] := hl
  have hS : va_S (fun q => B ≤ q) s.heap s.heap [] := va_S.rf
  refine lv_iload_n hx hb dj_pre_0 rfl (lv_at hl 0 rfl) ?_
  refine lv_if_lt (tgt := 9) hx hb dj_pre_1 (by decide) (fun c0 => absurd c0 h0) (fun _ => ?_)
  refine lv_iload_n hx hb dj_pre_4 rfl (lv_at hl 0 rfl) ?_
  refine lv_iload_n hx hb dj_pre_5 rfl (lv_at hl 1 rfl) ?_
  refine lv_icmp_lt (tgt := 16) hx hb dj_pre_6 (by decide) (fun _ => ?_) (fun c0 => absurd h1 c0)
  refine lv_iload_n hx hb dj_pre_16 rfl (lv_at hl 0 rfl) ?_
  exact W.iret hx hb hr (fun t ht _ => ⟨rfl, by rw [ht]; exact hP, hS.F ht⟩) hS.2.2 dj_pre_17 hlk
theorem W_sz0 {T : TT} {B : Nat} {Hm : Heap} {locs : List Loc} {slots pc : Nat} {Q : State → Prop} {ls : Array Slot} {st : List Value} (hS : va_S (fun q => B ≤ q) T.2.2.2.2.1.heap Hm locs) (w : Hm.size = T.2.2.2.2.1.heap.size → WC T Hm locs (0 + 0) slots Q pc ls st) : WC T Hm locs (0 + 0) slots Q pc ls st := fun t ht X' => w (by
  have h1 := X'.heapSize
  rw [ht] at h1
  have h2 := hS.1
  omega) t ht X'
theorem sRecv {s : State} {Hm : Heap} {locs : List Loc} {a B : Nat} (h : va_O "java/lang/String" a (fun q => B ≤ q) s s.heap) (hS : va_S (fun q => B ≤ q) s.heap Hm locs) : ∃ cell : Cell, Hm[a]? = some cell ∧ cell.vm.isStatics = false ∧ s.vm.findClass "java/lang/String" = some cell.cls := by
  obtain ⟨cell, h1, h2, h3, -⟩ := h.kept hS.2.1
  exact ⟨cell, h1, h2, h3⟩
set_option maxRecDepth 20000 in
set_option maxHeartbeats 4000000 in
theorem cj_chk (l : Launch) (B : Nat) (D : va_G) (kc : Nat → ClassId) (E V : Nat → Nat) (X : XS) (a b : Int32) (h0 : ¬ a < 0) (h1 : a < b) (H : HP) : MetJ l B D kc E V X yj_chk wj_chk 2 [.int a, .int b] none H := by
  refine Met.ofW (cc := prog_16_method_155_code) (maxL := 2) (ret := none) (ws' := gtb) (by decide) rfl ?_
  intro p e s m args below meth c s₁ Bd hml hv
  obtain ⟨rfl, hP, hcw, hz⟩ := hv
  have hx := Bd.exec
  have hb := Bd.bytes
  have hr := Bd.returns
  have hlk := Bd.notSynchronized
  have hts : ∀ w ∈ gtb, w.before _ s = true := fun w hw => atoms_spec (ws := wj_chk) Bd.pre w (List.mem_cons_of_mem _ hw)
  have hown : s.vm.findClass "java/lang/String" = some m.cls := findClass_of_methodNamed Bd.named
  have hl := lv_entry [.int a, .int b] (n := 2) (Nat.le_of_ble_eq_true rfl)
  rw [lg_entry_eq]
  generalize (lg_sl [.int a, .int b] ++ List.replicate (2 - (lg_sl [.int a, .int b]).length) Slot.unset).toArray = ls at hl ⊢
  have hl : lv_has ls 2 [(0, .int a), (1, .int b)] := hl
  have hS : va_S (fun q => B ≤ q) s.heap s.heap [] := va_S.rf
  obtain ⟨f, hf, hfz⟩ : ∃ f : Value, (f = .null ∨ ∃ q, f = .ref q) ∧ va_Z "jdk/internal/util/Preconditions" "SIOOBE_FORMATTER" "Ljava/util/function/BiFunction;" f (fun q => B ≤ q) s s.heap := by
    rcases hcw.2.2.2.2.2.2.1 with h | ⟨t, h⟩
    · exact ⟨_, Or.inl rfl, h⟩
    · exact ⟨_, Or.inr ⟨t, rfl⟩, h⟩
  refine lv_iload_n hx hb dj_chk_0 rfl (lv_at hl 0 rfl) ?_
  refine lv_iload_n hx hb dj_chk_1 rfl (lv_at hl 1 rfl) ?_
  refine va_gets (ref := "jdk/internal/util/Preconditions") hx hb hfz hS hown (hts _ (tblw (i := 554) (by decide +kernel) rfl)) (fun y hy => hy) dj_chk_2 ?_
  refine callg (T := (p, l, e, (headSpec wj_chk (rmJ 2)).room, s, m, _, below, meth, c)) (H' := H) (r := some (vI a)) (mc := 0) (ms := 0) hcw.2.2.2.2.2.2.2.2.2.1 (va_runS (n := 3) (As := [.int a, .int b, f]) (rest := []) ⟨hx, hb, hml, hown, hts⟩ (cj_pre l B D kc E V X a b f hf h0 h1 H) ⟨callB_of _ hts (wj_good (i := 558) rfl) rfl rfl rfl (hts _ (tblw (i := 123) (by decide +kernel) rfl)) (hts _ (tblw (i := 556) (by decide +kernel) rfl)) ⟨by decide, by decide, by decide +kernel⟩ ⟨Nat.le_of_ble_eq_true rfl, Nat.le_of_ble_eq_true rfl⟩, hts _ (tblw (i := 557) (by decide +kernel) rfl)⟩ ⟨PcV_blind, fun U hU hW => ⟨rfl, by rw [hU]; exact hP, hcw.warm hW hU hS, by rw [hU]; exact hz⟩⟩ rfl rfl hl.1 rfl (lv_room (Nat.le_of_ble_eq_true rfl)) dj_chk_5 ⟨Nat.le_of_ble_eq_true rfl, Nat.le_of_ble_eq_true rfl⟩) hS fun H1 locs1 hP1 hS1 => ?_
  refine lv_pop hx hb dj_chk_8 rfl ?_
  exact W.vret hx hb hr (fun t ht _ => ⟨rfl, by rw [ht]; exact hP1, hS1.F ht⟩) hS1.2.2 dj_chk_9 hlk
theorem tx_all : (List.range 29).all (fun i => decide ((texts0.getD i []).length < 100) && (texts0.getD i []).all (fun x => decide (((x &&& 255).toUInt32 % 65536).toInt32 = x) && decide (narrow .char (.int x) = .int x))) = true := by decide +kernel
theorem tx_len (i : Nat) (hi : i < 29) : (texts0.getD i []).length < 2 ^ 31 := by
  have h := List.all_eq_true.mp tx_all i (List.mem_range.mpr hi)
  simp only [Bool.and_eq_true, decide_eq_true_eq] at h
  exact Nat.lt_of_lt_of_le h.1 (Nat.le_of_ble_eq_true rfl)
theorem tx_chr (i k : Nat) (hi : i < 29) : (((texts0.getD i []).getD k 0 &&& 255).toUInt32 % 65536).toInt32 = (texts0.getD i []).getD k 0 ∧ narrow .char (.int ((texts0.getD i []).getD k 0)) = .int ((texts0.getD i []).getD k 0) := by
  have h := List.all_eq_true.mp tx_all i (List.mem_range.mpr hi)
  simp only [Bool.and_eq_true, List.all_eq_true, decide_eq_true_eq] at h
  generalize texts0.getD i [] = tx at h ⊢
  by_cases hk : k < tx.length
  · have hm : tx.getD k 0 ∈ tx := by
      rw [List.getD_eq_getElem?_getD, List.getElem?_eq_getElem hk]
      exact List.getElem_mem hk
    exact h.2 _ hm
  · rw [List.getD_eq_getElem?_getD, List.getElem?_eq_none (Nat.not_lt.mp hk)]
    exact ⟨by decide, by decide⟩
set_option maxRecDepth 20000 in
set_option maxHeartbeats 4000000 in
theorem cj_lch (l : Launch) (B : Nat) (D : va_G) (kc : Nat → ClassId) (E V : Nat → Nat) (X : XS) (i : Nat) (hi : i < 29) (j : Int32) (hj : vp_in j (texts0.getD i []).length) (H : HP) : MetJ l B D kc E V X yj_lch wj_lch 3 [.ref (V i), .int j] (some (vI ((texts0.getD i []).getD j.toNatClampNeg 0))) H := by
  refine Met.ofW (cc := prog_17_method_2_code) (maxL := 2) (ret := (some .char)) (ws' := gtb) (by decide) rfl ?_
  intro p e s m args below meth c s₁ Bd hml hv
  obtain ⟨rfl, hP, hcw, hz⟩ := hv
  have hx := Bd.exec
  have hb := Bd.bytes
  have hr := Bd.returns
  have hlk := Bd.notSynchronized
  have hts : ∀ w ∈ gtb, w.before _ s = true := fun w hw => atoms_spec (ws := wj_lch) Bd.pre w (List.mem_cons_of_mem _ hw)
  have hown : s.vm.findClass "java/lang/StringLatin1" = some m.cls := findClass_of_methodNamed Bd.named
  have hl := lv_entry [.ref (V i), .int j] (n := 2) (Nat.le_of_ble_eq_true rfl)
  rw [lg_entry_eq]
  generalize (lg_sl [.ref (V i), .int j] ++ List.replicate (2 - (lg_sl [.ref (V i), .int j]).length) Slot.unset).toArray = ls at hl ⊢
  have hl : lv_has ls 2 [(0, .ref (V i)), (1, .int j)] := hl
  have hS : va_S (fun q => B ≤ q) s.heap s.heap [] := va_S.rf
  obtain ⟨hK, hZ, hT, hsr, hrr, hcs, hio, -⟩ := id hcw
  obtain ⟨g1, g2, g3, g4⟩ := hsr i hi
  have hn0 : ¬ j < 0 := fun q => hj (Or.inl q)
  have hlen : (texts0.getD i []).length < 2 ^ 31 := tx_len i hi
  have hlt : j < Int32.ofNat (texts0.getD i []).length := by
    rw [Int32.lt_iff_toInt_lt]
    have e1 : (Int32.ofNat (texts0.getD i []).length).toInt = ((texts0.getD i []).length : Int) := nI_toInt hlen
    rw [e1]
    have := vp_in_iff.mp hj
    exact this.2
  refine lv_iload_n hx hb dj_lch_0 rfl (lv_at hl 1 rfl) ?_
  refine lv_aload_n hx hb dj_lch_1 rfl (lv_at hl 0 rfl) ?_
  refine va_tlen hx hb g4 hS rfl dj_lch_2 ?_
  refine callg (T := (p, l, e, (headSpec wj_lch (rmJ 3)).room, s, m, _, below, meth, c)) (H' := H) (r := none) (mc := 0) (ms := 0) hcw.2.2.2.2.2.2.2.2.2.1 (va_runS (n := 2) (As := [.int j, .int (Int32.ofNat (texts0.getD i []).length)]) (rest := []) ⟨hx, hb, hml, hown, hts⟩ (cj_chk l B D kc E V X j _ hn0 hlt H) ⟨callB_of _ hts (wj_good (i := 553) rfl) rfl rfl rfl (hts _ (tblw (i := 121) (by decide +kernel) rfl)) (hts _ (tblw (i := 551) (by decide +kernel) rfl)) ⟨by decide, by decide, by decide +kernel⟩ ⟨Nat.le_of_ble_eq_true rfl, Nat.le_of_ble_eq_true rfl⟩, hts _ (tblw (i := 552) (by decide +kernel) rfl)⟩ ⟨PcV_blind, fun U hU hW => ⟨rfl, by rw [hU]; exact hP, hcw.warm hW hU hS, by rw [hU]; exact hz⟩⟩ rfl rfl hl.1 rfl (lv_room (Nat.le_of_ble_eq_true rfl)) dj_lch_3 ⟨Nat.le_of_ble_eq_true rfl, Nat.le_of_ble_eq_true rfl⟩) hS fun H1 locs1 hP1 hS1 => ?_
  refine lv_aload_n hx hb dj_lch_6 rfl (lv_at hl 0 rfl) ?_
  refine lv_iload_n hx hb dj_lch_7 rfl (lv_at hl 1 rfl) ?_
  refine va_tb hx hb g4 hS1 hj rfl dj_lch_8 ?_
  refine lv_sipush (v := 255) hx hb dj_lch_9 (by decide) ?_
  refine lv_iand hx hb dj_lch_12 ?_
  refine lv_i2c hx hb dj_lch_13 rfl ?_
  obtain ⟨e1, e2⟩ := tx_chr i j.toNatClampNeg hi
  rw [e1]
  exact W.zret hx hb hr e2 (fun t ht _ => ⟨rfl, by rw [ht]; exact hP1, hS1.F ht⟩) hS1.2.2 dj_lch_14 hlk
set_option maxRecDepth 20000 in
set_option maxHeartbeats 4000000 in
theorem cj_len (l : Launch) (B : Nat) (D : va_G) (kc : Nat → ClassId) (E V : Nat → Nat) (X : XS) (i : Nat) (hi : i < 29) (H : HP) : MetJ l B D kc E V X yj_len wj_len 2 [.ref (E i)] (some (vI (Int32.ofNat (texts0.getD i []).length))) H := by
  refine Met.ofW (cc := prog_16_method_54_code) (maxL := 1) (ret := (some .int)) (ws' := gtb) (by decide) rfl ?_
  intro p e s m args below meth c s₁ Bd hml hv
  obtain ⟨rfl, hP, hcw, hz⟩ := hv
  have hx := Bd.exec
  have hb := Bd.bytes
  have hr := Bd.returns
  have hlk := Bd.notSynchronized
  have hts : ∀ w ∈ gtb, w.before _ s = true := fun w hw => atoms_spec (ws := wj_len) Bd.pre w (List.mem_cons_of_mem _ hw)
  have hown : s.vm.findClass "java/lang/String" = some m.cls := findClass_of_methodNamed Bd.named
  have hl := lv_entry [.ref (E i)] (n := 1) (Nat.le_of_ble_eq_true rfl)
  rw [lg_entry_eq]
  generalize (lg_sl [.ref (E i)] ++ List.replicate (1 - (lg_sl [.ref (E i)]).length) Slot.unset).toArray = ls at hl ⊢
  have hl : lv_has ls 1 [(0, .ref (E i))] := hl
  have hS : va_S (fun q => B ≤ q) s.heap s.heap [] := va_S.rf
  obtain ⟨hK, hZ, hT, hsr, hrr, hcs, hio, -⟩ := id hcw
  obtain ⟨g1, g2, g3, g4⟩ := hsr i hi
  refine lv_aload_n hx hb dj_len_0 rfl (lv_at hl 0 rfl) ?_
  refine vk_getf (ref := "java/lang/String") hx hb g3 hS hown (hts _ (tblw (i := 1889) (by decide +kernel) rfl)) (fun y hy => hy) dj_len_1 ?_
  refine va_tlen hx hb g4 hS rfl dj_len_4 ?_
  refine lv_aload_n hx hb dj_len_5 rfl (lv_at hl 0 rfl) ?_
  refine callg (T := (p, l, e, (headSpec wj_len (rmJ 2)).room, s, m, _, below, meth, c)) (H' := H) (r := some (vI 0)) (mc := 0) (ms := 0) hcw.2.2.2.2.2.2.2.2.2.1 (va_runV (n := 0) (b := E i) (As := []) (rest := [.int (Int32.ofNat (texts0.getD i []).length)]) ⟨hx, hb, hml, hown, hts⟩ (cj_cod l B D kc E V X i hi H) ⟨callB_of _ hts (wj_good (i := 537) rfl) rfl rfl rfl (hts _ (tblw (i := 121) (by decide +kernel) rfl)) (hts _ (tblw (i := 534) (by decide +kernel) rfl)) ⟨by decide, by decide, by decide +kernel⟩ ⟨Nat.le_of_ble_eq_true rfl, Nat.le_of_ble_eq_true rfl⟩, hts _ (tblw (i := 535) (by decide +kernel) rfl), hts _ (tblw (i := 536) (by decide +kernel) rfl)⟩ ⟨PcV_blind, sRecv g1 hS, fun U hU hW => ⟨rfl, by rw [hU]; exact hP, hcw.warm hW hU hS, by rw [hU]; exact hz⟩⟩ rfl rfl hl.1 rfl (lv_room (Nat.le_of_ble_eq_true rfl)) dj_len_6 ⟨Nat.le_of_ble_eq_true rfl, Nat.le_of_ble_eq_true rfl⟩) hS fun H1 locs1 hP1 hS1 => ?_
  refine lv_ishr hx hb dj_len_9 ?_
  have ez : ∀ x : Int32, x >>> ((0 : Int32) &&& 31) = x := fun x => by simp
  rw [ez]
  exact W.iret hx hb hr (fun t ht _ => ⟨rfl, by rw [ht]; exact hP1, hS1.F ht⟩) hS1.2.2 dj_len_10 hlk
set_option maxRecDepth 20000 in
set_option maxHeartbeats 4000000 in
theorem cj_chr (l : Launch) (B : Nat) (D : va_G) (kc : Nat → ClassId) (E V : Nat → Nat) (X : XS) (i : Nat) (hi : i < 29) (j : Int32) (hj : vp_in j (texts0.getD i []).length) (H : HP) : MetJ l B D kc E V X yj_chr wj_chr 4 [.ref (E i), .int j] (some (vI ((texts0.getD i []).getD j.toNatClampNeg 0))) H := by
  refine Met.ofW (cc := prog_16_method_56_code) (maxL := 2) (ret := (some .char)) (ws' := gtb) (by decide) rfl ?_
  intro p e s m args below meth c s₁ Bd hml hv
  obtain ⟨rfl, hP, hcw, hz⟩ := hv
  have hx := Bd.exec
  have hb := Bd.bytes
  have hr := Bd.returns
  have hlk := Bd.notSynchronized
  have hts : ∀ w ∈ gtb, w.before _ s = true := fun w hw => atoms_spec (ws := wj_chr) Bd.pre w (List.mem_cons_of_mem _ hw)
  have hown : s.vm.findClass "java/lang/String" = some m.cls := findClass_of_methodNamed Bd.named
  have hl := lv_entry [.ref (E i), .int j] (n := 2) (Nat.le_of_ble_eq_true rfl)
  rw [lg_entry_eq]
  generalize (lg_sl [.ref (E i), .int j] ++ List.replicate (2 - (lg_sl [.ref (E i), .int j]).length) Slot.unset).toArray = ls at hl ⊢
  have hl : lv_has ls 2 [(0, .ref (E i)), (1, .int j)] := hl
  have hS : va_S (fun q => B ≤ q) s.heap s.heap [] := va_S.rf
  obtain ⟨hK, hZ, hT, hsr, hrr, hcs, hio, -⟩ := id hcw
  obtain ⟨g1, g2, g3, g4⟩ := hsr i hi
  refine lv_aload_n hx hb dj_chr_0 rfl (lv_at hl 0 rfl) ?_
  refine callg (T := (p, l, e, (headSpec wj_chr (rmJ 4)).room, s, m, _, below, meth, c)) (H' := H) (r := some (vI 1)) (mc := 0) (ms := 0) hcw.2.2.2.2.2.2.2.2.2.1 (va_runV (n := 0) (b := E i) (As := []) (rest := []) ⟨hx, hb, hml, hown, hts⟩ (cj_lat l B D kc E V X i hi H) ⟨callB_of _ hts (wj_good (i := 547) rfl) rfl rfl rfl (hts _ (tblw (i := 121) (by decide +kernel) rfl)) (hts _ (tblw (i := 544) (by decide +kernel) rfl)) ⟨by decide, by decide, by decide +kernel⟩ ⟨Nat.le_of_ble_eq_true rfl, Nat.le_of_ble_eq_true rfl⟩, hts _ (tblw (i := 545) (by decide +kernel) rfl), hts _ (tblw (i := 546) (by decide +kernel) rfl)⟩ ⟨PcV_blind, sRecv g1 hS, fun U hU hW => ⟨rfl, by rw [hU]; exact hP, hcw.warm hW hU hS, by rw [hU]; exact hz⟩⟩ rfl rfl hl.1 rfl (lv_room (Nat.le_of_ble_eq_true rfl)) dj_chr_1 ⟨Nat.le_of_ble_eq_true rfl, Nat.le_of_ble_eq_true rfl⟩) hS fun H1 locs1 hP1 hS1 => ?_
  refine lv_if_eq (tgt := 16) hx hb dj_chr_4 (by decide) (fun c0 => absurd c0 (by decide)) (fun _ => ?_)
  refine lv_aload_n hx hb dj_chr_7 rfl (lv_at hl 0 rfl) ?_
  refine vk_getf (ref := "java/lang/String") hx hb g3 hS1 hown (hts _ (tblw (i := 1889) (by decide +kernel) rfl)) (fun y hy => hy) dj_chr_8 ?_
  refine lv_iload_n hx hb dj_chr_11 rfl (lv_at hl 1 rfl) ?_
  refine W_sz0 (T := (p, l, e, (headSpec wj_chr (rmJ 4)).room, s, m, _, below, meth, c)) hS1 fun hz1 => ?_
  have hz2 := hz1.trans hz
  refine callg (T := (p, l, e, (headSpec wj_chr (rmJ 4)).room, s, m, _, below, meth, c)) (H' := H) (r := some (vI ((texts0.getD i []).getD j.toNatClampNeg 0))) (mc := 0) (ms := 0) hcw.2.2.2.2.2.2.2.2.2.1 (va_runS (n := 2) (As := [.ref (V i), .int j]) (rest := []) ⟨hx, hb, hml, hown, hts⟩ (cj_lch l B D kc E V X i hi j hj H) ⟨callB_of _ hts (wj_good (i := 550) rfl) rfl rfl rfl (hts _ (tblw (i := 122) (by decide +kernel) rfl)) (hts _ (tblw (i := 548) (by decide +kernel) rfl)) ⟨by decide, by decide, by decide +kernel⟩ ⟨Nat.le_of_ble_eq_true rfl, Nat.le_of_ble_eq_true rfl⟩, hts _ (tblw (i := 549) (by decide +kernel) rfl)⟩ ⟨PcV_blind, fun U hU hW => ⟨rfl, by rw [hU]; exact hP1, hcw.warm hW hU hS1, by rw [hU]; exact hz2⟩⟩ rfl rfl hl.1 rfl (lv_room (Nat.le_of_ble_eq_true rfl)) dj_chr_12 ⟨Nat.le_of_ble_eq_true rfl, Nat.le_of_ble_eq_true rfl⟩) hS1 fun H2 locs2 hP2 hS2 => ?_
  exact W.zret hx hb hr (tx_chr i j.toNatClampNeg hi).2 (fun t ht _ => ⟨rfl, by rw [ht]; exact hP2, hS2.F ht⟩) hS2.2.2 dj_chr_15 hlk
