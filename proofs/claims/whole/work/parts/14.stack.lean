/-! THE MACHINE'S PLACE IN A METHOD, and the rows of the instructions that change the stack alone -/
abbrev TT : Type := Program × Launch × Env × Room × State × MethodId × Array Value × List Frame × Method × Code
abbrev WC (T : TT) (H : Heap) (locs : List Loc) (cells slots : Nat) (Q : State → Prop) (pc : Nat) (ls : Array Slot) (st : List Value) : Prop := W T.1 T.2.1 T.2.2.1 T.2.2.2.1 T.2.2.2.2.1 T.2.2.2.2.2.1 T.2.2.2.2.2.2.1 T.2.2.2.2.2.2.2.1 T.2.2.2.2.2.2.2.2.1 T.2.2.2.2.2.2.2.2.2 H locs cells slots Q (F0 T.2.2.2.2.2.1 pc ls st)
/-- the words that a callee takes over from its caller -/
def gtb : List Cond := lw_tbl.filter goodWord
def isNest : Cond → Bool
  | .methodLinkNest .. => true
  | .fieldLinkNest .. => true
  | _ => false
/-- a text constant: an ordinary String of Latin-1 -/
def sOk (i : Nat) (E V : Nat → Nat) (A : Nat → Prop) (U : State) (H : Heap) : Prop := va_O "java/lang/String" (E i) A U H ∧ va_OF "java/lang/String" "coder" "B" (.int 0) (E i) A U H ∧ va_OF "java/lang/String" "value" "[B" (.ref (V i)) (E i) A U H ∧ va_T .byte (V i) (texts0.getD i []).length (fun j => .int ((texts0.getD i []).getD j 0)) A U H
/-- the constants around a method: classes, the static row, text constants, the script -/
def CW (B : Nat) (D : va_G) (kc : Nat → ClassId) (E V : Nat → Nat) (X : XS) (U : State) : Prop :=
  va_K D CLS [(kc 0, .int), (kc 1, .boolean), (kc 2, .long), (kc 3, .object "ItalicsLean$Text")] U ∧
  va_Z "ItalicsLean" "FACTORIAL" "[I" (.ref (E 100)) (fun q => B ≤ q) U U.heap ∧
  va_T .int (E 100) 6 (fun j => .int (facN.getD j 0)) (fun q => B ≤ q) U U.heap ∧
  (∀ i, i < 29 → sOk i E V (fun q => B ≤ q) U U.heap) ∧
  (∀ i q, STL[i]? = some q → vk_R "ItalicsLean$Reader" q.1 q.2.1 (E i) U) ∧
  va_Z "java/lang/String" "COMPACT_STRINGS" "Z" (.int 1) (fun q => B ≤ q) U U.heap ∧
  va_Zq "jdk/internal/util/Preconditions" "SIOOBE_FORMATTER" "Ljava/util/function/BiFunction;" (fun q => B ≤ q) U U.heap ∧
  va_X (E 101) X.1 X.2 U U.heap ∧ E 101 < B ∧ B ≤ U.heap.size ∧ (∀ w ∈ lw_tbl, isNest w = true → va_Nw w U) ∧ va_AO "ItalicsLean$Text" U
/-- a method's own: the machine, its code, its class, the words, the constants, how many cells there were, room -/
def Cx (T : TT) (own n : Nat) (isI : Bool) (cc : ByteArray) (B N0 : Nat) (D : va_G) (kc : Nat → ClassId) (E V : Nat → Nat) (X : XS) : Prop :=
  T.1.tables.exec = Jvm.exec ∧ T.2.2.2.2.2.2.2.2.2.code = cc ∧ T.2.2.2.2.2.2.2.2.2.maxLocals = n ∧ T.2.2.2.2.1.vm.findClass (RN own) = some T.2.2.2.2.2.1.cls ∧ (∀ w ∈ gtb, w.before T.2.2.2.2.2.2.1 T.2.2.2.2.1 = true) ∧ T.2.2.2.2.2.2.2.2.1.locks = false ∧ (isI = true → T.2.2.2.2.2.2.2.2.1.name = "<init>") ∧ CW B D kc E V X T.2.2.2.2.1 ∧ T.2.2.2.2.1.heap.size = B + N0 ∧ 9 ≤ T.2.2.2.1.frames ∧ 400 ≤ T.2.2.2.1.locals
theorem tI_inv {S : ST} {k : Int32 → ST → RR} {x : Option AV × HP} (h : tI S k = some x) : ∃ a S', S = vI a :: S' ∧ k a S' = some x := by
  unfold tI at h
  split at h
  · exact ⟨_, _, rfl, h⟩
  · cases h
theorem tL_inv {S : ST} {k : Int64 → ST → RR} {x : Option AV × HP} (h : tL S k = some x) : ∃ a S', S = vL a :: S' ∧ k a S' = some x := by
  unfold tL at h
  split at h
  · exact ⟨_, _, rfl, h⟩
  · cases h
theorem tP_inv {S : ST} {k : Option Nat → ST → RR} {x : Option AV × HP} (h : tP S k = some x) : ∃ a S', S = vP a :: S' ∧ k a S' = some x := by
  unfold tP at h
  split at h
  · exact ⟨_, _, rfl, h⟩
  · cases h
theorem tN_inv {S : ST} {k : Nat → ST → RR} {x : Option AV × HP} (h : tN S k = some x) : ∃ a S', S = vP (some a) :: S' ∧ k a S' = some x := by
  unfold tN at h
  split at h
  · exact ⟨_, _, rfl, h⟩
  · cases h
theorem cat_cv (E : Nat → Nat) (B : Nat) (v : AV) : (cv E B v).category = cat1 v := by
  match v with
  | .inl x => rfl
  | .inr (.inl x) => rfl
  | .inr (.inr (.inl none)) => rfl
  | .inr (.inr (.inl (some n))) => rfl
  | .inr (.inr (.inr e)) => rfl
theorem cat_1 {v : AV} (h : isL v = false) : cat1 v = 1 := by
  match v, h with
  | .inl x, _ => rfl
  | .inr (.inr x), _ => rfl
theorem t1_inv {S : ST} {k : AV → ST → RR} {x : Option AV × HP} (h : t1 S k = some x) : ∃ v S', S = v :: S' ∧ cat1 v = 1 ∧ k v S' = some x := by
  unfold t1 at h
  split at h
  · rename_i v S'
    cases hv : isL v with
    | true => rw [hv] at h; cases h
    | false => rw [hv] at h; exact ⟨v, S', rfl, cat_1 hv, h⟩
  · cases h
theorem i2_inv {S : ST} {f : Int32 → Int32 → Int32} {k : ST → RR} {x : Option AV × HP} (h : i2 S f k = some x) : ∃ a b S', S = vI b :: vI a :: S' ∧ k (vI (f a b) :: S') = some x := by
  obtain ⟨b, S1, rfl, h_1⟩ := tI_inv h
  obtain ⟨a, S2, rfl, h_2⟩ := tI_inv h_1
  exact ⟨a, b, S2, rfl, h_2⟩
theorem l2_inv {S : ST} {f : Int64 → Int64 → Int64} {k : ST → RR} {x : Option AV × HP} (h : l2 S f k = some x) : ∃ a b S', S = vL b :: vL a :: S' ∧ k (vL (f a b) :: S') = some x := by
  obtain ⟨b, S1, rfl, h_1⟩ := tL_inv h
  obtain ⟨a, S2, rfl, h_2⟩ := tL_inv h_1
  exact ⟨a, b, S2, rfl, h_2⟩
theorem ls2_inv {S : ST} {f : Int64 → Int32 → Int64} {k : ST → RR} {x : Option AV × HP} (h : ls2 S f k = some x) : ∃ a b S', S = vI b :: vL a :: S' ∧ k (vL (f a b) :: S') = some x := by
  obtain ⟨b, S1, rfl, h_1⟩ := tI_inv h
  obtain ⟨a, S2, rfl, h_2⟩ := tL_inv h_1
  exact ⟨a, b, S2, rfl, h_2⟩
theorem ite_inv {c : Prop} {d : Decidable c} {k : RR} {x : Option AV × HP} (h : @ite _ c d none k = some x) : ¬ c ∧ k = some x := by
  by_cases hc : c
  · rw [if_pos hc] at h; cases h
  · rw [if_neg hc] at h; exact ⟨hc, h⟩
theorem any_inv {α : Type} {l : List α} {f : α → Bool} (h : l.any f = true) : ∃ a ∈ l, f a = true := List.any_eq_true.mp h
theorem tbw {i : Nat} {w : Cond} (h : lw_tbl[i]? = some w) : w ∈ lw_tbl := List.mem_of_getElem? h
theorem tblw {i : Nat} {w : Cond} (h : lw_tbl[i]? = some w) (hg : goodWord w = true) : w ∈ gtb := List.mem_filter.mpr ⟨List.mem_of_getElem? h, hg⟩

set_option maxHeartbeats 4000000 in
theorem opS_ok {T : TT} {own n : Nat} {isI : Bool} {cc : ByteArray} {B N0 : Nat} {D : va_G} {kc : Nat → ClassId} {E V : Nat → Nat} {X : XS} (C : Cx T own n isI cc B N0 D kc E V X) {pc : Nat} {i : Instr} {len : Nat} {ax : List Nat} {cI : Int32} {cL : Int64} (hd : decode cc pc = .ok (i, len)) (hk : len = lenF i len ∧ axOk own isI pc i ax cI cL = true) {S : ST} {k : ST → RR} {x : Option AV × HP} (h : opS i ax cI cL S k = some x) :
    ∃ S', k S' = some x ∧ ∀ (Hm : Heap) (locs : List Loc) (cells slots : Nat) (Q : State → Prop) (ls : Array Slot), WC T Hm locs cells slots Q (pc + len) ls (S'.map (cv E B)) → WC T Hm locs cells slots Q pc ls (S.map (cv E B)) := by
  cases i with
  | iadd =>
    obtain rfl : len = 1 := by simpa [chk, lenF, axOk] using hk.1
    obtain ⟨a, b, S', rfl, h⟩ := i2_inv h
    exact ⟨_, h, fun _ _ _ _ _ _ w => lv_iadd C.1 C.2.1 hd w⟩
  | isub =>
    obtain rfl : len = 1 := by simpa [chk, lenF, axOk] using hk.1
    obtain ⟨a, b, S', rfl, h⟩ := i2_inv h
    exact ⟨_, h, fun _ _ _ _ _ _ w => lv_isub C.1 C.2.1 hd w⟩
  | imul =>
    obtain rfl : len = 1 := by simpa [chk, lenF, axOk] using hk.1
    obtain ⟨a, b, S', rfl, h⟩ := i2_inv h
    exact ⟨_, h, fun _ _ _ _ _ _ w => lv_imul C.1 C.2.1 hd w⟩
  | iand =>
    obtain rfl : len = 1 := by simpa [chk, lenF, axOk] using hk.1
    obtain ⟨a, b, S', rfl, h⟩ := i2_inv h
    exact ⟨_, h, fun _ _ _ _ _ _ w => lv_iand C.1 C.2.1 hd w⟩
  | ior =>
    obtain rfl : len = 1 := by simpa [chk, lenF, axOk] using hk.1
    obtain ⟨a, b, S', rfl, h⟩ := i2_inv h
    exact ⟨_, h, fun _ _ _ _ _ _ w => lv_ior C.1 C.2.1 hd w⟩
  | ixor =>
    obtain rfl : len = 1 := by simpa [chk, lenF, axOk] using hk.1
    obtain ⟨a, b, S', rfl, h⟩ := i2_inv h
    exact ⟨_, h, fun _ _ _ _ _ _ w => lv_ixor C.1 C.2.1 hd w⟩
  | ishl =>
    obtain rfl : len = 1 := by simpa [chk, lenF, axOk] using hk.1
    obtain ⟨a, b, S', rfl, h⟩ := i2_inv h
    exact ⟨_, h, fun _ _ _ _ _ _ w => lv_ishl C.1 C.2.1 hd w⟩
  | ishr =>
    obtain rfl : len = 1 := by simpa [chk, lenF, axOk] using hk.1
    obtain ⟨a, b, S', rfl, h⟩ := i2_inv h
    exact ⟨_, h, fun _ _ _ _ _ _ w => lv_ishr C.1 C.2.1 hd w⟩
  | iushr =>
    obtain rfl : len = 1 := by simpa [chk, lenF, axOk] using hk.1
    obtain ⟨a, b, S', rfl, h⟩ := i2_inv h
    exact ⟨_, h, fun _ _ _ _ _ _ w => lv_iushr C.1 C.2.1 hd rfl w⟩
  | ladd =>
    obtain rfl : len = 1 := by simpa [chk, lenF, axOk] using hk.1
    obtain ⟨a, b, S', rfl, h⟩ := l2_inv h
    exact ⟨_, h, fun _ _ _ _ _ _ w => lv_ladd C.1 C.2.1 hd w⟩
  | lsub =>
    obtain rfl : len = 1 := by simpa [chk, lenF, axOk] using hk.1
    obtain ⟨a, b, S', rfl, h⟩ := l2_inv h
    exact ⟨_, h, fun _ _ _ _ _ _ w => lv_lsub C.1 C.2.1 hd w⟩
  | lmul =>
    obtain rfl : len = 1 := by simpa [chk, lenF, axOk] using hk.1
    obtain ⟨a, b, S', rfl, h⟩ := l2_inv h
    exact ⟨_, h, fun _ _ _ _ _ _ w => lv_lmul C.1 C.2.1 hd w⟩
  | lor =>
    obtain rfl : len = 1 := by simpa [chk, lenF, axOk] using hk.1
    obtain ⟨a, b, S', rfl, h⟩ := l2_inv h
    exact ⟨_, h, fun _ _ _ _ _ _ w => lv_lor C.1 C.2.1 hd w⟩
  | land =>
    obtain rfl : len = 1 := by simpa [chk, lenF, axOk] using hk.1
    obtain ⟨a, b, S', rfl, h⟩ := l2_inv h
    exact ⟨_, h, fun _ _ _ _ _ _ w => lv_land C.1 C.2.1 hd w⟩
  | lshl =>
    obtain rfl : len = 1 := by simpa [chk, lenF, axOk] using hk.1
    obtain ⟨a, b, S', rfl, h⟩ := ls2_inv h
    exact ⟨_, h, fun _ _ _ _ _ _ w => lv_lshl C.1 C.2.1 hd rfl w⟩
  | lshr =>
    obtain rfl : len = 1 := by simpa [chk, lenF, axOk] using hk.1
    obtain ⟨a, b, S', rfl, h⟩ := ls2_inv h
    exact ⟨_, h, fun _ _ _ _ _ _ w => lv_lshr C.1 C.2.1 hd rfl w⟩
  | ineg =>
    obtain rfl : len = 1 := by simpa [chk, lenF, axOk] using hk.1
    obtain ⟨a, S', rfl, h⟩ := tI_inv h
    exact ⟨_, h, fun _ _ _ _ _ _ w => lv_ineg C.1 C.2.1 hd w⟩
  | lneg =>
    obtain rfl : len = 1 := by simpa [chk, lenF, axOk] using hk.1
    obtain ⟨a, S', rfl, h⟩ := tL_inv h
    exact ⟨_, h, fun _ _ _ _ _ _ w => lv_lneg C.1 C.2.1 hd w⟩
  | idiv =>
    obtain rfl : len = 1 := by simpa [chk, lenF, axOk] using hk.1
    obtain ⟨b, S1, rfl, h⟩ := tI_inv h
    obtain ⟨a, S2, rfl, h⟩ := tI_inv h
    obtain ⟨hne, h_1⟩ := ite_inv h
    exact ⟨_, h_1, fun _ _ _ _ _ _ w => lv_idiv C.1 C.2.1 hd hne w⟩
  | irem =>
    obtain rfl : len = 1 := by simpa [chk, lenF, axOk] using hk.1
    obtain ⟨b, S1, rfl, h⟩ := tI_inv h
    obtain ⟨a, S2, rfl, h⟩ := tI_inv h
    obtain ⟨hne, h_1⟩ := ite_inv h
    exact ⟨_, h_1, fun _ _ _ _ _ _ w => lv_irem C.1 C.2.1 hd hne w⟩
  | ldiv =>
    obtain rfl : len = 1 := by simpa [chk, lenF, axOk] using hk.1
    obtain ⟨b, S1, rfl, h⟩ := tL_inv h
    obtain ⟨a, S2, rfl, h⟩ := tL_inv h
    obtain ⟨hne, h_1⟩ := ite_inv h
    exact ⟨_, h_1, fun _ _ _ _ _ _ w => lv_ldiv C.1 C.2.1 hd hne w⟩
  | lrem =>
    obtain rfl : len = 1 := by simpa [chk, lenF, axOk] using hk.1
    obtain ⟨b, S1, rfl, h⟩ := tL_inv h
    obtain ⟨a, S2, rfl, h⟩ := tL_inv h
    obtain ⟨hne, h_1⟩ := ite_inv h
    exact ⟨_, h_1, fun _ _ _ _ _ _ w => lv_lrem C.1 C.2.1 hd hne w⟩
  | i2l =>
    obtain rfl : len = 1 := by simpa [chk, lenF, axOk] using hk.1
    obtain ⟨a, S', rfl, h⟩ := tI_inv h
    exact ⟨_, h, fun _ _ _ _ _ _ w => lv_i2l C.1 C.2.1 hd rfl w⟩
  | l2i =>
    obtain rfl : len = 1 := by simpa [chk, lenF, axOk] using hk.1
    obtain ⟨a, S', rfl, h⟩ := tL_inv h
    exact ⟨_, h, fun _ _ _ _ _ _ w => lv_l2i C.1 C.2.1 hd rfl w⟩
  | lcmp =>
    obtain rfl : len = 1 := by simpa [chk, lenF, axOk] using hk.1
    obtain ⟨b, S1, rfl, h⟩ := tL_inv h
    obtain ⟨a, S2, rfl, h_1⟩ := tL_inv h
    exact ⟨_, h_1, fun _ _ _ _ _ _ w => W.lcmp C.1 C.2.1 hd w⟩
  | dup =>
    obtain rfl : len = 1 := by simpa [chk, lenF, axOk] using hk.1
    obtain ⟨v, S', rfl, hv, h⟩ := t1_inv h
    exact ⟨_, h, fun _ _ _ _ _ _ w => lv_dup C.1 C.2.1 hd ((cat_cv E B v).trans hv) w⟩
  | pop =>
    obtain rfl : len = 1 := by simpa [chk, lenF, axOk] using hk.1
    obtain ⟨v, S', rfl, hv, h⟩ := t1_inv h
    exact ⟨_, h, fun _ _ _ _ _ _ w => lv_pop C.1 C.2.1 hd ((cat_cv E B v).trans hv) w⟩
  | dup2 =>
    obtain rfl : len = 1 := by simpa [chk, lenF, axOk] using hk.1
    obtain ⟨v, S1, rfl, hv, h⟩ := t1_inv h
    obtain ⟨u, S2, rfl, hu, h_1⟩ := t1_inv h
    exact ⟨_, h_1, fun _ _ _ _ _ _ w => lv_dup2_11 C.1 C.2.1 hd ((cat_cv E B v).trans hv) ((cat_cv E B u).trans hu) w⟩
  | iconst k =>
    obtain rfl : len = 1 := by simpa [chk, lenF, axOk] using hk.1
    have hc := of_decide_eq_true hk.2
    exact ⟨_, h, fun _ _ _ _ _ _ w => lv_iconst C.1 C.2.1 hd hc w⟩
  | bipush k =>
    obtain rfl : len = 2 := by simpa [chk, lenF, axOk] using hk.1
    have hc := of_decide_eq_true hk.2
    exact ⟨_, h, fun _ _ _ _ _ _ w => lv_bipush C.1 C.2.1 hd hc w⟩
  | sipush k =>
    obtain rfl : len = 3 := by simpa [chk, lenF, axOk] using hk.1
    have hc := of_decide_eq_true hk.2
    exact ⟨_, h, fun _ _ _ _ _ _ w => lv_sipush C.1 C.2.1 hd hc w⟩
  | lconst k =>
    obtain rfl : len = 1 := by simpa [chk, lenF, axOk] using hk.1
    have hc := of_decide_eq_true hk.2
    exact ⟨_, h, fun _ _ _ _ _ _ w => lv_lconst C.1 C.2.1 hd hc w⟩
  | aconst_null =>
    obtain rfl : len = 1 := by simpa [chk, lenF, axOk] using hk.1
    exact ⟨_, h, fun _ _ _ _ _ _ w => lv_null C.1 C.2.1 hd w⟩
  | ldc_w ix =>
    obtain rfl : len = 3 := by simpa [chk, lenF, axOk] using hk.1
    obtain ⟨q, hq, hf⟩ := any_inv hk.2
    simp only [Bool.and_eq_true, decide_eq_true_eq, Nat.beq_eq] at hf
    obtain ⟨⟨rfl, rfl⟩, rfl⟩ := hf
    have hw := of_decide_eq_true (List.all_eq_true.mp CST_ok q hq)
    exact ⟨_, h, fun _ _ _ _ _ _ w => lv_ldcw C.1 C.2.1 C.2.2.2.1 (C.2.2.2.2.1 _ (tblw hw rfl)) hd w⟩
  | ldc2_w ix =>
    obtain rfl : len = 3 := by simpa [chk, lenF, axOk] using hk.1
    obtain ⟨q, hq, hf⟩ := any_inv hk.2
    simp only [Bool.and_eq_true, decide_eq_true_eq, Nat.beq_eq] at hf
    obtain ⟨⟨rfl, rfl⟩, rfl⟩ := hf
    have hw := of_decide_eq_true (List.all_eq_true.mp CSL_ok q hq)
    exact ⟨_, h, fun _ _ _ _ _ _ w => lv_ldc2 C.1 C.2.1 C.2.2.2.1 (C.2.2.2.2.1 _ (tblw hw rfl)) hd w⟩
  | ldc ix =>
    obtain rfl : len = 2 := by simpa [chk, lenF, axOk] using hk.1
    match ax, h, hk with
    | [], h, hk =>
      obtain ⟨q, hq, hf⟩ := any_inv hk.2
      simp only [Bool.and_eq_true, decide_eq_true_eq, Nat.beq_eq] at hf
      obtain ⟨⟨rfl, rfl⟩, rfl⟩ := hf
      have hw := of_decide_eq_true (List.all_eq_true.mp CST_ok q hq)
      exact ⟨_, h, fun _ _ _ _ _ _ w => lv_ldc C.1 C.2.1 C.2.2.2.1 (C.2.2.2.2.1 _ (tblw hw rfl)) hd w⟩
    | j :: r, h, hk =>
      have h2 := hk.2
      simp only [axOk, Bool.and_eq_true, Nat.beq_eq, nth_eq] at h2
      obtain ⟨rfl, h2⟩ := h2
      split at h2
      · rename_i q hq
        rw [Nat.beq_eq] at h2
        subst h2
        exact ⟨_, h, fun _ _ _ _ _ _ w => va_ldcS (own := RN 4) (q := E j) C.1 C.2.1 C.2.2.2.1 (C.2.2.2.2.2.2.2.1.2.2.2.2.1 j q hq) hd w⟩
      · cases h2
  | _ => exact absurd h (by simp [opS])
