/-! WORDS: how the reference packs letters; one to one for the words that are asked for -/
def lW (n : Nat) : Int64 := Int64.ofNat n
def pkN : Nat → List Nat → Nat
  | a, [] => a
  | a, b :: l => pkN (if a < 281474976710656 then 256 * a + b else 1152921504606846976) l
def bts (B : Nat → Nat) : Nat → Nat → List Nat
  | 0, _ => []
  | c + 1, p => B p :: bts B c (p + 1)
theorem bts_len (B : Nat → Nat) : ∀ c p, (bts B c p).length = c
  | 0, _ => rfl
  | c + 1, p => by rw [show bts B (c + 1) p = B p :: bts B c (p + 1) from rfl, List.length_cons, bts_len B c]
theorem lW_b : ∀ b, b < 256 → (nI b).toInt64 = lW b := by decide +kernel
theorem lW_sl {a b : Nat} (ha : a < 281474976710656) (hb : b < 256) : (lW a <<< ((8 : Int32).toInt64 &&& 63)) ||| (nI b).toInt64 = lW (256 * a + b) := by
  rw [lW_b b hb]
  apply Int64.toBitVec_inj.mp
  show (BitVec.ofNat 64 a) <<< 8 ||| BitVec.ofNat 64 b = BitVec.ofNat 64 (256 * a + b)
  apply BitVec.eq_of_toNat_eq
  rw [BitVec.toNat_or, BitVec.toNat_shiftLeft, BitVec.toNat_ofNat, BitVec.toNat_ofNat, BitVec.toNat_ofNat, Nat.mod_eq_of_lt (show a < 2 ^ 64 by omega), Nat.mod_eq_of_lt (show b < 2 ^ 64 by omega), Nat.mod_eq_of_lt (show 256 * a + b < 2 ^ 64 by omega), Nat.mod_eq_of_lt (show a <<< 8 < 2 ^ 64 by rw [Nat.shiftLeft_eq]; omega), ← Nat.shiftLeft_add_eq_or_of_lt (by omega), Nat.shiftLeft_eq]
  omega
theorem lW_sr {a : Nat} (ha : a < 9223372036854775808) : lW a >>> ((48 : Int32).toInt64 &&& 63) = lW (a / 281474976710656) := by
  apply Int64.toBitVec_inj.mp
  show (BitVec.ofNat 64 a).sshiftRight 48 = BitVec.ofNat 64 (a / 281474976710656)
  rw [BitVec.sshiftRight_eq_of_msb_false (by rw [BitVec.msb_eq_decide, BitVec.toNat_ofNat, Nat.mod_eq_of_lt (by omega)]; exact decide_eq_false (by omega))]
  apply BitVec.eq_of_toNat_eq
  rw [BitVec.toNat_ushiftRight, BitVec.toNat_ofNat, BitVec.toNat_ofNat, Nat.mod_eq_of_lt (show a < 2 ^ 64 by omega), Nat.mod_eq_of_lt (show a / 281474976710656 < 2 ^ 64 by omega), Nat.shiftRight_eq_div_pow]
theorem lW_inj {a b : Nat} (ha : a < 9223372036854775808) (hb : b < 9223372036854775808) : lW a = lW b ↔ a = b := by
  refine ⟨fun e => ?_, fun e => by rw [e]⟩
  have := congrArg (fun x => x.toBitVec.toNat) e
  change (BitVec.ofNat 64 a).toNat = (BitVec.ofNat 64 b).toNat at this
  rw [BitVec.toNat_ofNat, BitVec.toNat_ofNat, Nat.mod_eq_of_lt (by omega), Nat.mod_eq_of_lt (by omega)] at this
  exact this
def okW (a : Nat) : Prop := a < 72057594037927936 ∨ a = 1152921504606846976
theorem okW_s {a b : Nat} (hb : b < 256) : okW (if a < 281474976710656 then 256 * a + b else 1152921504606846976) := by
  split
  · exact Or.inl (by omega)
  · exact Or.inr rfl
theorem lW_st {a b : Nat} (ha : okW a) (hb : b < 256) : (if lg_cmp (lW a >>> ((48 : Int32).toInt64 &&& 63)) 0 = 0 then (lW a <<< ((8 : Int32).toInt64 &&& 63)) ||| (nI b).toInt64 else 1152921504606846976) = lW (if a < 281474976710656 then 256 * a + b else 1152921504606846976) := by
  have hl : a < 9223372036854775808 := by rcases ha with h | h <;> omega
  rw [lW_sr hl]
  by_cases g : a < 281474976710656
  · rw [if_pos g, if_pos ((lg_cmp_eq (lW (a / 281474976710656)) 0).mpr ((lW_inj (a := a / 281474976710656) (b := 0) (by omega) (by omega)).mpr (by omega))), lW_sl g hb]
  · rw [if_neg g, if_neg (fun y => g (by have := (lW_inj (b := 0) (by omega) (by omega)).mp ((lg_cmp_eq _ _).mp y); omega))]
    rfl
theorem wnd_ge {B : Nat → Nat} {L : Nat} : ∀ c p, p ≤ wnd B L c p
  | 0, p => Nat.le_refl _
  | c + 1, p => by
    unfold wnd
    cases decide (p < L) && letB (B p) with
    | false => exact Nat.le_refl _
    | true => have := wnd_ge (B := B) (L := L) c (p + 1); exact Nat.le_trans (by omega) this
theorem wdL_N {B : Nat → Nat} {L : Nat} (hB : ∀ p, p < L → B p < 256) : ∀ (c p a : Nat), okW a → wdL B L c p (lW a) = lW (pkN a (bts B (wnd B L c p - p) p))
  | 0, p, a, ha => by
    show lW a = lW (pkN a (bts B (p - p) p))
    rw [Nat.sub_self]
    rfl
  | c + 1, p, a, ha => by
    unfold wdL wnd
    cases hb : decide (p < L) && letB (B p) with
    | false =>
      rw [cond_false, cond_false, Nat.sub_self]
      rfl
    | true =>
      rw [Bool.and_eq_true, decide_eq_true_eq] at hb
      have h1 := wnd_ge (B := B) (L := L) c (p + 1)
      rw [cond_true, cond_true, lW_st ha (hB p hb.1), wdL_N hB c (p + 1) _ (okW_s (hB p hb.1)), show wnd B L c (p + 1) - p = wnd B L c (p + 1) - (p + 1) + 1 by omega]
      rfl
def vlN : List Nat → Nat
  | [] => 0
  | b :: l => b * 256 ^ l.length + vlN l
theorem vlN_lt : ∀ l : List Nat, (∀ b ∈ l, b < 256) → vlN l < 256 ^ l.length
  | [], _ => by decide
  | b :: l, h => by
    have h1 := vlN_lt l (fun c hc => h c (List.mem_cons_of_mem _ hc))
    have h2 := h b List.mem_cons_self
    show b * 256 ^ l.length + vlN l < 256 ^ (l.length + 1)
    rw [Nat.pow_succ]
    have : b * 256 ^ l.length ≤ 255 * 256 ^ l.length := Nat.mul_le_mul_right _ (by omega)
    omega
theorem vlN_inj : ∀ (l m : List Nat), l.length = m.length → (∀ b ∈ l, b < 256) → (∀ b ∈ m, b < 256) → vlN l = vlN m → l = m
  | [], [], _, _, _, _ => rfl
  | [], _ :: _, h, _, _, _ => by simp at h
  | _ :: _, [], h, _, _, _ => by simp at h
  | b :: l, c :: m, h, h1, h2, h3 => by
    have hl : l.length = m.length := by simpa using h
    have k1 := vlN_lt l (fun x hx => h1 x (List.mem_cons_of_mem _ hx))
    have k2 := vlN_lt m (fun x hx => h2 x (List.mem_cons_of_mem _ hx))
    have h4 : b * 256 ^ m.length + vlN l = c * 256 ^ m.length + vlN m := by
      have : b * 256 ^ l.length + vlN l = c * 256 ^ m.length + vlN m := h3
      rw [hl] at this
      exact this
    rw [hl] at k1
    have e1 : b = c := by
      have q1 : (b * 256 ^ m.length + vlN l) / 256 ^ m.length = b := by rw [Nat.mul_comm, Nat.mul_add_div (by exact Nat.pow_pos (by decide)), Nat.div_eq_of_lt k1, Nat.add_zero]
      have q2 : (c * 256 ^ m.length + vlN m) / 256 ^ m.length = c := by rw [Nat.mul_comm, Nat.mul_add_div (by exact Nat.pow_pos (by decide)), Nat.div_eq_of_lt k2, Nat.add_zero]
      rw [← q1, ← q2, h4]
    subst e1
    rw [vlN_inj l m hl (fun x hx => h1 x (List.mem_cons_of_mem _ hx)) (fun x hx => h2 x (List.mem_cons_of_mem _ hx)) (by omega)]
theorem p256 : ∀ k, k ≤ 6 → 256 ^ k ≤ 281474976710656 := by decide
theorem pkN_sm : ∀ (l : List Nat) (a k : Nat), (∀ b ∈ l, b < 256) → a < 256 ^ k → k + l.length ≤ 7 → pkN a l = a * 256 ^ l.length + vlN l
  | [], a, k, _, _, _ => by simp [pkN, vlN]
  | b :: l, a, k, h, ha, hk => by
    have hb := h b List.mem_cons_self
    have hk' : k ≤ 6 := by simp only [List.length_cons] at hk; omega
    have := p256 k hk'
    show pkN (if a < 281474976710656 then 256 * a + b else 1152921504606846976) l = a * 256 ^ (l.length + 1) + (b * 256 ^ l.length + vlN l)
    rw [if_pos (by omega), pkN_sm l (256 * a + b) (k + 1) (fun c hc => h c (List.mem_cons_of_mem _ hc)) (by rw [Nat.pow_succ]; omega) (by simp only [List.length_cons] at hk; omega), Nat.add_mul, Nat.pow_succ, Nat.mul_comm 256 a, Nat.mul_assoc, Nat.mul_comm 256 (256 ^ l.length), Nat.add_assoc]
theorem pkN_big : ∀ (l : List Nat) (a : Nat), 281474976710656 ≤ a → 281474976710656 ≤ pkN a l
  | [], a, h => h
  | b :: l, a, h => by
    show 281474976710656 ≤ pkN (if a < 281474976710656 then 256 * a + b else 1152921504606846976) l
    rw [if_neg (by omega)]
    exact pkN_big l _ (by omega)
theorem pkN_ge : ∀ (l : List Nat) (a k : Nat), 1 ≤ k → k ≤ 7 → 256 ^ (k - 1) ≤ a → 7 ≤ k + l.length → 281474976710656 ≤ pkN a l
  | [], a, k, h1, h2, h3, h4 => by
    have : k = 7 := by simp only [List.length_nil] at h4; omega
    subst this
    exact h3
  | b :: l, a, k, h1, h2, h3, h4 => by
    by_cases g : a < 281474976710656
    · by_cases g7 : k = 7
      · subst g7
        have : 256 ^ (7 - 1) = 281474976710656 := by decide
        omega
      · show 281474976710656 ≤ pkN (if a < 281474976710656 then 256 * a + b else 1152921504606846976) l
        rw [if_pos g]
        refine pkN_ge l (256 * a + b) (k + 1) (by omega) (by omega) ?_ (by simp only [List.length_cons] at h4; omega)
        rw [show k + 1 - 1 = k - 1 + 1 by omega, Nat.pow_succ]
        omega
    · exact pkN_big (b :: l) a (by omega)
theorem pkN_inj {W V : List Nat} (hW : ∀ b ∈ W, 0 < b ∧ b < 256) (hV : ∀ b ∈ V, 0 < b ∧ b < 256) (h6 : V.length ≤ 6) (h : pkN 0 W = pkN 0 V) : W = V := by
  have hV' : pkN 0 V = vlN V := by rw [pkN_sm V 0 0 (fun b hb => (hV b hb).2) (by decide) (by omega), Nat.zero_mul, Nat.zero_add]
  have lV := vlN_lt V (fun b hb => (hV b hb).2)
  have pV := p256 V.length h6
  have lo : ∀ (U : List Nat), (∀ b ∈ U, 0 < b ∧ b < 256) → U ≠ [] → 256 ^ (U.length - 1) ≤ vlN U := by
    intro U hU hn
    cases U with
    | nil => exact absurd rfl hn
    | cons b l =>
      have := (hU b List.mem_cons_self).1
      show 256 ^ (l.length + 1 - 1) ≤ b * 256 ^ l.length + vlN l
      rw [Nat.add_sub_cancel]
      have : 1 * 256 ^ l.length ≤ b * 256 ^ l.length := Nat.mul_le_mul_right _ (by omega)
      omega
  by_cases g : W.length ≤ 6
  · have hW' : pkN 0 W = vlN W := by rw [pkN_sm W 0 0 (fun b hb => (hW b hb).2) (by decide) (by omega), Nat.zero_mul, Nat.zero_add]
    have lW := vlN_lt W (fun b hb => (hW b hb).2)
    have he : vlN W = vlN V := by rw [← hW', ← hV', h]
    refine vlN_inj W V ?_ (fun b hb => (hW b hb).2) (fun b hb => (hV b hb).2) he
    have mono : ∀ (U T : List Nat), (∀ b ∈ U, 0 < b ∧ b < 256) → vlN T < 256 ^ T.length → vlN U = vlN T → ¬ T.length < U.length := by
      intro U T hU hT e hl
      have q1 := lo U hU (by intro z; rw [z] at hl; simp at hl)
      have q2 : 256 ^ T.length ≤ 256 ^ (U.length - 1) := Nat.pow_le_pow_right (by decide) (by omega)
      omega
    have m1 := mono W V hW lV he
    have m2 := mono V W hV lW he.symm
    omega
  · exfalso
    cases W with
    | nil => simp at g
    | cons b l =>
      have := pkN_ge l b 1 (by omega) (by omega) (by have := (hW b List.mem_cons_self).1; simp; omega) (by simp only [List.length_cons] at g; omega)
      have e : pkN 0 (b :: l) = pkN b l := by
        show pkN (if (0 : Nat) < 281474976710656 then 256 * 0 + b else 1152921504606846976) l = _
        rw [if_pos (by decide), Nat.mul_zero, Nat.zero_add]
      rw [e, hV'] at h
      omega
def txN (e : Nat) : List Nat := (texts0.getD e []).map Int32.toNatClampNeg
theorem txN_ok : ∀ e, e < 29 → (∀ b ∈ txN e, 0 < b ∧ b < 256) ∧ (txN e).length ≤ 6 := by decide +kernel
def kW (e : Nat) : Int64 := lW (pkN 0 (txN e))
def wFi : List (List Nat) → Nat → List Nat → Nat
  | [], i, _ => i
  | w :: ws, i, l => if w = l then i else wFi ws (i + 1) l
def txNs : List (List Nat) := (List.range 29).map txN
def wI (l : List Nat) : Nat := wFi txNs 0 l
theorem wFi_sp : ∀ (ws : List (List Nat)) (i : Nat) (l : List Nat), (∃ j, j < ws.length ∧ ws.getD j [] = l ∧ wFi ws i l = i + j) ∨ wFi ws i l = i + ws.length
  | [], i, l => Or.inr rfl
  | w :: ws, i, l => by
    by_cases g : w = l
    · left
      refine ⟨0, by simp, g, ?_⟩
      show (if w = l then i else wFi ws (i + 1) l) = i + 0
      rw [if_pos g]
      rfl
    · have e : wFi (w :: ws) i l = wFi ws (i + 1) l := by
        show (if w = l then i else wFi ws (i + 1) l) = _
        rw [if_neg g]
      rw [e]
      rcases wFi_sp ws (i + 1) l with ⟨j, j1, j2, j3⟩ | j3
      · exact Or.inl ⟨j + 1, by simp; omega, j2, by rw [j3]; omega⟩
      · exact Or.inr (by rw [j3, List.length_cons]; omega)
theorem wI_tx : ∀ e, e < 29 → wI (txN e) = e := by decide +kernel
theorem txNs_at : ∀ j, j < 29 → txNs.getD j [] = txN j := by decide +kernel
theorem wI_iff {l : List Nat} {e : Nat} (he : e < 29) : wI l = e ↔ l = txN e := by
  refine ⟨fun h => ?_, fun h => by rw [h]; exact wI_tx e he⟩
  have hn : txNs.length = 29 := by decide
  rcases wFi_sp txNs 0 l with ⟨j, j1, j2, j3⟩ | j3
  · have : wI l = 0 + j := j3
    rw [← j2, txNs_at j (by omega)]
    congr 1
    omega
  · have : wI l = 0 + txNs.length := j3
    omega
