/-! ONE INSTRUCTION of the small machine is the large one's -/
def hdP : List EN → Nat
  | [] => 0
  | e :: _ => e.1
theorem gd_cons {own : Nat} {isI : Bool} {cc : ByteArray} {pc : Nat} {cut : Option (List Nat)} {i : Instr} {len : Nat} {ax : List Nat} {cI : Int32} {cL : Int64} {is : List EN} (h : gd own isI cc ((pc, cut, i, len, ax, cI, cL) :: is) = true) : decode cc pc = .ok (i, len) ∧ (len = lenF i len ∧ axOk own isI pc i ax cI cL = true) ∧ (is ≠ [] → hdP is = pc + len) ∧ gd own isI cc is = true := by
  unfold gd at h
  simp only [Bool.and_eq_true, decide_eq_true_eq, chk, Nat.beq_eq] at h
  obtain ⟨⟨⟨h1, h2⟩, h3⟩, h4⟩ := h
  refine ⟨h1, h2, fun hne => ?_, h4⟩
  match is, hne, h3 with
  | e :: r, _, h3 =>
    simp only [Nat.beq_eq] at h3
    exact h3
theorem gd_jt {own : Nat} {isI : Bool} {cc : ByteArray} {t : Nat} : ∀ {code : List EN}, gd own isI cc code = true → gd own isI cc (jt t code) = true
  | [], h => h
  | e :: r, h => by
    unfold jt
    cases hb : Nat.beq e.1 t with
    | true => exact h
    | false => exact gd_jt (gd_cons h).2.2.2
theorem jt_hd {t : Nat} : ∀ {code : List EN}, jt t code ≠ [] → hdP (jt t code) = t
  | [], h => absurd rfl h
  | e :: r, h => by
    unfold jt at h ⊢
    cases hb : Nat.beq e.1 t with
    | true => exact Nat.eq_of_beq_eq_true hb
    | false =>
      rw [hb] at h
      exact jt_hd h
def Pnt (T : TT) (B N0 T0 n : Nat) (D : va_G) (kc : Nat → ClassId) (E : Nat → Nat) (Q : State → Prop) (HF : HP) (pc : Nat) (L : LL) (S : ST) (H : HP) : Prop :=
  (H.1.length ≤ HF.1.length ∧ tot H.1 ≤ tot HF.1) ∧ ∀ (Hm : Heap) (locs : List Loc) (cells slots : Nat) (ls : Array Slot), va_P D CLS (wsO kc B H) Hm → va_S (fun q => B ≤ q) T.2.2.2.2.1.heap Hm locs → H.1.length = N0 + cells → tot H.1 = T0 + slots → lv_has ls n (cLL E B L) → WC T Hm locs cells slots Q pc ls (S.map (cv E B))
theorem jmp_inv {go : List EN → LL → ST → HP → RR} {code : List EN} {ax : List Nat} {L : LL} {S : ST} {H : HP} {pc : Nat} {off : Int} {x : Option AV × HP} (ht : tgOk pc off ax = true) (h : (match (generalizing := false) ax with
    | t :: _ => go (jt t code) L S H
    | [] => none) = some x) : ∃ t : Nat, (pc : Int) + off = (t : Int) ∧ go (jt t code) L S H = some x := by
  match ax, ht, h with
  | t :: _, ht, h => exact ⟨t, of_decide_eq_true ht, h⟩
theorem swT_inv {x : Int32} {k : Nat → RR} {d : RR} {v : Option AV × HP} : ∀ {ts : List Nat} {lo : Nat}, swT x k d lo ts = some v → (∃ i t, ts[i]? = some t ∧ x = Int32.ofNat (lo + i) ∧ k t = some v) ∨ (d = some v ∧ ∀ i, i < ts.length → x ≠ Int32.ofNat (lo + i))
  | [], lo, h => Or.inr ⟨h, fun i hi => absurd hi (Nat.not_lt_zero i)⟩
  | t :: r, lo, h => by
    unfold swT at h
    by_cases hx : x = Int32.ofNat lo
    · rw [if_pos hx] at h
      exact Or.inl ⟨0, t, rfl, hx, h⟩
    · rw [if_neg hx] at h
      rcases swT_inv h with ⟨i, t', h1, h2, h3⟩ | ⟨h1, h2⟩
      · exact Or.inl ⟨i + 1, t', h1, by rw [h2]; congr 1; omega, h3⟩
      · refine Or.inr ⟨h1, fun i hi => ?_⟩
        cases i with
        | zero => exact hx
        | succ i =>
          have := h2 i (by simp at hi; omega)
          intro q
          exact this (by rw [q]; congr 1; omega)
theorem tsOk_at {pc : Nat} : ∀ {os : List Int} {ts : List Nat}, tsOk pc os ts = true → os.length = ts.length ∧ ∀ (i t : Nat), ts[i]? = some t → ∃ o, os[i]? = some o ∧ (pc : Int) + o = (t : Int)
  | [], [], _ => ⟨rfl, fun i t h => by simp at h⟩
  | o :: os, t :: ts, h => by
    simp only [tsOk, Bool.and_eq_true, decide_eq_true_eq] at h
    obtain ⟨h1, h2⟩ := tsOk_at h.2
    refine ⟨by simp [h1], fun i t' hi => ?_⟩
    cases i with
    | zero => simp at hi; subst hi; exact ⟨o, rfl, h.1⟩
    | succ i => exact h2 i t' (by simpa using hi)
  | [], _ :: _, h => by cases h
  | _ :: _, [], h => by cases h
theorem i32n {a : Nat} (h : a < 2000000) : (Int32.ofNat a).toInt = (a : Int) := nI_toInt (by omega)
theorem lkT_inv {pc : Nat} {x : Int32} {k : Nat → RR} {d : RR} {v : Option AV × HP} {dflt : Int} : ∀ {ps : List (Int × Int)} {ts : List Nat}, lsOk pc ps ts = true → lkT x k d ts = some v → (∃ o t, Op.lookupswitch.offset ps dflt x.toInt = o ∧ (pc : Int) + o = ((t : Nat) : Int) ∧ k t = some v) ∨ (d = some v ∧ Op.lookupswitch.offset ps dflt x.toInt = dflt)
  | [], [], _, h => Or.inr ⟨h, rfl⟩
  | (a0, o) :: r, a :: t :: ts, hl, h => by
    simp only [lsOk, Bool.and_eq_true, decide_eq_true_eq] at hl
    obtain ⟨⟨⟨h1, h2⟩, h3⟩, h4⟩ := hl
    have hlt : a < 1000000 := Nat.le_of_ble_eq_true h2
    unfold lkT at h
    rw [Op.lookupswitch.offset_cons]
    by_cases hx : x = Int32.ofNat a
    · rw [if_pos hx] at h
      have e : a0 = x.toInt := by rw [hx, i32n (by omega), h1]
      rw [if_pos (by first | exact e | exact e.symm)]
      exact Or.inl ⟨o, t, rfl, h3, h⟩
    · rw [if_neg hx] at h
      have e : ¬ a0 = x.toInt := fun q => hx (Int32.toInt_inj.mp (by rw [← q, h1, i32n (by omega)]))
      rw [if_neg (by first | exact e | exact fun q => e q.symm)]
      exact lkT_inv h4 h
  | [], _ :: _, hl, _ => by cases hl
  | _ :: _, [], hl, _ => by cases hl
  | _ :: _, [_], hl, _ => by cases hl
set_option maxHeartbeats 16000000 in
theorem stp_ok {T : TT} {own n : Nat} {isI : Bool} {cc : ByteArray} {B N0 T0 : Nat} {D : va_G} {kc : Nat → ClassId} {E V : Nat → Nat} {X : XS} (C : Cx T own n isI cc B N0 D kc E V X) {d rt : Nat} {call : Nat → List AV → HP → RR} (hcall : CallOk T.2.1 B D kc E V X d call) (hR : d + 10 ≤ T.2.2.2.1.frames ∧ 100 * d + 500 ≤ T.2.2.2.1.locals) {Q : State → Prop} {HF : HP} {r : Option AV} (hRc : HF.1.length - N0 ≤ T.2.2.2.1.cells) (hRs : tot HF.1 - T0 ≤ T.2.2.2.1.slots) {code : List EN} (hg : gd own isI cc code = true)
    (hret : ∀ (pc : Nat) (i : Instr) (L : LL) (S : ST) (H : HP), decode cc pc = .ok (i, 1) → opR rt i S H = some (r, HF) → Pnt T B N0 T0 n D kc E Q HF pc L S H)
    {pc : Nat} {cut : Option (List Nat)} {i : Instr} {len : Nat} {ax : List Nat} {cI : Int32} {cL : Int64} {is : List EN} (hgd : gd own isI cc ((pc, cut, i, len, ax, cI, cL) :: is) = true) {go : List EN → LL → ST → HP → RR}
    (hgo : ∀ (is' : List EN) (L' : LL) (S' : ST) (H' : HP), gd own isI cc is' = true → go is' L' S' H' = some (r, HF) → is' ≠ [] ∧ Pnt T B N0 T0 n D kc E Q HF (hdP is') L' S' H') {L : LL} {S : ST} {H : HP} (h : stp X call n rt go code is i ax cI cL L S H = some (r, HF)) : Pnt T B N0 T0 n D kc E Q HF pc L S H := by
  obtain ⟨hd, hk, hnx, hgs⟩ := gd_cons hgd
  obtain ⟨hx, hb, hml, -⟩ := id C
  have nxt : ∀ (L' : LL) (S' : ST) (H' : HP), go is L' S' H' = some (r, HF) → Pnt T B N0 T0 n D kc E Q HF (pc + len) L' S' H' := fun L' S' H' h1 => by
    obtain ⟨hne, w⟩ := hgo is L' S' H' hgs h1
    rw [hnx hne] at w
    exact w
  have jmp : ∀ (t : Nat) (L' : LL) (S' : ST) (H' : HP), go (jt t code) L' S' H' = some (r, HF) → Pnt T B N0 T0 n D kc E Q HF t L' S' H' := fun t L' S' H' h1 => by
    obtain ⟨hne, w⟩ := hgo (jt t code) L' S' H' (gd_jt hg) h1
    rw [jt_hd hne] at w
    exact w
  have fS : opS i ax cI cL S (fun S => go is L S H) = some (r, HF) → Pnt T B N0 T0 n D kc E Q HF pc L S H := fun h => by
    obtain ⟨S', h1, row⟩ := opS_ok C hd hk h
    obtain ⟨hm, w⟩ := nxt _ _ _ h1
    exact ⟨hm, fun Hm locs cells slots ls hP hS hc hs hl => row Hm locs cells slots Q ls (w Hm locs cells slots ls hP hS hc hs hl)⟩
  have fL : opL n i cI L S (fun L S => go is L S H) = some (r, HF) → Pnt T B N0 T0 n D kc E Q HF pc L S H := fun h => by
    obtain ⟨L', S', h1, row⟩ := opL_ok C hd hk h
    obtain ⟨hm, w⟩ := nxt _ _ _ h1
    exact ⟨hm, fun Hm locs cells slots ls hP hS hc hs hl => row Hm locs cells slots Q ls hl (fun ls' hl' => w Hm locs cells slots ls' hP hS hc hs hl')⟩
  have fK : (∃ S' H', go is L S' H' = some (r, HF) ∧ HOk T B N0 D kc E pc len S H S' H') → Pnt T B N0 T0 n D kc E Q HF pc L S H := fun h => by
    obtain ⟨S', H', h1, hm1, row⟩ := h
    obtain ⟨hm, w⟩ := nxt _ _ _ h1
    exact ⟨⟨Nat.le_trans hm1.1 hm.1, Nat.le_trans hm1.2 hm.2⟩, fun Hm locs cells slots ls hP hS hc hs hl => row HF T0 hRc hRs hm.1 hm.2 Hm locs cells slots Q ls hP hS hc hs (hl.1.trans hml.symm) (fun Hm' locs' cells' slots' hP' hS' hc' hs' => w Hm' locs' cells' slots' ls hP' hS' hc' hs' hl)⟩
  have fH : opH X i ax S H (fun S H => go is L S H) = some (r, HF) → Pnt T B N0 T0 n D kc E Q HF pc L S H := fun h => fK (opH_ok C hd hk h)
  have fR : len = 1 → opR rt i S H = some (r, HF) → Pnt T B N0 T0 n D kc E Q HF pc L S H := fun hl h => hret pc i L S H (by rw [hl] at hd; exact hd) h
  have con : ∀ (S' : ST) (c : Prop) (dc : Decidable c) (off : Int), tgOk pc off ax = true → (@ite _ c dc (match (generalizing := false) ax with
      | t :: _ => go (jt t code) L S' H
      | [] => none) (go is L S' H)) = some (r, HF) → (∀ (tgt : Nat), (pc : Int) + off = (tgt : Int) → ∀ (Hm : Heap) (locs : List Loc) (cells slots : Nat) (ls : Array Slot), (c → WC T Hm locs cells slots Q tgt ls (S'.map (cv E B))) → (¬ c → WC T Hm locs cells slots Q (pc + len) ls (S'.map (cv E B))) → WC T Hm locs cells slots Q pc ls (S.map (cv E B))) → Pnt T B N0 T0 n D kc E Q HF pc L S H := fun S' c dc off ht h row => by
    by_cases hc : c
    · rw [if_pos hc] at h
      obtain ⟨t, h1, h2⟩ := jmp_inv ht h
      obtain ⟨hm, w⟩ := jmp _ _ _ _ h2
      exact ⟨hm, fun Hm locs cells slots ls hP hS hce hs hl => row t h1 Hm locs cells slots ls (fun _ => w Hm locs cells slots ls hP hS hce hs hl) (fun q => absurd hc q)⟩
    · rw [if_neg hc] at h
      obtain ⟨hm, w⟩ := nxt _ _ _ h
      obtain ⟨t, ht'⟩ : ∃ t : Nat, (pc : Int) + off = (t : Int) := by
        match ax, ht with
        | t :: _, ht => exact ⟨t, of_decide_eq_true ht⟩
      exact ⟨hm, fun Hm locs cells slots ls hP hS hce hs hl => row t ht' Hm locs cells slots ls (fun q => absurd q hc) (fun _ => w Hm locs cells slots ls hP hS hce hs hl)⟩
  have con' : ∀ (S' : ST) (c : Prop) (dc : Decidable c) (off : Int), tgOk pc off ax = true → (@ite _ c dc (go is L S' H) (match (generalizing := false) ax with
      | t :: _ => go (jt t code) L S' H
      | [] => none)) = some (r, HF) → (∀ (tgt : Nat), (pc : Int) + off = (tgt : Int) → ∀ (Hm : Heap) (locs : List Loc) (cells slots : Nat) (ls : Array Slot), (¬ c → WC T Hm locs cells slots Q tgt ls (S'.map (cv E B))) → (c → WC T Hm locs cells slots Q (pc + len) ls (S'.map (cv E B))) → WC T Hm locs cells slots Q pc ls (S.map (cv E B))) → Pnt T B N0 T0 n D kc E Q HF pc L S H := fun S' c dc off ht h row => by
    by_cases hc : c
    · rw [if_pos hc] at h
      obtain ⟨hm, w⟩ := nxt _ _ _ h
      obtain ⟨t, ht'⟩ : ∃ t : Nat, (pc : Int) + off = (t : Int) := by
        match ax, ht with
        | t :: _, ht => exact ⟨t, of_decide_eq_true ht⟩
      exact ⟨hm, fun Hm locs cells slots ls hP hS hce hs hl => row t ht' Hm locs cells slots ls (fun q => absurd hc q) (fun _ => w Hm locs cells slots ls hP hS hce hs hl)⟩
    · rw [if_neg hc] at h
      obtain ⟨t, h1, h2⟩ := jmp_inv ht h
      obtain ⟨hm, w⟩ := jmp _ _ _ _ h2
      exact ⟨hm, fun Hm locs cells slots ls hP hS hce hs hl => row t h1 Hm locs cells slots ls (fun _ => w Hm locs cells slots ls hP hS hce hs hl) (fun q => absurd q hc)⟩
  cases i with
  | goto off =>
    obtain rfl : len = 3 := by simpa [lenF] using hk.1
    obtain ⟨t, h1, h2⟩ := jmp_inv hk.2 h
    obtain ⟨hm, w⟩ := jmp _ _ _ _ h2
    exact ⟨hm, fun Hm locs cells slots ls hP hS hc hs hl => lv_goto hx hb hd h1 (w Hm locs cells slots ls hP hS hc hs hl)⟩
  | ifCond c off =>
    obtain rfl : len = 3 := by simpa [lenF] using hk.1
    cases c with
    | eq =>
      simp only [stp] at h
      obtain ⟨a, S1, rfl, h1⟩ := tI_inv h
      exact con S1 _ _ off hk.2 h1 (fun t ht Hm locs cells slots ls w1 w2 => lv_if_eq hx hb hd ht w1 w2)
    | ne =>
      simp only [stp] at h
      obtain ⟨a, S1, rfl, h1⟩ := tI_inv h
      exact con' S1 _ _ off hk.2 h1 (fun t ht Hm locs cells slots ls w1 w2 => lv_if_ne hx hb hd ht w1 w2)
    | lt =>
      simp only [stp] at h
      obtain ⟨a, S1, rfl, h1⟩ := tI_inv h
      exact con S1 _ _ off hk.2 h1 (fun t ht Hm locs cells slots ls w1 w2 => lv_if_lt hx hb hd ht w1 w2)
    | ge =>
      simp only [stp] at h
      obtain ⟨a, S1, rfl, h1⟩ := tI_inv h
      exact con S1 _ _ off hk.2 h1 (fun t ht Hm locs cells slots ls w1 w2 => lv_if_ge hx hb hd ht w1 w2)
    | gt =>
      simp only [stp] at h
      obtain ⟨a, S1, rfl, h1⟩ := tI_inv h
      exact con S1 _ _ off hk.2 h1 (fun t ht Hm locs cells slots ls w1 w2 => lv_if_gt hx hb hd ht w1 w2)
    | le =>
      simp only [stp] at h
      obtain ⟨a, S1, rfl, h1⟩ := tI_inv h
      exact con S1 _ _ off hk.2 h1 (fun t ht Hm locs cells slots ls w1 w2 => lv_if_le hx hb hd ht w1 w2)
  | if_icmp c off =>
    obtain rfl : len = 3 := by simpa [lenF] using hk.1
    cases c with
    | eq =>
      simp only [stp] at h
      obtain ⟨a, S1, rfl, h1⟩ := tI_inv h
      obtain ⟨a2, S2, rfl, h2⟩ := tI_inv h1
      exact con S2 _ _ off hk.2 h2 (fun t ht Hm locs cells slots ls w1 w2 => lv_icmp_eq hx hb hd ht w1 w2)
    | ne =>
      simp only [stp] at h
      obtain ⟨a, S1, rfl, h1⟩ := tI_inv h
      obtain ⟨a2, S2, rfl, h2⟩ := tI_inv h1
      exact con' S2 _ _ off hk.2 h2 (fun t ht Hm locs cells slots ls w1 w2 => lv_icmp_ne hx hb hd ht w1 w2)
    | lt =>
      simp only [stp] at h
      obtain ⟨a, S1, rfl, h1⟩ := tI_inv h
      obtain ⟨a2, S2, rfl, h2⟩ := tI_inv h1
      exact con S2 _ _ off hk.2 h2 (fun t ht Hm locs cells slots ls w1 w2 => lv_icmp_lt hx hb hd ht w1 w2)
    | ge =>
      simp only [stp] at h
      obtain ⟨a, S1, rfl, h1⟩ := tI_inv h
      obtain ⟨a2, S2, rfl, h2⟩ := tI_inv h1
      exact con S2 _ _ off hk.2 h2 (fun t ht Hm locs cells slots ls w1 w2 => lv_icmp_ge hx hb hd ht w1 w2)
    | gt =>
      simp only [stp] at h
      obtain ⟨a, S1, rfl, h1⟩ := tI_inv h
      obtain ⟨a2, S2, rfl, h2⟩ := tI_inv h1
      exact con S2 _ _ off hk.2 h2 (fun t ht Hm locs cells slots ls w1 w2 => lv_icmp_gt hx hb hd ht w1 w2)
    | le =>
      simp only [stp] at h
      obtain ⟨a, S1, rfl, h1⟩ := tI_inv h
      obtain ⟨a2, S2, rfl, h2⟩ := tI_inv h1
      exact con S2 _ _ off hk.2 h2 (fun t ht Hm locs cells slots ls w1 w2 => lv_icmp_le hx hb hd ht w1 w2)
  | ifnull off =>
    obtain rfl : len = 3 := by simpa [lenF] using hk.1
    simp only [stp] at h
    obtain ⟨a, S1, rfl, h1⟩ := tP_inv h
    cases a with
    | none =>
      obtain ⟨t, h2, h3⟩ := jmp_inv hk.2 h1
      obtain ⟨hm, w⟩ := jmp _ _ _ _ h3
      exact ⟨hm, fun Hm locs cells slots ls hP hS hc hs hl => lv_ifnullN hx hb hd h2 (w Hm locs cells slots ls hP hS hc hs hl)⟩
    | some q =>
      obtain ⟨hm, w⟩ := nxt _ _ _ h1
      exact ⟨hm, fun Hm locs cells slots ls hP hS hc hs hl => lv_ifnull hx hb hd (w Hm locs cells slots ls hP hS hc hs hl)⟩
  | ifnonnull off =>
    obtain rfl : len = 3 := by simpa [lenF] using hk.1
    simp only [stp] at h
    obtain ⟨a, S1, rfl, h1⟩ := tP_inv h
    cases a with
    | none =>
      obtain ⟨hm, w⟩ := nxt _ _ _ h1
      exact ⟨hm, fun Hm locs cells slots ls hP hS hc hs hl => lv_ifnonnullN hx hb hd (w Hm locs cells slots ls hP hS hc hs hl)⟩
    | some q =>
      obtain ⟨t, h2, h3⟩ := jmp_inv hk.2 h1
      obtain ⟨hm, w⟩ := jmp _ _ _ _ h3
      exact ⟨hm, fun Hm locs cells slots ls hP hS hc hs hl => lv_ifnonnull hx hb hd h2 (w Hm locs cells slots ls hP hS hc hs hl)⟩
  | tableswitch dflt lo hi os =>
    have h2 := hk.2
    match ax, h, h2 with
    | [], h, _ => exact absurd h (by simp [stp])
    | [_], h, _ => exact absurd h (by simp [stp])
    | t0 :: a0 :: ts, h, h2 =>
      simp only [axOk, Bool.and_eq_true, decide_eq_true_eq] at h2
      obtain ⟨⟨⟨⟨⟨g1, g2⟩, g3⟩, g4⟩, g5⟩, g6⟩ := h2
      have ha : a0 < 1000000 := Nat.le_of_ble_eq_true g3
      have hos : os.size < 1000 := Nat.le_of_ble_eq_true g5
      obtain ⟨q1, q2⟩ := tsOk_at g6
      simp only [Array.length_toList] at q1
      simp only [stp] at h
      obtain ⟨v, S1, rfl, h1⟩ := tI_inv h
      rcases swT_inv h1 with ⟨i0, t, hi0, hv, h3⟩ | ⟨h3, hno⟩
      · obtain ⟨hm, w⟩ := jmp _ _ _ _ h3
        obtain ⟨o0, ho0, ho1⟩ := q2 i0 t hi0
        have hil : i0 < ts.length := (List.getElem?_eq_some_iff.mp hi0).1
        have hvi : v.toInt = ((a0 + i0 : Nat) : Int) := by rw [hv]; exact i32n (by omega)
        refine ⟨hm, fun Hm locs cells slots ls hP hS hc hs hl => lv_tableIn hx hb hd (by omega) (by omega) (off := o0) ?_ ho1 (w Hm locs cells slots ls hP hS hc hs hl)⟩
        have e : (v.toInt - lo).toNat = i0 := by omega
        rw [e, ← Array.getElem?_toList]
        exact ho0
      · obtain ⟨hm, w⟩ := jmp _ _ _ _ h3
        refine ⟨hm, fun Hm locs cells slots ls hP hS hc hs hl => lv_tableOut hx hb hd ?_ g1 (w Hm locs cells slots ls hP hS hc hs hl)⟩
        apply Classical.byContradiction
        intro hn
        have e1 : ¬ v.toInt < lo := fun q => hn (Or.inl q)
        have e2 : ¬ hi < v.toInt := fun q => hn (Or.inr q)
        have := hno (v.toInt - lo).toNat (by omega)
        refine this (Int32.toInt_inj.mp ?_)
        rw [i32n (by omega)]
        omega
  | lookupswitch dflt ps =>
    have h2 := hk.2
    match ax, h, h2 with
    | [], h, _ => exact absurd h (by simp [stp])
    | t0 :: ts, h, h2 =>
      simp only [axOk, Bool.and_eq_true, decide_eq_true_eq] at h2
      obtain ⟨⟨g1, g2⟩, g3⟩ := h2
      simp only [stp] at h
      obtain ⟨v, S1, rfl, h1⟩ := tI_inv h
      rcases lkT_inv (dflt := dflt) g3 h1 with ⟨o0, t, ho, ho1, h3⟩ | ⟨h3, ho⟩
      · obtain ⟨hm, w⟩ := jmp _ _ _ _ h3
        exact ⟨hm, fun Hm locs cells slots ls hP hS hc hs hl => lv_lookup hx hb hd g2 ho ho1 (w Hm locs cells slots ls hP hS hc hs hl)⟩
      · obtain ⟨hm, w⟩ := jmp _ _ _ _ h3
        exact ⟨hm, fun Hm locs cells slots ls hP hS hc hs hl => lv_lookup hx hb hd g2 ho g1 (w Hm locs cells slots ls hP hS hc hs hl)⟩
  | invokestatic ix =>
    have hl3 : len = 3 := by simpa [lenF] using hk.1
    by_cases hax : ∃ b r, ax = 2 :: b :: r
    · obtain ⟨b, r0, rfl⟩ := hax
      have h2 := hk.2
      obtain ⟨hw, h3⟩ := bif_inv h
      match r0, h2 with
      | [], h2 =>
        simp only [axOk, Bool.and_eq_true, Bool.or_eq_true, Nat.beq_eq] at h2
        subst hl3
        exact fK (opJ_st C hd (blt_use h2.1) (h2.2.elim (fun q => q.elim (fun g => Or.inl (Nat.le_of_ble_eq_true g)) (fun g => Or.inr (Or.inl g))) (fun g => Or.inr (Or.inr g))) (Nat.le_of_ble_eq_true hw) h3)
      | _ :: _, h2 => exact absurd h2 (by simp [axOk])
    · have hne : ∀ b r, ax ≠ 2 :: b :: r := fun b r q => hax ⟨b, r, q⟩
      refine fK (opC_st C hcall hR hd hk hne ?_)
      simp only [stp] at h
      exact h
  | invokevirtual ix =>
    have hl3 : len = 3 := by simpa [lenF] using hk.1
    by_cases hax : ∃ b r, ax = 2 :: b :: r
    · obtain ⟨b, r0, rfl⟩ := hax
      have h2 := hk.2
      obtain ⟨hw, h3⟩ := bif_inv h
      match r0, h2 with
      | [], h2 =>
        simp only [axOk, Bool.and_eq_true, Bool.or_eq_true, Nat.beq_eq] at h2
        subst hl3
        exact fK (opJ_vi C hd (blt_use h2.1) h2.2 (Nat.le_of_ble_eq_true hw) h3)
      | _ :: _, h2 => exact absurd h2 (by simp [axOk])
    · have hne : ∀ b r, ax ≠ 2 :: b :: r := fun b r q => hax ⟨b, r, q⟩
      refine fK (opC_vi C hcall hR hd hk hne ?_)
      simp only [stp] at h
      exact h
  | invokespecial ix =>
    have hl3 : len = 3 := by simpa [lenF] using hk.1
    by_cases hax : ∃ b r, ax = 2 :: b :: r
    · obtain ⟨b, r0, rfl⟩ := hax
      have h2 := hk.2
      obtain ⟨hw, h3⟩ := bif_inv h
      match r0, h2 with
      | [], h2 =>
        simp only [axOk, Bool.and_eq_true, Nat.beq_eq] at h2
        obtain ⟨h2, rfl⟩ := h2
        subst hl3
        exact fK (opJ_sp C hd (blt_use h2) (Nat.le_of_ble_eq_true hw) h3)
      | _ :: _, h2 => exact absurd h2 (by simp [axOk])
    · have hne : ∀ b r, ax ≠ 2 :: b :: r := fun b r q => hax ⟨b, r, q⟩
      refine fK (opC_sp C hcall hR hd hk hne ?_)
      simp only [stp] at h
      exact h
  | ireturn => exact fR (by simpa [lenF] using hk.1) h
  | lreturn => exact fR (by simpa [lenF] using hk.1) h
  | areturn => exact fR (by simpa [lenF] using hk.1) h
  | return_ => exact fR (by simpa [lenF] using hk.1) h
  | iload i0 => exact fL h
  | iload_n i0 => exact fL h
  | lload i0 => exact fL h
  | lload_n i0 => exact fL h
  | aload i0 => exact fL h
  | aload_n i0 => exact fL h
  | istore i0 => exact fL h
  | istore_n i0 => exact fL h
  | lstore i0 => exact fL h
  | lstore_n i0 => exact fL h
  | astore_n i0 => exact fL h
  | iinc i0 c0 => exact fL h
  | getfield ix => exact fH h
  | putfield ix => exact fH h
  | getstatic ix => exact fH h
  | iaload => exact fH h
  | baload => exact fH h
  | laload => exact fH h
  | aaload => exact fH h
  | iastore => exact fH h
  | bastore => exact fH h
  | lastore => exact fH h
  | aastore => exact fH h
  | arraylength => exact fH h
  | new ix => exact fH h
  | newarray t => exact fH h
  | anewarray ix => exact fH h
  | _ => exact fS h
