/-! calls of the library's methods -/
theorem blt_use {own ix b : Nat} (h : BLT.any (fun q => Nat.beq q.1 own && Nat.beq q.2.1 ix && Nat.beq q.2.2.1 b) = true) : Cond.methodLink (RN own) ix (BN b) ∈ gtb := by
  obtain ⟨q, hq, hf⟩ := any_inv h
  simp only [Bool.and_eq_true, Nat.beq_eq] at hf
  obtain ⟨⟨rfl, rfl⟩, rfl⟩ := hf
  exact tblw (of_decide_eq_true (List.all_eq_true.mp BLT_ok q hq)) rfl
theorem HOk.lib {T : TT} {B N0 : Nat} {D : va_G} {kc : Nat → ClassId} {E : Nat → Nat} {pc len : Nat} {S : ST} {H : HP} {S' : ST}
    (h : ∀ (Hm : Heap) (locs : List Loc) (cells slots : Nat) (Q : State → Prop) (ls : Array Slot), va_P D CLS (wsO kc B H) Hm → va_S (fun q => B ≤ q) T.2.2.2.2.1.heap Hm locs → T.2.2.2.2.2.2.2.2.2.maxLocals = ls.size → cells ≤ T.2.2.2.1.cells → slots ≤ T.2.2.2.1.slots → WC T Hm locs cells slots Q (pc + len) ls (S'.map (cv E B)) → WC T Hm locs cells slots Q pc ls (S.map (cv E B))) : HOk T B N0 D kc E pc len S H S' H :=
  ⟨⟨Nat.le_refl _, Nat.le_refl _⟩, fun HF T0 hRc hRs hl hs Hm locs cells slots Q ls hP hS h1 h2 hls w => h Hm locs cells slots Q ls hP hS hls.symm (by omega) (by omega) (w Hm locs cells slots hP hS h1 h2)⟩
theorem wd_le {E : Nat → Nat} {B k c : Nat} {S : ST} (h : words S ≤ 8) (hk : 400 ≤ k) (hc : c ≤ 300) : ((S.map (cv E B)).map fun v => v.category).sum + c ≤ k := by
  rw [words_eq]
  omega
theorem words_tl {v : AV} {S : ST} (h : words (v :: S) ≤ 8) : words S ≤ 8 := Nat.le_trans (Nat.le_add_left _ _) h
theorem yA_row (kc : Nat → ClassId) (B : Nat) (h : DT) (a n sp dp m l : Nat) : ce kc B (yA h a n sp dp l) n (.inr (.inl (0, m))) = .inl (kc 0, m, .inl (va_cpy (fun j => gA h a j) (fun j => gA h n j) sp dp l)) := by
  simp only [ce]
  congr 4
  funext b
  simp [gA, yA, up1, va_cpy]
theorem yB_row (kc : Nat → ClassId) (B : Nat) (h : DT) (a n sp dp m l : Nat) : ce kc B (yB h a n sp dp l) n (.inr (.inl (2, m))) = .inl (kc 2, m, .inr (.inl (va_cpy (fun j => gB h a j) (fun j => gB h n j) sp dp l))) := by
  simp only [ce]
  congr 5
  funext b
  simp [gB, yB, up1, va_cpy]
theorem nfw : nativeFrameWords "java/lang/System" "arraycopy" 5 + 11 ≤ 300 := by decide +kernel
set_option maxRecDepth 20000 in
set_option maxHeartbeats 4000000 in
theorem j_bit {T : TT} {own n : Nat} {isI : Bool} {cc : ByteArray} {B N0 : Nat} {D : va_G} {kc : Nat → ClassId} {E V : Nat → Nat} {X : XS} (C : Cx T own n isI cc B N0 D kc E V X) {pc ix : Nat} (hd : decode cc pc = .ok (.invokestatic ix, 3)) (hl : Cond.methodLink (RN own) ix (BN 3) ∈ gtb) (v : Int32) (S : ST) (H : HP) (hw : words S ≤ 8) : HOk T B N0 D kc E pc 3 (vI v :: S) H (vI (bitC v) :: S) H := by
  obtain ⟨hx, hb, hml, hown, hts, hlk, hini, hcw, hsz, hfr, hlo⟩ := id C
  have hwd : (((S.map (cv E B)).map fun v => v.category).sum) ≤ 8 := by rw [words_eq]; exact hw
  have h0 := HOk.call (r := some (vI (bitC v))) (S := vI v :: S) (S' := S) (H1 := H) (a := [Value.int v].toArray) (pc := pc) C ⟨Nat.le_refl _, Nat.le_refl _⟩ fun Hm locs cells slots ls hP hS hz hls hf => by
    rw [Nat.sub_self, Nat.sub_self] at hf ⊢
    exact va_runS (n := 1) (As := [.int v]) ⟨hx, hb, hml, hown, hts⟩ (cj_bit T.2.1 B D kc E V X v H) ⟨callB_of _ hts (wj_good (i := 1127) rfl) rfl rfl rfl (hts _ (tblw (i := 128) (by decide +kernel) rfl)) (hts _ hl) ⟨by decide, by decide, by decide +kernel⟩ ⟨Nat.le_trans (Nat.le_of_ble_eq_true rfl) hfr, Nat.le_trans (Nat.le_of_ble_eq_true rfl) hlo⟩, hts _ (tblw (i := 1126) (by decide +kernel) rfl)⟩ ⟨PcV_blind, fun U hU hW => ⟨rfl, by rw [hU]; exact hP, hcw.warm hW hU hS, by rw [hU]; exact hz⟩⟩ rfl rfl (by rw [← hml]; exact hls) rfl (lv_room hwd) hd hf
  exact h0
set_option maxRecDepth 20000 in
set_option maxHeartbeats 4000000 in
theorem j_len {T : TT} {own n : Nat} {isI : Bool} {cc : ByteArray} {B N0 : Nat} {D : va_G} {kc : Nat → ClassId} {E V : Nat → Nat} {X : XS} (C : Cx T own n isI cc B N0 D kc E V X) {pc ix : Nat} (hd : decode cc pc = .ok (.invokevirtual ix, 3)) (hl : Cond.methodLink (RN own) ix (BN 6) ∈ gtb) (i : Nat) (hi : i < 29) (S : ST) (H : HP) (hw : words S ≤ 8) : HOk T B N0 D kc E pc 3 (vE i :: S) H (vI (Int32.ofNat (texts0.getD i []).length) :: S) H := by
  obtain ⟨hx, hb, hml, hown, hts, hlk, hini, hcw, hsz, hfr, hlo⟩ := id C
  obtain ⟨g1, -⟩ := hcw.2.2.2.1 i hi
  have hwd : (((S.map (cv E B)).map fun v => v.category).sum) ≤ 8 := by rw [words_eq]; exact hw
  have h0 := HOk.call (r := some (vI (Int32.ofNat (texts0.getD i []).length))) (S := vE i :: S) (S' := S) (H1 := H) (a := [Value.ref (E i)].toArray) (pc := pc) C ⟨Nat.le_refl _, Nat.le_refl _⟩ fun Hm locs cells slots ls hP hS hz hls hf => by
    rw [Nat.sub_self, Nat.sub_self] at hf ⊢
    exact va_runV (n := 0) (b := E i) (As := []) ⟨hx, hb, hml, hown, hts⟩ (cj_len T.2.1 B D kc E V X i hi H) ⟨callB_of _ hts (wj_good (i := 533) rfl) rfl rfl rfl (hts _ (tblw (i := 121) (by decide +kernel) rfl)) (hts _ hl) ⟨by decide, by decide, by decide +kernel⟩ ⟨Nat.le_trans (Nat.le_of_ble_eq_true rfl) hfr, Nat.le_trans (Nat.le_of_ble_eq_true rfl) hlo⟩, hts _ (tblw (i := 531) (by decide +kernel) rfl), hts _ (tblw (i := 532) (by decide +kernel) rfl)⟩ ⟨PcV_blind, sRecv g1 hS, fun U hU hW => ⟨rfl, by rw [hU]; exact hP, hcw.warm hW hU hS, by rw [hU]; exact hz⟩⟩ rfl rfl (by rw [← hml]; exact hls) rfl (lv_room hwd) hd hf
  exact h0
set_option maxRecDepth 20000 in
set_option maxHeartbeats 4000000 in
theorem j_chr {T : TT} {own n : Nat} {isI : Bool} {cc : ByteArray} {B N0 : Nat} {D : va_G} {kc : Nat → ClassId} {E V : Nat → Nat} {X : XS} (C : Cx T own n isI cc B N0 D kc E V X) {pc ix : Nat} (hd : decode cc pc = .ok (.invokevirtual ix, 3)) (hl : Cond.methodLink (RN own) ix (BN 7) ∈ gtb) (i : Nat) (hi : i < 29) (j : Int32) (hj : vp_in j (texts0.getD i []).length) (S : ST) (H : HP) (hw : words S ≤ 8) : HOk T B N0 D kc E pc 3 (vI j :: vE i :: S) H (vI ((texts0.getD i []).getD j.toNatClampNeg 0) :: S) H := by
  obtain ⟨hx, hb, hml, hown, hts, hlk, hini, hcw, hsz, hfr, hlo⟩ := id C
  obtain ⟨g1, -⟩ := hcw.2.2.2.1 i hi
  have hwd : (((S.map (cv E B)).map fun v => v.category).sum) ≤ 8 := by rw [words_eq]; exact hw
  have h0 := HOk.call (r := some (vI ((texts0.getD i []).getD j.toNatClampNeg 0))) (S := vI j :: vE i :: S) (S' := S) (H1 := H) (a := [Value.ref (E i), Value.int j].toArray) (pc := pc) C ⟨Nat.le_refl _, Nat.le_refl _⟩ fun Hm locs cells slots ls hP hS hz hls hf => by
    rw [Nat.sub_self, Nat.sub_self] at hf ⊢
    exact va_runV (n := 1) (b := E i) (As := [.int j]) ⟨hx, hb, hml, hown, hts⟩ (cj_chr T.2.1 B D kc E V X i hi j hj H) ⟨callB_of _ hts (wj_good (i := 543) rfl) rfl rfl rfl (hts _ (tblw (i := 121) (by decide +kernel) rfl)) (hts _ hl) ⟨by decide, by decide, by decide +kernel⟩ ⟨Nat.le_trans (Nat.le_of_ble_eq_true rfl) hfr, Nat.le_trans (Nat.le_of_ble_eq_true rfl) hlo⟩, hts _ (tblw (i := 541) (by decide +kernel) rfl), hts _ (tblw (i := 542) (by decide +kernel) rfl)⟩ ⟨PcV_blind, sRecv g1 hS, fun U hU hW => ⟨rfl, by rw [hU]; exact hP, hcw.warm hW hU hS, by rw [hU]; exact hz⟩⟩ rfl rfl (by rw [← hml]; exact hls) rfl (lv_room hwd) hd hf
  exact h0
set_option maxHeartbeats 4000000 in
theorem opJ_st {T : TT} {own n : Nat} {isI : Bool} {cc : ByteArray} {B N0 : Nat} {D : va_G} {kc : Nat → ClassId} {E V : Nat → Nat} {X : XS} (C : Cx T own n isI cc B N0 D kc E V X) {pc ix b : Nat} (hd : decode cc pc = .ok (.invokestatic ix, 3)) (hl : Cond.methodLink (RN own) ix (BN b) ∈ gtb) (hb0 : b < 6 ∨ b = 9 ∨ b = 10) {S : ST} {H : HP} {k : ST → HP → RR} {x : Option AV × HP} (hw : words S ≤ 8) (h : opJ b S H k = some x) :
    ∃ S' H', k S' H' = some x ∧ HOk T B N0 D kc E pc 3 S H S' H' := by
  obtain ⟨hx, hb, hml, hown, hts, hlk, hini, hcw, hsz, hfr, hlo⟩ := id C
  obtain ⟨hK, -⟩ := id hcw
  have hf1 : 1 ≤ T.2.2.2.1.frames := Nat.le_trans (Nat.le_of_ble_eq_true rfl) hfr
  match b, hl, hb0, h with
  | 0, hl, _, h =>
    simp only [opJ] at h
    obtain ⟨a, c, S', rfl, h1⟩ := i2_inv h
    refine ⟨_, _, h1, HOk.lib fun Hm locs cells slots Q ls hP hS hls hc hs w => ?_⟩
    exact va_mmax hx hb hls hown (hts _ hl) (hts _ (tblw (i := 1059) (by decide +kernel) rfl)) (hts _ (tblw (i := 120) (by decide +kernel) rfl)) (hts _ (tblw (i := 1060) (by decide +kernel) rfl)) hf1 (wd_le (words_tl (words_tl hw)) hlo (Nat.le_of_ble_eq_true rfl)) hc hs hd w
  | 1, hl, _, h =>
    simp only [opJ] at h
    obtain ⟨a, c, S', rfl, h1⟩ := i2_inv h
    refine ⟨_, _, h1, HOk.lib fun Hm locs cells slots Q ls hP hS hls hc hs w => ?_⟩
    exact va_mmin hx hb hls hown (hts _ hl) (hts _ (tblw (i := 511) (by decide +kernel) rfl)) (hts _ (tblw (i := 120) (by decide +kernel) rfl)) (hts _ (tblw (i := 512) (by decide +kernel) rfl)) hf1 (wd_le (words_tl (words_tl hw)) hlo (Nat.le_of_ble_eq_true rfl)) hc hs hd w
  | 2, hl, _, h =>
    obtain ⟨a, S', rfl, h1⟩ := tI_inv h
    refine ⟨_, _, h1, HOk.lib fun Hm locs cells slots Q ls hP hS hls hc hs w => ?_⟩
    exact va_mabs hx hb hls hown (hts _ hl) (hts _ (tblw (i := 1018) (by decide +kernel) rfl)) (hts _ (tblw (i := 120) (by decide +kernel) rfl)) (hts _ (tblw (i := 1019) (by decide +kernel) rfl)) hf1 (wd_le (words_tl hw) hlo (Nat.le_of_ble_eq_true rfl)) hc hs hd w
  | 3, hl, _, h =>
    obtain ⟨a, S', rfl, h1⟩ := tI_inv h
    exact ⟨_, _, h1, j_bit C hd hl a S' H (words_tl hw)⟩
  | 4, hl, _, h =>
    obtain ⟨m0, S0, rfl, h1⟩ := tI_inv h
    obtain ⟨dp, S1, rfl, h2⟩ := tI_inv h1
    obtain ⟨b1, S2, rfl, h3⟩ := tN_inv h2
    obtain ⟨sp, S3, rfl, h4⟩ := tI_inv h3
    obtain ⟨a1, S4, rfl, h5⟩ := tN_inv h4
    obtain ⟨n0, hn0, h6⟩ := oneN_inv h5
    obtain ⟨n1, hn1, h7⟩ := oneN_inv h6
    obtain ⟨hc, h8⟩ := ite_inv h7
    simp only [not_or, Nat.not_lt] at hc
    obtain ⟨c1, c2, c3, c4, c5⟩ := hc
    refine ⟨_, _, h8, HOk.write rfl rfl fun Hm locs cells slots Q ls hP hS hls w => ?_⟩
    refine va_copyi (ty := .int) hx hb hls.symm hown (hts _ hl) (hts _ (tblw (i := 741) (by decide +kernel) rfl)) (hts _ (tblw (i := 740) (by decide +kernel) rfl)) (hts _ (tblw (i := 125) (by decide +kernel) rfl)) hK hP (wsO_D kc B H) hS a1 b1 0 0 (wsO_at hn0) (wsO_at hn1) rfl rfl rfl c1 c2 c3 c4 c5 (fun _ _ => rfl) hf1 (wd_le (words_tl (words_tl (words_tl (words_tl (words_tl hw))))) hlo nfw) hd fun H1 l1 hP1 _ hS1 => w H1 l1 ?_ hS1
    rw [wsO_set1 hn1 (agr_yA _ _ _ _ _ _), yA_row]
    exact hP1
  | 5, hl, _, h =>
    obtain ⟨m0, S0, rfl, h1⟩ := tI_inv h
    obtain ⟨dp, S1, rfl, h2⟩ := tI_inv h1
    obtain ⟨b1, S2, rfl, h3⟩ := tN_inv h2
    obtain ⟨sp, S3, rfl, h4⟩ := tI_inv h3
    obtain ⟨a1, S4, rfl, h5⟩ := tN_inv h4
    obtain ⟨n0, hn0, h6⟩ := oneN_inv h5
    obtain ⟨n1, hn1, h7⟩ := oneN_inv h6
    obtain ⟨hc, h8⟩ := ite_inv h7
    simp only [not_or, Nat.not_lt] at hc
    obtain ⟨c1, c2, c3, c4, c5⟩ := hc
    refine ⟨_, _, h8, HOk.write rfl rfl fun Hm locs cells slots Q ls hP hS hls w => ?_⟩
    refine va_copyl (ty := .long) hx hb hls.symm hown (hts _ hl) (hts _ (tblw (i := 741) (by decide +kernel) rfl)) (hts _ (tblw (i := 740) (by decide +kernel) rfl)) (hts _ (tblw (i := 125) (by decide +kernel) rfl)) hK hP (wsO_D kc B H) hS a1 b1 2 2 (wsO_at hn0) (wsO_at hn1) rfl rfl rfl c1 c2 c3 c4 c5 (fun _ _ => rfl) hf1 (wd_le (words_tl (words_tl (words_tl (words_tl (words_tl hw))))) hlo nfw) hd fun H1 l1 hP1 _ hS1 => w H1 l1 ?_ hS1
    rw [wsO_set1 hn1 (agr_yB _ _ _ _ _ _), yB_row]
    exact hP1
  | 6, _, hb0, _ => omega
  | 7, _, hb0, _ => omega
  | 8, _, hb0, _ => omega
  | 9, hl, _, h =>
    simp only [opJ] at h
    obtain ⟨a, c, S', rfl, h1⟩ := l2_inv h
    refine ⟨_, _, h1, HOk.lib fun Hm locs cells slots Q ls hP hS hls hc hs w => ?_⟩
    exact va_mmax_long hx hb hls hown (hts _ hl) (hts _ (tblw (i := 847) (by decide +kernel) rfl)) (hts _ (tblw (i := 120) (by decide +kernel) rfl)) (hts _ (tblw (i := 848) (by decide +kernel) rfl)) hf1 (wd_le (words_tl (words_tl hw)) hlo (Nat.le_of_ble_eq_true rfl)) hc hs hd w
  | 10, hl, _, h =>
    simp only [opJ] at h
    obtain ⟨a, c, S', rfl, h1⟩ := l2_inv h
    refine ⟨_, _, h1, HOk.lib fun Hm locs cells slots Q ls hP hS hls hc hs w => ?_⟩
    exact va_mmin_long hx hb hls hown (hts _ hl) (hts _ (tblw (i := 844) (by decide +kernel) rfl)) (hts _ (tblw (i := 120) (by decide +kernel) rfl)) (hts _ (tblw (i := 845) (by decide +kernel) rfl)) hf1 (wd_le (words_tl (words_tl hw)) hlo (Nat.le_of_ble_eq_true rfl)) hc hs hd w
  | b + 11, _, hb0, _ => omega
theorem opJ_vi {T : TT} {own n : Nat} {isI : Bool} {cc : ByteArray} {B N0 : Nat} {D : va_G} {kc : Nat → ClassId} {E V : Nat → Nat} {X : XS} (C : Cx T own n isI cc B N0 D kc E V X) {pc ix b : Nat} (hd : decode cc pc = .ok (.invokevirtual ix, 3)) (hl : Cond.methodLink (RN own) ix (BN b) ∈ gtb) (hb0 : b = 6 ∨ b = 7) {S : ST} {H : HP} {k : ST → HP → RR} {x : Option AV × HP} (hw : words S ≤ 8) (h : opJ b S H k = some x) :
    ∃ S' H', k S' H' = some x ∧ HOk T B N0 D kc E pc 3 S H S' H' := by
  rcases hb0 with rfl | rfl
  · simp only [opJ] at h
    split at h
    · rename_i e S1
      obtain ⟨he, h1⟩ := bif_inv h
      exact ⟨_, _, h1, j_len C hd hl e (Nat.le_of_ble_eq_true he) S1 H (words_tl hw)⟩
    · cases h
  · simp only [opJ] at h
    obtain ⟨j, S0, rfl, h0⟩ := tI_inv h
    split at h0
    · rename_i e S1
      obtain ⟨he, h1⟩ := bif_inv h0
      obtain ⟨hj, h2⟩ := inb_inv h1
      exact ⟨_, _, h2, j_chr C hd hl e (Nat.le_of_ble_eq_true he) j hj S1 H (words_tl (words_tl hw))⟩
    · cases h0
theorem opJ_sp {T : TT} {own n : Nat} {isI : Bool} {cc : ByteArray} {B N0 : Nat} {D : va_G} {kc : Nat → ClassId} {E V : Nat → Nat} {X : XS} (C : Cx T own n isI cc B N0 D kc E V X) {pc ix : Nat} (hd : decode cc pc = .ok (.invokespecial ix, 3)) (hl : Cond.methodLink (RN own) ix (BN 8) ∈ gtb) {S : ST} {H : HP} {k : ST → HP → RR} {x : Option AV × HP} (hw : words S ≤ 8) (h : opJ 8 S H k = some x) :
    ∃ S' H', k S' H' = some x ∧ HOk T B N0 D kc E pc 3 S H S' H' := by
  obtain ⟨hx, hb, hml, hown, hts, hlk, hini, hcw, hsz, hfr, hlo⟩ := id C
  have hf1 : 1 ≤ T.2.2.2.1.frames := Nat.le_trans (Nat.le_of_ble_eq_true rfl) hfr
  obtain ⟨a, S', rfl, h1⟩ := tN_inv h
  refine ⟨_, _, h1, HOk.lib fun Hm locs cells slots Q ls hP hS hls hc hs w => ?_⟩
  refine W.objInit hx hb hown (hts _ hl) (hts _ (tblw (i := 135) (by decide +kernel) rfl)) (hts _ (tblw (i := 136) (by decide +kernel) rfl)) rfl hls.symm rfl hd hf1 ?_ w
  have := wd_le (E := E) (B := B) (words_tl hw) hlo (c := 12) (Nat.le_of_ble_eq_true rfl)
  show 2 * 0 + _ + 12 ≤ _
  omega
