/-! A METHOD of the small machine is the large one's -/
theorem exm_ok {T : TT} {own n : Nat} {isI : Bool} {cc : ByteArray} {B N0 T0 : Nat} {D : va_G} {kc : Nat → ClassId} {E V : Nat → Nat} {X : XS} (C : Cx T own n isI cc B N0 D kc E V X) {d rt : Nat} {call : Nat → List AV → HP → RR} (hcall : CallOk T.2.1 B D kc E V X d call) (hR : d + 10 ≤ T.2.2.2.1.frames ∧ 100 * d + 500 ≤ T.2.2.2.1.locals) {Q : State → Prop} {HF : HP} {r : Option AV} (hRc : HF.1.length - N0 ≤ T.2.2.2.1.cells) (hRs : tot HF.1 - T0 ≤ T.2.2.2.1.slots) {code : List EN} (hg : gd own isI cc code = true)
    (hret : ∀ (pc : Nat) (i : Instr) (L : LL) (S : ST) (H : HP), decode cc pc = .ok (i, 1) → opR rt i S H = some (r, HF) → Pnt T B N0 T0 n D kc E Q HF pc L S H) {K : Nat → LL → ST → HP → RR} (hK : ∀ (pc : Nat) (L : LL) (S : ST) (H : HP), K pc L S H = some (r, HF) → Pnt T B N0 T0 n D kc E Q HF pc L S H) :
    ∀ (f : Nat) (b : Bool) (is : List EN) (L : LL) (S : ST) (H : HP), gd own isI cc is = true → exm X call n rt code f b is L S H K = some (r, HF) → is ≠ [] ∧ Pnt T B N0 T0 n D kc E Q HF (hdP is) L S H
  | 0, b, is, L, S, H, hgd, h => by cases h
  | f + 1, b, [], L, S, H, hgd, h => by cases h
  | f + 1, b, (pc, cut, i, len, ax, cI, cL) :: is, L, S, H, hgd, h => by
    refine ⟨List.cons_ne_nil _ _, ?_⟩
    unfold exm at h
    split at h
    · obtain ⟨hm, w⟩ := hK _ _ _ _ h
      exact ⟨hm, fun Hm locs cells slots ls hP hS hc hs hl => w Hm locs cells slots ls hP hS hc hs (rs_has hl)⟩
    · exact stp_ok C hcall hR hRc hRs hg hret hgd (fun is' L' S' H' hg' h' => exm_ok C hcall hR hRc hRs hg hret hK f false is' L' S' H' hg' h') h
theorem rcm_ok {T : TT} {own n : Nat} {isI : Bool} {cc : ByteArray} {B N0 T0 : Nat} {D : va_G} {kc : Nat → ClassId} {E V : Nat → Nat} {X : XS} (C : Cx T own n isI cc B N0 D kc E V X) {d rt : Nat} {call : Nat → List AV → HP → RR} (hcall : CallOk T.2.1 B D kc E V X d call) (hR : d + 10 ≤ T.2.2.2.1.frames ∧ 100 * d + 500 ≤ T.2.2.2.1.locals) {Q : State → Prop} {HF : HP} {r : Option AV} (hRc : HF.1.length - N0 ≤ T.2.2.2.1.cells) (hRs : tot HF.1 - T0 ≤ T.2.2.2.1.slots) {code : List EN} (hg : gd own isI cc code = true)
    (hret : ∀ (pc : Nat) (i : Instr) (L : LL) (S : ST) (H : HP), decode cc pc = .ok (i, 1) → opR rt i S H = some (r, HF) → Pnt T B N0 T0 n D kc E Q HF pc L S H) :
    ∀ (f pc : Nat) (L : LL) (S : ST) (H : HP), rcm X call n rt code f pc L S H = some (r, HF) → Pnt T B N0 T0 n D kc E Q HF pc L S H
  | 0, pc, L, S, H, h => by cases h
  | f + 1, pc, L, S, H, h => by
    obtain ⟨hne, w⟩ := exm_ok C hcall hR hRc hRs hg hret (fun pc L S H h' => rcm_ok C hcall hR hRc hRs hg hret f pc L S H h') 5000 true (jt pc code) L S H (gd_jt hg) h
    rw [jt_hd hne] at w
    exact w
theorem iniL_args (E : Nat → Nat) (B : Nat) : ∀ (as : List AV) (i : Nat), cLL E B (iniL i as) = lv_args i (as.map (cv E B))
  | [], i => rfl
  | v :: as, i => by
    have e : (if (cv E B v).category = 2 then i + 2 else i + 1) = i + cat1 v := by
      rw [cat_cv]
      match v with
      | .inl x => rfl
      | .inr (.inl x) => rfl
      | .inr (.inr x) => rfl
    show (i, cv E B v) :: cLL E B (iniL (i + cat1 v) as) = (i, cv E B v) :: lv_args (if (cv E B v).category = 2 then i + 2 else i + 1) (as.map (cv E B))
    rw [e, iniL_args E B as]
theorem lg_len (E : Nat → Nat) (B : Nat) (as : List AV) : (lg_sl (as.map (cv E B))).length = words as := by
  induction as with
  | nil => rfl
  | cons v as ih =>
    have e : lg_sl ((v :: as).map (cv E B)) = (if (cv E B v).category = 2 then [.val (cv E B v), .second] else [.val (cv E B v)]) ++ lg_sl (as.map (cv E B)) := rfl
    rw [e, List.length_append, ih, cat_cv]
    show _ = cat1 v + words as
    congr 1
    match v with
    | .inl x => rfl
    | .inr (.inl x) => rfl
    | .inr (.inr x) => rfl
/-- a method's return -/
theorem ret_ok {T : TT} {own n : Nat} {isI : Bool} {cc : ByteArray} {B N0 T0 : Nat} {D : va_G} {kc : Nat → ClassId} {E V : Nat → Nat} {X : XS} (C : Cx T own n isI cc B N0 D kc E V X) {rt : Nat} {ret : Option FieldType} (hrt : rtOk rt ret = true) (hr : T.2.2.2.2.2.2.2.2.1.sig.returnType = ret) {HF : HP} {r : Option AV} {pc : Nat} {i : Instr} {L : LL} {S : ST} {H : HP} (hd : decode cc pc = .ok (i, 1)) (h : opR rt i S H = some (r, HF)) :
    Pnt T B N0 T0 n D kc E (MQ T.2.2.2.2.2.2.2.1 (QcM B D kc E r HF) T.2.2.2.2.2.2.1 T.2.2.2.2.1 (HF.1.length - N0) (tot HF.1 - T0) (fun a => B ≤ a)) HF pc L S H := by
  obtain ⟨hx, hb, hml, hown, hts, hlk, -⟩ := id C
  have hH : HF = H := opR_eq h
  subst hH
  refine ⟨⟨Nat.le_refl _, Nat.le_refl _⟩, fun Hm locs cells slots ls hP hS hc hs hl => ?_⟩
  have e1 : cells = HF.1.length - N0 := by omega
  have e2 : slots = tot HF.1 - T0 := by omega
  subst e1
  subst e2
  have hf : ∀ q ∈ locs, B ≤ q.base := hS.2.2
  have hq : ∀ (v : Option AV) (t : State), v = r → t.heap = Hm → QcM B D kc E r HF T.2.2.2.2.2.2.1 T.2.2.2.2.1 (.returned (v.map (cv E B))) t := fun v t hv ht => by
    subst hv
    exact ⟨rfl, by rw [ht]; exact hP, hS.F ht⟩
  unfold opR at h
  split at h
  · split at h
    · cases h
      have hrn : ret = none := by
        unfold rtOk at hrt
        split at hrt <;> simp_all
      exact W.vret hx hb (by rw [hr, hrn]) (fun t ht _ => hq none t rfl ht) hf hd hlk
    · cases h
  · split at h
    · cases h
      have hrn : ret = some .int := by
        unfold rtOk at hrt
        split at hrt <;> simp_all
      exact W.iret hx hb (by rw [hr, hrn]) (fun t ht _ => hq (some _) t rfl ht) hf hd hlk
    · split at h
      · rename_i x hx01
        cases h
        have hrn : ret = some .boolean := by
          unfold rtOk at hrt
          split at hrt <;> simp_all
        exact W.zret hx hb (by rw [hr, hrn]) (by rcases hx01 with rfl | rfl <;> rfl) (fun t ht _ => hq (some _) t rfl ht) hf hd hlk
      · cases h
    · cases h
  · split at h
    · cases h
      have hrn : ret = some .long := by
        unfold rtOk at hrt
        split at hrt <;> simp_all
      exact W.lret hx hb (by rw [hr, hrn]) (fun t ht _ => hq (some _) t rfl ht) hf hd hlk
    · cases h
  · split at h
    · rename_i x
      cases h
      obtain ⟨rty, hrn, hk⟩ : ∃ rty, ret = some rty ∧ ((∃ n, rty = .object n) ∨ ∃ t, rty = .array t) := by
        unfold rtOk at hrt
        split at hrt <;> simp_all
      exact W.aret (v := cv E B (vP x)) hx hb (by rw [hr, hrn]) hk (by cases x with
        | none => exact Or.inl rfl
        | some q => exact Or.inr ⟨_, rfl⟩) (fun t ht _ => hq (some _) t rfl ht) hf hd hlk
    · cases h
  · cases h
set_option maxHeartbeats 4000000 in
/-- EVERY CALL of the small machine is the large one's -/
theorem cal_ok (l : Launch) (B : Nat) (D : va_G) (kc : Nat → ClassId) (E V : Nat → Nat) (X : XS) : ∀ d : Nat, CallOk l B D kc E V X d (cal X d)
  | 0 => fun y as H r H' h => by cases h
  | d + 1 => fun y as H r H' h => by
    refine ⟨cal_mono (d + 1) y as H r H' h, fun q hq hy => ?_⟩
    have hok := okY_all hy
    unfold okY at hok
    unfold cal at h
    rw [hq] at hok
    cases hm : nth MT y with
    | none => rw [hm] at h; cases h
    | some mm =>
      obtain ⟨o, n, rt, code⟩ := mm
      rw [hm] at h hok
      simp only [Bool.and_eq_true, Nat.beq_eq, decide_eq_true_eq] at hok
      obtain ⟨⟨⟨hgd, hn⟩, hrt⟩, hcls⟩ := hok
      obtain ⟨hwd, h⟩ := bif_inv h
      obtain ⟨u1, u2, u3, u4, u5, u6⟩ := yOk_use hq hy
      refine Met.ofW (cc := q.2.1) (maxL := q.2.2.1) (ret := q.2.2.2.1) (ws' := gtb) u5 rfl ?_
      intro p e s m args below meth c s₁ Bd hml hv
      obtain ⟨rfl, hP, hcw, hz⟩ := hv
      have hts : ∀ w ∈ gtb, w.before (as.map (cv E B)).toArray s = true := fun w hw => atoms_spec (ws := wY q) Bd.pre w (List.mem_cons_of_mem _ hw)
      have hown : s.vm.findClass (RN o) = some m.cls := by rw [← hcls]; exact findClass_of_methodNamed Bd.named
      have C : Cx (p, l, e, (headSpec (wY q) (rmD (d + 1) (H'.1.length - H.1.length) (tot H'.1 - tot H.1))).room, s, m, (as.map (cv E B)).toArray, below, meth, c) o n (decide (q.1.name = "<init>")) q.2.1 B H.1.length D kc E V X :=
        ⟨Bd.exec, Bd.bytes, hml.trans hn, hown, hts, Bd.notSynchronized, fun hi => by rw [(name_of_methodNamed Bd.named Bd.method).1]; exact of_decide_eq_true hi, hcw, hz, by show 9 ≤ d + 1 + 9; omega, by show 400 ≤ 100 * (d + 1) + 400; omega⟩
      obtain ⟨-, w⟩ := rcm_ok (T0 := tot H.1) C (cal_ok l B D kc E V X d) ⟨by show d + 10 ≤ d + 1 + 9; omega, by show 100 * d + 500 ≤ 100 * (d + 1) + 400; omega⟩ (HF := H') (r := r) (Nat.le_refl _) (Nat.le_refl _) hgd (fun pc i L S H1 hd1 h1 => ret_ok C hrt Bd.returns hd1 h1) 1000000 0 (iniL 0 as) [] H h
      have hl := lv_entry (as.map (cv E B)) (n := q.2.2.1) (by rw [lg_len, hn]; exact Nat.le_of_ble_eq_true hwd)
      rw [← iniL_args, hn] at hl
      have w2 := w s.heap [] 0 0 _ hP va_S.rf rfl rfl hl
      rw [lg_entry_eq, hn]
      exact w2
