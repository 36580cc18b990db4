/-! THE REFERENCE'S PILE: what begins and ends one -/
def KM (h : DT) (B : Nat → Nat) (L j lw n0 : Nat) (s : St) : Prop := KT h B L s.1 ∧ KPl h j n0 s.2.1 s.2.2.1 s.2.2.2.2 ∧ gF h 72 14 = nI lw ∧ gF h 72 18 = bzB s.2.2.2.1
def KO (tx tu gu : Option Nat) (tl : List SC) (B : Nat → Nat) (L j lw n0 : Nat) (cl : RR) (h : DT) (r : RO) : Prop := match r with
  | .inl s => ∃ h', cl = some (some (vI (0)), (SK tx tu gu tl, h')) ∧ KM h' B L j lw n0 s ∧ kF j n0 h h'
  | .inr q => ∃ h', cl = some (some (vI (nI q.1)), (SK tx tu gu tl, h')) ∧ gF h' 72 8 = nI (tkn B L q.2.1).2.2 ∧ kF j n0 h h'
theorem kf72 {j n0 : Nat} {h h' : DT} (s : smX (fun c => c = 72) h h') (e : ∀ z, z < 7 ∨ 11 ≤ z → gF h' 72 z = gF h 72 z) : kF j n0 h h' := ⟨s.mo (fun c hc => Or.inl hc), fun z hz => e z (by omega), fun x _ => by rw [smA s (by omega)]⟩
theorem KPl.c72 {h h' : DT} {j n0 o : Nat} {K : List Nat} {c : Cd} (H : KPl h j n0 K o c) (s : smX (fun c => c = 72) h h') (e : ∀ z, z = 12 ∨ z = 13 ∨ z = 16 ∨ z = 17 → gF h' 72 z = gF h 72 z) : KPl h' j n0 K o c := by
  obtain ⟨a1, a2, a3, a4, a5, a6, a7⟩ := H
  exact ⟨(e 12 (by omega)).trans a1, (e 16 (by omega)).trans a2, (e 17 (by omega)).trans a3, (e 13 (by omega)).trans a4, plA_cg K (fun x _ => by rw [smA s (by omega)]) a5, a6, cdA_cg (smA s (by omega)) _ c n0 a7⟩
section KB
variable (X : XS) (d : Nat) (tx tu gu : Option Nat) (tl : List SC)
theorem KO.bi {B : Nat → Nat} {L j lw n0 : Nat} {cl : RR} {h : DT} {r : RO} (H : KO tx tu gu tl B L j lw n0 cl h r) : KO tx tu gu tl B L j lw n0 (bI cl fun r H => some (some (vI r), H)) h r := by
  cases r with
  | inl s =>
    obtain ⟨h', e, e2⟩ := H
    rw [e, bI_s]
    exact ⟨h', rfl, e2⟩
  | inr q =>
    obtain ⟨h', e, e2⟩ := H
    rw [e, bI_s]
    exact ⟨h', rfl, e2⟩
theorem KO.pre {B : Nat → Nat} {L j lw n0 : Nat} {cl : RR} {h h1 : DT} {r : RO} (H : KO tx tu gu tl B L j lw n0 cl h1 r) (f : kF j n0 h h1) : KO tx tu gu tl B L j lw n0 cl h r := by
  cases r with
  | inl s =>
    obtain ⟨h', e, e2, e3⟩ := H
    exact ⟨h', e, e2, f.tr e3⟩
  | inr q =>
    obtain ⟨h', e, e2, e3⟩ := H
    exact ⟨h', e, e2, f.tr e3⟩
theorem k_nameOf {B : Nat → Nat} {L i : Nat} (h : DT) (H : KT h B L i) : cal X (d + 6) 191 [vP (some 72)] (SK tx tu gu tl, h) = some (some (vI (nmT (tkn B L) i)), (SK tx tu gu tl, h)) := by
  obtain ⟨k', b1, b2, b3⟩ := H.2.2.1
  rw [c_X11_nameOf, e_X11_nameOf_0, b1]
  by_cases g : (tkn B L i).1 = 2
  · rw [if_pos (show nI k' = 2 from (kK_n (m := 2) b2 b3 (by omega) (by omega) (by omega)).mpr g), kw8 X d tx tu gu tl, bL_s]
    by_cases g0 : (tkn B L i).2.1 = 8
    · rw [e_X11_nameOf_25, if_pos ((k_cmpW (by omega) H g).mpr g0)]
      unfold nmT
      rw [g0, if_pos ⟨g, by decide⟩]
      rfl
    rw [e_X11_nameOf_25, if_neg (fun z => g0 ((k_cmpW (by omega) H g).mp z)), kw19 X d tx tu gu tl, bL_s]
    by_cases g1 : (tkn B L i).2.1 = 19
    · rw [e_X11_nameOf_46, if_pos ((k_cmpW (by omega) H g).mpr g1)]
      unfold nmT
      rw [g1, if_pos ⟨g, by decide⟩]
      rfl
    rw [e_X11_nameOf_46, if_neg (fun z => g1 ((k_cmpW (by omega) H g).mp z)), kw20 X d tx tu gu tl, bL_s]
    by_cases g2 : (tkn B L i).2.1 = 20
    · rw [e_X11_nameOf_71, if_pos ((k_cmpW (by omega) H g).mpr g2)]
      unfold nmT
      rw [g2, if_pos ⟨g, by decide⟩]
      rfl
    rw [e_X11_nameOf_71, if_neg (fun z => g2 ((k_cmpW (by omega) H g).mp z)), kw21 X d tx tu gu tl, bL_s]
    by_cases g3 : (tkn B L i).2.1 = 21
    · rw [e_X11_nameOf_90, if_pos ((k_cmpW (by omega) H g).mpr g3)]
      unfold nmT
      rw [g3, if_pos ⟨g, by decide⟩]
      rfl
    rw [e_X11_nameOf_90, if_neg (fun z => g3 ((k_cmpW (by omega) H g).mp z)), kw22 X d tx tu gu tl, bL_s]
    by_cases g4 : (tkn B L i).2.1 = 22
    · rw [e_X11_nameOf_113, if_pos ((k_cmpW (by omega) H g).mpr g4)]
      unfold nmT
      rw [g4, if_pos ⟨g, by decide⟩]
      rfl
    rw [e_X11_nameOf_113, if_neg (fun z => g4 ((k_cmpW (by omega) H g).mp z)), kw23 X d tx tu gu tl, bL_s]
    by_cases g5 : (tkn B L i).2.1 = 23
    · rw [e_X11_nameOf_134, if_pos ((k_cmpW (by omega) H g).mpr g5)]
      unfold nmT
      rw [g5, if_pos ⟨g, by decide⟩]
      rfl
    rw [e_X11_nameOf_134, if_neg (fun z => g5 ((k_cmpW (by omega) H g).mp z)), kw24 X d tx tu gu tl, bL_s]
    by_cases g6 : (tkn B L i).2.1 = 24
    · rw [e_X11_nameOf_157, if_pos ((k_cmpW (by omega) H g).mpr g6)]
      unfold nmT
      rw [g6, if_pos ⟨g, by decide⟩]
      rfl
    rw [e_X11_nameOf_157, if_neg (fun z => g6 ((k_cmpW (by omega) H g).mp z)), kw25 X d tx tu gu tl, bL_s]
    by_cases g7 : (tkn B L i).2.1 = 25
    · rw [e_X11_nameOf_179, if_pos ((k_cmpW (by omega) H g).mpr g7)]
      unfold nmT
      rw [g7, if_pos ⟨g, by decide⟩]
      rfl
    rw [e_X11_nameOf_179, if_neg (fun z => g7 ((k_cmpW (by omega) H g).mp z)), kw26 X d tx tu gu tl, bL_s]
    by_cases g8 : (tkn B L i).2.1 = 26
    · rw [if_pos ((k_cmpW (by omega) H g).mpr g8)]
      unfold nmT
      rw [g8, if_pos ⟨g, by decide⟩]
      rfl
    rw [if_neg (fun z => g8 ((k_cmpW (by omega) H g).mp z))]
    unfold nmT
    rw [if_neg]
    rintro ⟨_, h2⟩
    unfold gNam at h2
    rw [if_neg g0, if_neg (by omega)] at h2
    omega
  · rw [if_neg (show ¬ nI k' = 2 from fun z => g ((kK_n (m := 2) b2 b3 (by omega) (by omega) (by omega)).mp z))]
    unfold nmT
    rw [if_neg (fun z => g z.1)]
theorem of_dec : ∀ nm, nm < 9 → ∀ lw, lw < 2 → (if nI nm < 5 then (1 : Int32) else if 7 ≤ nI nm then (if nI lw = 1 then 1 else 0) else if nI lw = 0 then 1 else 0) = bzB (gOf lw nm) := by decide +kernel
theorem k_isOf {lw nm : Nat} (hlw : lw < 2) (hn : nm < 9) (h : DT) (h14 : gF h 72 14 = nI lw) : cal X (d + 1) 192 [vP (some 72), vI (nI nm)] (SK tx tu gu tl, h) = some (some (vI (bzB (gOf lw nm))), (SK tx tu gu tl, h)) := by
  rw [c_X11_isOf, e_X11_isOf_0, h14]
  simp only [iteR]
  exact rI (of_dec nm hn lw hlw)
theorem k_opened {B : Nat → Nat} {L j lw n0 i o p : Nat} {K : List Nat} {c : Cd} (h : DT) (H : KM h B L j lw n0 (i, K, o, false, c)) (ho : o ≤ 8) (hK : K.length < 160) (hp : p < 1000) : KO tx tu gu tl B L j lw n0 (cal X (d + 3) 199 [vP (some 72), vI (nI p)] (SK tx tu gu tl, h)) h (rOpn i p K o c) := by
  obtain ⟨t1, ⟨a1, a2, a3, a4, a5, a6, a7⟩, t3, t4⟩ := H
  change KT h B L i at t1
  change gF h 72 16 = nI K.length at a2
  change gF h 72 17 = nI o at a3
  rw [c_X11_opened, e_X11_opened_0, a3]
  unfold rOpn
  by_cases g : o = 8
  · rw [if_pos (show nI o = 8 by rw [g]; rfl), if_pos g]
    exact ⟨h, rfl, t1.2.1, kF.rf _ _ h⟩
  · rw [if_neg (show ¬ nI o = 8 from fun z => g ((nI_eq (a := o) (b := 8) (by omega) (by omega)).mp z)), if_neg g, a2, inbI (by omega) (by omega), nI_1, nI_1, sA_w]
    generalize hg : sF (wA (sF h 72 17 (nI (o + 1))) 77 (upd (gA (sF h 72 17 (nI (o + 1))) 77) K.length (nI p))) 72 16 (nI (K.length + 1)) = h1
    have s1 : smX (fun c => c = 72 ∨ c = 77) h h1 := by rw [← hg]; exact smX.tr (smX.tr (smX_sF (Or.inl rfl)) (smX_wA (Or.inr rfl))) (smX_sF (Or.inl rfl))
    have f1 : ∀ z, z ≠ 16 → z ≠ 17 → gF h1 72 z = gF h 72 z := fun z h1 h2 => by
      rw [← hg, gF_sF, if_neg (fun y => h1 y.2), gF_wA, gF_sF, if_neg (fun y => h2 y.2)]
    have p1 : gA h1 77 = upd (gA h 77) K.length (nI p) := by
      rw [← hg]
      show gA (wA _ 77 _) 77 = _
      rw [gA_wA']
      rfl
    have g1 : gG h1 = gG h := by rw [← hg]; rfl
    have kf1 : kF j n0 h h1 := ⟨s1.mo (fun c hc => by omega), fun z hz => f1 z (by omega) (by omega), fun x _ => by rw [smA s1 (by omega)]⟩
    have H1 : KPl h1 j n0 (p :: K) (o + 1) c := by
      refine ⟨(f1 12 (by omega) (by omega)).trans a1, ?_, ?_, (f1 13 (by omega) (by omega)).trans a4, ⟨by rw [p1, pk_us], plA_cg K (fun x hx => by rw [p1, pk_un (by omega)]) a5⟩, fun q hq => ?_, cdA_cg (smA s1 (by omega)) _ c n0 a7⟩
      · rw [← hg, gF_sF, if_pos ⟨rfl, rfl⟩]
        rfl
      · rw [← hg, gF_sF, if_neg (by omega), gF_wA, gF_sF, if_pos ⟨rfl, rfl⟩]
      · rcases List.mem_cons.mp hq with rfl | hq
        · exact hp
        · exact a6 q hq
    have T1 : KT h1 B L i := t1.cg (fun z hz => f1 z (by omega) (by omega)) (smA s1 (by omega)) (by rw [g1])
    obtain ⟨h2, k1, k2, k3, k4⟩ := k_nxt X d tx tu gu tl h1 T1.1
    rw [k1, bV_s]
    exact ⟨h2, rfl, ⟨k2, H1.c72 k4 (fun z hz => k3 z (by omega)), by rw [k3 14 (by omega), f1 14 (by omega) (by omega)]; exact t3, by rw [k3 18 (by omega), f1 18 (by omega) (by omega)]; exact t4⟩, kf1.tr (kf72 k4 k3)⟩
theorem k_endOne {B : Nat → Nat} {L j lw n0 i o : Nat} {K : List Nat} {c : Cd} (hj : j < 4) (h : DT) (t1 : KT h B L i) (H : KPl h j n0 K o c) (t3 : gF h 72 14 = nI lw) (ho : o = cntO K) (hn : n0 + c.length + K.length ≤ 304) (hK : K.length ≤ 160) : KO tx tu gu tl B L j lw n0 (cal X (d + 6) 201 [vP (some 72)] (SK tx tu gu tl, h)) h (rEnd (tkn B L) i K o c) := by
  obtain ⟨h1, e1, e2, e3, e4, e5⟩ := k_settle X (d + 3) tx tu gu tl hj (r := 7) (by omega) (by omega) h H ho hn hK
  have hs : (stl 7 K o c).1.length ≤ K.length := by
    rw [ho]
    exact (stl_inv (r := 7) (by omega) K c).2.2.2.1
  rw [c_X11_endOne, e_X11_endOne_0, show (7 : Int32) = nI 7 from rfl, e1, bV_s, e_X11_endOne_6]
  unfold rEnd rE2
  have T1 : KT h1 B L i := t1.kt e3 e4
  revert e2 hs
  generalize (stl 7 K o c).1 = K1
  generalize (stl 7 K o c).2.1 = o1
  generalize (stl 7 K o c).2.2 = c1
  intro e2 hs
  generalize hg : sF h1 72 18 1 = h2
  have s2 : smX (fun c => c = 72) h1 h2 := by rw [← hg]; exact smX_sF rfl
  have f2 : ∀ z, z ≠ 18 → gF h2 72 z = gF h1 72 z := fun z hz => by rw [← hg, gF_sF, if_neg (fun y => hz y.2)]
  have f18 : gF h2 72 18 = 1 := by rw [← hg, gF_sF, if_pos ⟨rfl, rfl⟩]
  have g2 : gG h2 = gG h1 := by rw [← hg]; rfl
  have kf2 : kF j n0 h h2 := e3.tr ⟨s2.mo (fun c hc => Or.inl hc), fun z hz => f2 z (by omega), fun x _ => by rw [smA s2 (by omega)]⟩
  have H2 : KPl h2 j n0 K1 o1 c1 := e2.c72 s2 (fun z hz => f2 z (by omega))
  have T2 : KT h2 B L i := T1.cg (fun z hz => f2 z (by omega)) (smA s2 (by omega)) (by rw [g2])
  have l14 : gF h2 72 14 = nI lw := by rw [f2 14 (by omega), e3.2.1 14 (by omega)]; exact t3
  obtain ⟨a1, a2, a3, a4, a5, a6, a7⟩ := id e2
  have base : KO tx tu gu tl B L j lw n0 (some (some (vI (0)), (SK tx tu gu tl, h2))) h (Sum.inl (i, K1, o1, true, c1)) := ⟨h2, rfl, ⟨T2, H2, l14, f18⟩, kf2⟩
  rw [a2]
  cases K1 with
  | nil =>
    rw [if_pos (by decide)]
    exact base
  | cons p K2 =>
    rw [List.length_cons] at hs a2 ⊢
    have hp := a6 p List.mem_cons_self
    have em1 : nI (K2.length + 1) - 1 = nI K2.length := by rw [show (1 : Int32) = nI 1 from rfl, subI (by omega)]; rfl
    rw [if_neg (show ¬ nI (K2.length + 1) = 0 from fun z => by have := (nI_eq (a := K2.length + 1) (b := 0) (by omega) (by omega)).mp z; omega), em1, inbI (by omega) (by omega), a5.1]
    by_cases g : p = 41
    · rw [if_pos (show nI p = 41 by rw [g]; rfl), if_pos (show (p :: K2).head? = some 41 by rw [g]; rfl), kw10 X d tx tu gu tl, bL_s, e_X11_endOne_44, k_isW X (d + 4) tx tu gu tl (by omega) h2 T2, bI_s, e_X11_endOne_47]
      by_cases y : isW (tkn B L) i 10 = true
      · rw [y, bz_t, if_neg one0, if_pos rfl]
        obtain ⟨h3, k1, k2, k3, k4⟩ := k_nxt X (d + 3) tx tu gu tl h2 T2.1
        have H3 : KPl h3 j n0 (p :: K2) o1 c1 := H2.c72 k4 (fun z hz => k3 z (by omega))
        have kf3 : kF j n0 h h3 := kf2.tr (kf72 k4 k3)
        obtain ⟨b1, b2, b3, b4, b5, b6, b7⟩ := id H3
        rw [k1, bV_s, e_X11_endOne_56, b2, List.length_cons, em1, inbI (by omega) (by omega), sA_w]
        generalize hg4 : sF (wA h3 77 (upd (gA h3 77) K2.length 4)) 72 18 0 = h4
        have s4 : smX (fun c => c = 72 ∨ c = 77) h3 h4 := by rw [← hg4]; exact smX.tr (smX_wA (Or.inr rfl)) (smX_sF (Or.inl rfl))
        have f4 : ∀ z, z ≠ 18 → gF h4 72 z = gF h3 72 z := fun z hz => by rw [← hg4, gF_sF, if_neg (fun y => hz y.2), gF_wA]
        have p4 : gA h4 77 = upd (gA h3 77) K2.length 4 := by
          rw [← hg4]
          show gA (wA _ 77 _) 77 = _
          rw [gA_wA']
        refine ⟨h4, rfl, ⟨k2.cg (fun z hz => f4 z (by omega)) (smA s4 (by omega)) (by rw [← hg4]; rfl), ⟨(f4 12 (by omega)).trans b1, (f4 16 (by omega)).trans b2, (f4 17 (by omega)).trans b3, (f4 13 (by omega)).trans b4, ⟨by show gA h4 77 K2.length = nI 4; rw [p4, pk_us]; rfl, plA_cg K2 (fun x hx => by rw [p4, pk_un (by omega)]) b5.2⟩, fun q hq => ?_, cdA_cg (smA s4 (by omega)) _ c1 n0 b7⟩, by rw [f4 14 (by omega), k3 14 (by omega)]; exact l14, by rw [← hg4, gF_sF, if_pos ⟨rfl, rfl⟩]; rfl⟩, kf3.tr ⟨s4.mo (fun c hc => by omega), fun z hz => f4 z (by omega), fun x _ => by rw [smA s4 (by omega)]⟩⟩
        rcases List.mem_cons.mp hq with rfl | hq
        · omega
        · exact b6 q (List.mem_cons_of_mem _ hq)
      · rw [Bool.eq_false_iff.mpr y, bz_f, if_pos rfl, if_neg (show ¬ (false = true) by decide)]
        exact ⟨h2, rfl, T2.2.1, kf2⟩
    · rw [if_neg (show ¬ nI p = 41 from fun z => g ((nI_eq (a := p) (b := 41) (by omega) (by omega)).mp z)), if_neg (show ¬ (p :: K2).head? = some 41 from fun z => g (Option.some.inj z))]
      exact base
theorem k_beginOne {B : Nat → Nat} {L j lw n0 i0 i o : Nat} {K : List Nat} {c : Cd} (hj : j < 4) (hlw : lw < 2) (hL : L ≤ 300) (hn0 : n0 ≤ i0) (h : DT) (H : KM h B L j lw n0 (i, K, o, false, c)) (J : JJ L i0 (i, K, o, false, c)) : KO tx tu gu tl B L j lw n0 (cal X (d + 7) 200 [vP (some 72)] (SK tx tu gu tl, h)) h (rBeg (tkn B L) lw i K o c) := by
  obtain ⟨t1, t2, t3, t4⟩ := id H
  change KT h B L i at t1
  change KPl h j n0 K o c at t2
  obtain ⟨q1, q2, q3, q4, q5, q6⟩ := id J
  change o = cntO K at q1
  change o ≤ 8 at q2
  change 2 * (K.length - cntO K) + 0 + i0 ≤ i at q3
  change c.length + K.length + i0 ≤ i at q4
  change i ≤ L at q6
  have hcK := cntO_le K
  have hK : K.length < 159 := by omega
  obtain ⟨k', b1, b2, b3⟩ := t1.2.2.1
  have ek : ∀ m, m < 256 → m ≠ 58 → m ≠ 3 → (nI k' = nI m) = ((tkn B L i).1 = m) := fun m h1 h2 h3 => kK_n b2 b3 h1 h2 h3
  have opn1 : ∀ p, p < 1000 → KO tx tu gu tl B L j lw n0 (bI (cal X (d + 6) 199 [vP (some 72), vI (nI p)] (SK tx tu gu tl, h)) fun r H => some (some (vI r), H)) h (rOpn i p K o c) := fun p hp => KO.bi tx tu gu tl (k_opened X (d + 3) tx tu gu tl h H q2 (by omega) hp)
  have fin : ∀ f a b : Nat, (tkn B L i).1 ≠ 0 → KO tx tu gu tl B L j lw n0 (bV (cal X (d + 6) 190 [vP (some 72), vI (nI a), vI (nI b)] (SK tx tu gu tl, h)) fun H4 => m_X11_beginOne X (d + 6) (f + 2) 84 [(0, vP (some 72))] [] H4) h (rEnd (tkn B L) (i + 1) K o (c ++ [(a, b)])) := fun f a b hz => by
    obtain ⟨h1, e1, e2, e3, e4, e5, e6⟩ := k_emit X (d + 5) tx tu gu tl h t2 hj (by omega) a b
    have T1 := t1.kt e3 e4
    obtain ⟨h2, k1, k2, k3, k4⟩ := k_nxt X (d + 4) tx tu gu tl h1 T1.1
    rw [e1, bV_s, e_X11_beginOne_84, k1, bV_s, e_X11_beginOne_88]
    have := tkn_i hz
    exact KO.pre tx tu gu tl (KO.bi tx tu gu tl (k_endOne X d tx tu gu tl hj h2 k2 (e2.c72 k4 (fun z hz => k3 z (by omega))) (by rw [k3 14 (by omega), e3.2.1 14 (by omega)]; exact t3) q1 (by rw [List.length_append]; simp only [List.length_cons, List.length_nil]; omega) (by omega))) (e3.tr (kf72 k4 k3))
  rw [c_X11_beginOne, e_X11_beginOne_0, b1]
  unfold rBeg
  by_cases g1 : (tkn B L i).1 = 1
  · obtain ⟨v, v1, v2, v3, v4⟩ := t1.2.2.2.1 g1
    have nm : nmT (tkn B L) i = -1 := by unfold nmT; rw [if_neg (by omega)]
    rw [if_pos (show nI k' = 1 from (ek 1 (by omega) (by omega) (by omega)).mpr g1), if_pos g1, v1]
    by_cases y : 9999 < (tkn B L i).2.1
    · have hv : 9999 < v := by
        by_cases q : v < 10000
        · have := v3 q; omega
        · omega
      rw [if_neg (show ¬ nI v ≤ 9999 from nI_ge (a := 9999) (by omega) (by omega)), if_pos y]
      exact ⟨h, rfl, t1.2.1, kF.rf _ _ h⟩
    · have hv : v < 10000 := by
        by_cases q : v < 10000
        · exact q
        · have := v4 (by omega); omega
      rw [if_pos (show nI v ≤ 9999 from nI_le (b := 9999) (by omega) (by omega)), if_neg y, k_nameOf X d tx tu gu tl h t1, bI_s, nm, e_X11_beginOne_24, if_pos (by decide), e_X11_beginOne_39, b1, if_pos (show nI k' = 1 from (ek 1 (by omega) (by omega) (by omega)).mpr g1), e_X11_beginOne_51, b1, if_pos (show nI k' = 1 from (ek 1 (by omega) (by omega) (by omega)).mpr g1), if_pos (show nI k' = 1 from (ek 1 (by omega) (by omega) (by omega)).mpr g1), v1, v3 hv]
      exact fin 999994 0 v (by omega)
  rw [if_neg (show ¬ nI k' = 1 from fun z => g1 ((ek 1 (by omega) (by omega) (by omega)).mp z)), if_neg g1, k_nameOf X d tx tu gu tl h t1, bI_s, e_X11_beginOne_24]
  unfold nmT
  by_cases g2 : (tkn B L i).1 = 2 ∧ gNam (tkn B L i).2.1 < 9
  · rw [if_pos g2, if_pos g2, if_neg (nI_pos (by omega)), k_isOf X (d + 5) tx tu gu tl hlw g2.2 h t3, bI_s, e_X11_beginOne_34]
    by_cases y : gOf lw (gNam (tkn B L i).2.1) = true
    · rw [y, bz_t, if_neg one0, if_pos rfl, e_X11_beginOne_39, b1, if_neg (show ¬ nI k' = 1 from fun z => g1 ((ek 1 (by omega) (by omega) (by omega)).mp z)), if_neg (nI_pos (by omega)), e_X11_beginOne_51, b1, if_neg (show ¬ nI k' = 1 from fun z => g1 ((ek 1 (by omega) (by omega) (by omega)).mp z)), if_neg (show ¬ nI k' = 1 from fun z => g1 ((ek 1 (by omega) (by omega) (by omega)).mp z))]
      exact fin 999993 1 _ (by omega)
    · rw [Bool.eq_false_iff.mpr y, bz_f, if_pos rfl, if_neg (show ¬ (false = true) by decide)]
      exact ⟨h, rfl, t1.2.1, kF.rf _ _ h⟩
  rw [if_neg g2, if_neg g2, if_pos (by decide), e_X11_beginOne_39, b1, if_neg (show ¬ nI k' = 1 from fun z => g1 ((ek 1 (by omega) (by omega) (by omega)).mp z)), if_pos (by decide)]
  by_cases g3 : (tkn B L i).1 = 40
  · rw [if_pos (show nI k' = 40 from (ek 40 (by omega) (by omega) (by omega)).mpr g3), if_pos g3]
    exact opn1 40 (by omega)
  rw [if_neg (show ¬ nI k' = 40 from fun z => g3 ((ek 40 (by omega) (by omega) (by omega)).mp z)), if_neg g3]
  by_cases g4 : (tkn B L i).1 = 45
  · rw [if_pos (show nI k' = 45 from (ek 45 (by omega) (by omega) (by omega)).mpr g4), if_pos g4]
    exact opn1 5 (by omega)
  rw [if_neg (show ¬ nI k' = 45 from fun z => g4 ((ek 45 (by omega) (by omega) (by omega)).mp z)), if_neg g4, kw9 X (d + 1) tx tu gu tl, bL_s, e_X11_beginOne_136, k_isW X (d + 5) tx tu gu tl (by omega) h t1, bI_s, e_X11_beginOne_139]
  by_cases g5 : isW (tkn B L) i 9 = true
  · rw [g5, bz_t, if_neg one0, if_pos rfl]
    exact opn1 41 (by omega)
  rw [Bool.eq_false_iff.mpr g5, bz_f, if_pos rfl, if_neg (show ¬ (false = true) by decide), kw11 X (d + 1) tx tu gu tl, bL_s, e_X11_beginOne_161, k_isW X (d + 5) tx tu gu tl (by omega) h t1, bI_s, e_X11_beginOne_164]
  by_cases g6 : isW (tkn B L) i 11 = true
  · rw [g6, bz_t, if_neg one0, if_pos rfl]
    exact opn1 2 (by omega)
  rw [Bool.eq_false_iff.mpr g6, bz_f, if_pos rfl, if_neg (show ¬ (false = true) by decide), kw12 X (d + 1) tx tu gu tl, bL_s, e_X11_beginOne_181, k_isW X (d + 5) tx tu gu tl (by omega) h t1, bI_s, e_X11_beginOne_184]
  by_cases g7 : isW (tkn B L) i 12 = true
  · rw [g7, bz_t, if_neg one0, if_pos rfl]
    exact opn1 42 (by omega)
  rw [Bool.eq_false_iff.mpr g7, bz_f, if_pos rfl, if_neg (show ¬ (false = true) by decide), kw13 X (d + 1) tx tu gu tl, bL_s, e_X11_beginOne_204, k_isW X (d + 5) tx tu gu tl (by omega) h t1, bI_s, e_X11_beginOne_207]
  by_cases g8 : isW (tkn B L) i 13 = true
  · rw [g8, bz_t, if_neg one0, k_askA X (d + 3) tx tu gu tl h t2 (by omega), bI_s, e_X11_beginOne_214]
    by_cases y : askA K = true
    · rw [y, bz_t, if_neg one0, if_pos ⟨rfl, rfl⟩]
      exact opn1 20 (by omega)
    · rw [Bool.eq_false_iff.mpr y, bz_f, if_pos rfl, if_neg (fun z => by cases z.2)]
      exact ⟨h, rfl, t1.2.1, kF.rf _ _ h⟩
  · rw [Bool.eq_false_iff.mpr g8, bz_f, if_pos rfl, if_neg (fun z => by cases z.1)]
    exact ⟨h, rfl, t1.2.1, kF.rf _ _ h⟩
end KB
