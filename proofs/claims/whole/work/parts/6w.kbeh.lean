/-! THE REFERENCE'S PILE: what comes behind one; a whole sum -/
section KH
variable (X : XS) (d : Nat) (tx tu gu : Option Nat) (tl : List SC)
def oI (k : Nat) : Int32 := if k = 0 then -1 else nI k
theorem k_compareOf {B : Nat → Nat} {L i : Nat} (h : DT) (H : KT h B L i) : cal X (d + 1) 202 [vP (some 72)] (SK tx tu gu tl, h) = some (some (vI (oI (gCmp (tkn B L) i))), (SK tx tu gu tl, h)) := by
  obtain ⟨k', b1, b2, b3⟩ := H.2.2.1
  have ek : ∀ m, m < 256 → m ≠ 58 → m ≠ 3 → (nI k' = nI m) = ((tkn B L i).1 = m) := fun m h1 h2 h3 => kK_n b2 b3 h1 h2 h3
  rw [c_X11_compareOf, e_X11_compareOf_0, b1]
  unfold oI gCmp
  by_cases g1 : (tkn B L i).1 = 60
  · rw [if_pos (show nI k' = 60 from (ek 60 (by omega) (by omega) (by omega)).mpr g1), if_pos g1]; rfl
  rw [if_neg (show ¬ nI k' = 60 from fun z => g1 ((ek 60 (by omega) (by omega) (by omega)).mp z)), if_neg g1]
  by_cases g2 : (tkn B L i).1 = 4
  · rw [if_pos (show nI k' = 4 from (ek 4 (by omega) (by omega) (by omega)).mpr g2), if_pos g2]; rfl
  rw [if_neg (show ¬ nI k' = 4 from fun z => g2 ((ek 4 (by omega) (by omega) (by omega)).mp z)), if_neg g2]
  by_cases g3 : (tkn B L i).1 = 62
  · rw [if_pos (show nI k' = 62 from (ek 62 (by omega) (by omega) (by omega)).mpr g3), if_pos g3]; rfl
  rw [if_neg (show ¬ nI k' = 62 from fun z => g3 ((ek 62 (by omega) (by omega) (by omega)).mp z)), if_neg g3]
  by_cases g4 : (tkn B L i).1 = 5
  · rw [if_pos (show nI k' = 5 from (ek 5 (by omega) (by omega) (by omega)).mpr g4), if_pos g4]; rfl
  rw [if_neg (show ¬ nI k' = 5 from fun z => g4 ((ek 5 (by omega) (by omega) (by omega)).mp z)), if_neg g4]
  by_cases g5 : (tkn B L i).1 = 61
  · rw [if_pos (show nI k' = 61 from (ek 61 (by omega) (by omega) (by omega)).mpr g5), if_pos g5]; rfl
  rw [if_neg (show ¬ nI k' = 61 from fun z => g5 ((ek 61 (by omega) (by omega) (by omega)).mp z)), if_neg g5]
  by_cases g6 : (tkn B L i).1 = 35
  · rw [if_pos (show nI k' = 35 from (ek 35 (by omega) (by omega) (by omega)).mpr g6), if_pos g6]; rfl
  rw [if_neg (show ¬ nI k' = 35 from fun z => g6 ((ek 35 (by omega) (by omega) (by omega)).mp z)), if_neg g6]
  rfl
theorem k_btw {B : Nat → Nat} {L j n0 i o : Nat} {K : List Nat} {c : Cd} (h : DT) (t1 : KT h B L i) (H : KPl h j n0 K o c) (hK : K.length ≤ 160) : cal X (d + 6) 203 [vP (some 72)] (SK tx tu gu tl, h) = some (some (vI (oI (btw (tkn B L) i K))), (SK tx tu gu tl, h)) := by
  obtain ⟨k', b1, b2, b3⟩ := t1.2.2.1
  have ek : ∀ m, m < 256 → m ≠ 58 → m ≠ 3 → (nI k' = nI m) = ((tkn B L i).1 = m) := fun m h1 h2 h3 => kK_n b2 b3 h1 h2 h3
  have ol := opn_lt K H.2.2.2.2.2.1
  rw [c_X11_betweenOf, e_X11_betweenOf_0, b1]
  unfold btw
  by_cases g1 : (tkn B L i).1 = 43
  · have e : gSum (tkn B L) i = 6 := by unfold gSum; rw [if_pos g1]
    rw [if_pos (show nI k' = 43 from (ek 43 (by omega) (by omega) (by omega)).mpr g1), e, if_pos (by decide)]; rfl
  rw [if_neg (show ¬ nI k' = 43 from fun z => g1 ((ek 43 (by omega) (by omega) (by omega)).mp z))]
  by_cases g2 : (tkn B L i).1 = 45
  · have e : gSum (tkn B L) i = 7 := by unfold gSum; rw [if_neg g1, if_pos g2]
    rw [if_pos (show nI k' = 45 from (ek 45 (by omega) (by omega) (by omega)).mpr g2), e, if_pos (by decide)]; rfl
  have es : gSum (tkn B L) i = 0 := by unfold gSum; rw [if_neg g1, if_neg g2]
  rw [if_neg (show ¬ nI k' = 45 from fun z => g2 ((ek 45 (by omega) (by omega) (by omega)).mp z)), es, if_neg (show ¬ ((0 : Nat) ≠ 0) by decide)]
  by_cases g3 : (tkn B L i).1 = 42
  · have e : gPrd (tkn B L) i = 8 := by unfold gPrd; rw [if_pos g3]
    rw [if_pos (show nI k' = 42 from (ek 42 (by omega) (by omega) (by omega)).mpr g3), e, if_pos (by decide)]; rfl
  rw [if_neg (show ¬ nI k' = 42 from fun z => g3 ((ek 42 (by omega) (by omega) (by omega)).mp z))]
  by_cases g4 : (tkn B L i).1 = 47
  · have e : gPrd (tkn B L) i = 9 := by unfold gPrd; rw [if_neg g3, if_pos g4]
    rw [if_pos (show nI k' = 47 from (ek 47 (by omega) (by omega) (by omega)).mpr g4), e, if_pos (by decide)]; rfl
  have ep : gPrd (tkn B L) i = 0 := by unfold gPrd; rw [if_neg g3, if_neg g4]
  rw [if_neg (show ¬ nI k' = 47 from fun z => g4 ((ek 47 (by omega) (by omega) (by omega)).mp z)), ep, if_neg (show ¬ (0 ≠ 0) by decide), k_openNow X (d + 3) tx tu gu tl h H hK, bI_s, e_X11_betweenOf_52]
  by_cases g5 : opn K = 42
  · rw [g5, show (if 42 = 0 then (-1 : Int32) else nI 42) = 42 from rfl, if_pos rfl, if_neg (by decide), k_isComp X (d + 3) tx tu gu tl h H hK, bI_s, e_X11_betweenOf_63]
    cases hc : cmpd K with
    | false =>
      rw [bz_f, if_pos rfl, if_pos rfl, k_compareOf X (d + 4) tx tu gu tl h t1, bI_s]
    | true =>
      rw [bz_t, if_neg one0, if_neg (by decide), kw14 X d tx tu gu tl, bL_s, e_X11_betweenOf_81, k_isW X (d + 4) tx tu gu tl (by omega) h t1, bI_s]
      by_cases y : isW (tkn B L) i 14 = true
      · have e : gAnd (tkn B L) i = 21 := by unfold gAnd; rw [if_pos y]
        rw [y, bz_t, if_neg one0, e, if_pos (by decide)]; rfl
      · have e : gAnd (tkn B L) i = 0 := by unfold gAnd; rw [if_neg y]
        rw [Bool.eq_false_iff.mpr y, bz_f, if_pos rfl, kw15 X d tx tu gu tl, bL_s, e_X11_betweenOf_100, k_isW X (d + 4) tx tu gu tl (by omega) h t1, bI_s, e, if_neg (show ¬ ((0 : Nat) ≠ 0) by decide)]
        unfold gOr
        by_cases y2 : isW (tkn B L) i 15 = true
        · rw [y2, bz_t, if_neg one0, if_pos rfl]; rfl
        · rw [Bool.eq_false_iff.mpr y2, bz_f, if_pos rfl, if_neg (show ¬ (false = true) by decide)]; rfl
  · rw [if_pos g5]
    by_cases y : opn K = 0
    · rw [if_pos y, if_neg (by decide)]; rfl
    · rw [if_neg y, if_neg (show ¬ nI (opn K) = 42 from fun z => g5 ((nI_eq (a := opn K) (b := 42) (by omega) (by omega)).mp z))]; rfl
def pI (k : Nat) : Int32 := if k = 99 then -1 else nI k
theorem k_prt {B : Nat → Nat} {L j n0 i o : Nat} {K : List Nat} {c : Cd} (h : DT) (t1 : KT h B L i) (H : KPl h j n0 K o c) (hK : K.length ≤ 160) : cal X (d + 6) 204 [vP (some 72), vI (if opn K = 0 then -1 else nI (opn K))] (SK tx tu gu tl, h) = some (some (vI (pI (prt (tkn B L) i K))), (SK tx tu gu tl, h)) := by
  obtain ⟨k', b1, b2, b3⟩ := t1.2.2.1
  have ek : ∀ m, m < 256 → m ≠ 58 → m ≠ 3 → (nI k' = nI m) = ((tkn B L i).1 = m) := fun m h1 h2 h3 => kK_n b2 b3 h1 h2 h3
  have ol := opn_lt K H.2.2.2.2.2.1
  have nn : ∀ m, 40 ≤ m → m < 100 → opn K ≠ m → ¬ (if opn K = 0 then (-1 : Int32) else nI (opn K)) = nI m := fun m h1 h2 h3 z => by
    by_cases y : opn K = 0
    · rw [if_pos y] at z
      exact nI_n1 (by omega) z.symm
    · rw [if_neg y] at z
      exact h3 ((nI_eq (by omega) (by omega)).mp z)
  rw [c_X11_partOf, e_X11_partOf_0, b1]
  unfold prt
  by_cases g1 : opn K = 40
  · rw [g1, show (if 40 = 0 then (-1 : Int32) else nI 40) = 40 from rfl, if_pos rfl, if_pos rfl]
    by_cases y : (tkn B L i).1 = 41
    · rw [if_pos (show nI k' = 41 from (ek 41 (by omega) (by omega) (by omega)).mpr y), if_pos y]; rfl
    · rw [if_neg (show ¬ nI k' = 41 from fun z => y ((ek 41 (by omega) (by omega) (by omega)).mp z)), if_neg y]; rfl
  rw [if_neg (show ¬ (if opn K = 0 then (-1 : Int32) else nI (opn K)) = 40 from nn 40 (by omega) (by omega) g1), if_neg g1]
  by_cases g41 : opn K = 41
  · rw [g41, show (if 41 = 0 then (-1 : Int32) else nI 41) = 41 from rfl, if_pos rfl]; rfl
  rw [if_neg (show ¬ (if opn K = 0 then (-1 : Int32) else nI (opn K)) = 41 from nn 41 (by omega) (by omega) g41)]
  by_cases g2 : opn K = 42
  · rw [g2, show (if 42 = 0 then (-1 : Int32) else nI 42) = 42 from rfl, if_pos rfl, if_pos rfl, kw16 X d tx tu gu tl, bL_s, e_X11_partOf_63, k_isW X (d + 4) tx tu gu tl (by omega) h t1, bI_s, e_X11_partOf_66]
    by_cases y : isW (tkn B L) i 16 = true
    · rw [y, bz_t, if_neg one0, k_isComp X (d + 3) tx tu gu tl h H hK, bI_s]
      cases hc : cmpd K with
      | true => rw [bz_t, if_neg one0, if_pos ⟨rfl, rfl⟩]; rfl
      | false => rw [bz_f, if_pos rfl, if_neg (fun z => by cases z.2)]; rfl
    · rw [Bool.eq_false_iff.mpr y, bz_f, if_pos rfl, if_neg (fun z => by cases z.1)]; rfl
  rw [if_neg (show ¬ (if opn K = 0 then (-1 : Int32) else nI (opn K)) = 42 from nn 42 (by omega) (by omega) g2), if_neg g2]
  by_cases g3 : opn K = 43
  · rw [g3, show (if 43 = 0 then (-1 : Int32) else nI 43) = 43 from rfl, if_pos rfl, if_pos rfl, kw17 X d tx tu gu tl, bL_s, e_X11_partOf_95, k_isW X (d + 4) tx tu gu tl (by omega) h t1, bI_s]
    by_cases y : isW (tkn B L) i 17 = true
    · rw [y, bz_t, if_neg one0, if_pos rfl]; rfl
    · rw [Bool.eq_false_iff.mpr y, bz_f, if_pos rfl, if_neg (show ¬ (false = true) by decide)]; rfl
  rw [if_neg (show ¬ (if opn K = 0 then (-1 : Int32) else nI (opn K)) = 43 from nn 43 (by omega) (by omega) g3), if_neg g3]
  by_cases g4 : opn K = 44
  · rw [g4, show (if 44 = 0 then (-1 : Int32) else nI 44) = 44 from rfl, if_pos rfl, if_pos rfl, kw18 X d tx tu gu tl, bL_s, e_X11_partOf_118, k_isW X (d + 4) tx tu gu tl (by omega) h t1, bI_s]
    by_cases y : isW (tkn B L) i 18 = true
    · rw [y, bz_t, if_neg one0, if_pos rfl]; rfl
    · rw [Bool.eq_false_iff.mpr y, bz_f, if_pos rfl, if_neg (show ¬ (false = true) by decide)]; rfl
  rw [if_neg (show ¬ (if opn K = 0 then (-1 : Int32) else nI (opn K)) = 44 from nn 44 (by omega) (by omega) g4), if_neg g4]
  rfl
theorem oI_n {k : Nat} (h : k ≠ 0) : oI k = nI k := by unfold oI; rw [if_neg h]
theorem pI_n {k : Nat} (h : k ≠ 99) : pI k = nI k := by unfold pI; rw [if_neg h]
theorem k_behN {B : Nat → Nat} {L j lw n0 i o : Nat} {K : List Nat} {c : Cd} (h : DT) (H : KM h B L j lw n0 (i, K, o, true, c)) (hK : K.length ≤ 160) (hb : btw (tkn B L) i K = 0) (hp : prt (tkn B L) i K = 99) : cal X (d + 7) 205 [vP (some 72)] (SK tx tu gu tl, h) = some (some (vI (-1)), (SK tx tu gu tl, h)) := by
  obtain ⟨t1, t2, t3, t4⟩ := H
  change KT h B L i at t1
  change KPl h j n0 K o c at t2
  rw [c_X11_behindOne, e_X11_behindOne_0, k_btw X d tx tu gu tl h t1 t2 hK, bI_s, hb, e_X11_behindOne_4, if_pos (by decide), k_openNow X (d + 4) tx tu gu tl h t2 hK, bI_s, e_X11_behindOne_64, k_prt X d tx tu gu tl h t1 t2 hK, bI_s, hp, e_X11_behindOne_70, if_neg (by decide)]
theorem k_beh {B : Nat → Nat} {L j lw n0 i0 i o : Nat} {K : List Nat} {c : Cd} (hj : j < 4) (hL : L ≤ 300) (hn0 : n0 ≤ i0) (hi0 : 1 ≤ i0) (h : DT) (H : KM h B L j lw n0 (i, K, o, true, c)) (J : JJ L i0 (i, K, o, true, c)) (hbp : ¬ (btw (tkn B L) i K = 0 ∧ prt (tkn B L) i K = 99)) : KO tx tu gu tl B L j lw n0 (cal X (d + 7) 205 [vP (some 72)] (SK tx tu gu tl, h)) h (rBeh (tkn B L) i K o c) := by
  obtain ⟨t1, t2, t3, t4⟩ := id H
  change KT h B L i at t1
  change KPl h j n0 K o c at t2
  obtain ⟨q1, q2, q3, q4, q5, q6⟩ := id J
  change o = cntO K at q1
  change o ≤ 8 at q2
  change 2 * (K.length - cntO K) + 1 + i0 ≤ i at q3
  change c.length + K.length + i0 ≤ i at q4
  change i ≤ L at q6
  have hcK := cntO_le K
  have hK : K.length < 159 := by omega
  rw [c_X11_behindOne, e_X11_behindOne_0, k_btw X d tx tu gu tl h t1 t2 (by omega), bI_s, e_X11_behindOne_4]
  unfold rBeh
  by_cases g : btw (tkn B L) i K ≠ 0
  · obtain ⟨b1, b2, b3, b4⟩ := btw_i g
    have r7 := rnk_7 (btw (tkn B L) i K)
    have hiL := tkn_i b1
    rw [oI_n g, if_neg (nI_pos (by omega)), k_rank X (d + 5) tx tu gu tl (by omega), bI_s, if_pos g]
    generalize hr : (if rnk (btw (tkn B L) i K) = 4 then 5 else rnk (btw (tkn B L) i K)) = r
    have hr1 : 1 ≤ r ∧ r ≤ 7 := by rw [← hr]; split <;> omega
    have e14 : m_X11_behindOne X (d + 6) 999998 14 [(0, vP (some 72)), (1, vI (nI (btw (tkn B L) i K)))] [vI (nI (rnk (btw (tkn B L) i K))), vP (some 72)] (SK tx tu gu tl, h) = m_X11_behindOne X (d + 6) 999997 26 [(0, vP (some 72)), (1, vI (nI (btw (tkn B L) i K)))] [vI (nI r), vP (some 72)] (SK tx tu gu tl, h) := by
      rw [e_X11_behindOne_14, ← hr]
      by_cases y : rnk (btw (tkn B L) i K) = 4
      · rw [if_pos (show nI (rnk (btw (tkn B L) i K)) = 4 by rw [y]; rfl), if_pos y]
        rfl
      · rw [if_neg (show ¬ nI (rnk (btw (tkn B L) i K)) = 4 from fun z => y ((nI_eq (a := rnk (btw (tkn B L) i K)) (b := 4) (by omega) (by omega)).mp z)), if_neg y, k_rank X (d + 5) tx tu gu tl (by omega), bI_s]
    obtain ⟨h1, e1, e2, e3, e4, e5⟩ := k_settle X (d + 4) tx tu gu tl hj (r := r) hr1.1 hr1.2 h t2 q1 (by omega) (by omega)
    have hs : (stl r K o c).1.length ≤ K.length := by
      rw [q1]
      exact (stl_inv (r := r) hr1.1 K c).2.2.2.1
    rw [e14, e_X11_behindOne_26, e1, bV_s, e_X11_behindOne_29]
    have T1 : KT h1 B L i := t1.kt e3 e4
    revert e2 hs
    generalize (stl r K o c).1 = K1
    generalize (stl r K o c).2.1 = o1
    generalize (stl r K o c).2.2 = c1
    intro e2 hs
    revert b2
    generalize btw (tkn B L) i K = p
    intro b2
    obtain ⟨a1, a2, a3, a4, a5, a6, a7⟩ := id e2
    rw [a2, inbI (by omega) (by omega), nI_1, sA_w]
    generalize hg : sF (sF (wA h1 77 (upd (gA h1 77) K1.length (nI p))) 72 16 (nI (K1.length + 1))) 72 18 0 = h2
    have s2 : smX (fun c => c = 72 ∨ c = 77) h1 h2 := by rw [← hg]; exact smX.tr (smX.tr (smX_wA (Or.inr rfl)) (smX_sF (Or.inl rfl))) (smX_sF (Or.inl rfl))
    have f2 : ∀ z, z ≠ 16 → z ≠ 18 → gF h2 72 z = gF h1 72 z := fun z h1 h2 => by rw [← hg, gF_sF, if_neg (fun y => h2 y.2), gF_sF, if_neg (fun y => h1 y.2), gF_wA]
    have p2 : gA h2 77 = upd (gA h1 77) K1.length (nI p) := by
      rw [← hg]
      show gA (wA _ 77 _) 77 = _
      rw [gA_wA']
    have kf2 : kF j n0 h h2 := e3.tr ⟨s2.mo (fun c hc => by omega), fun z hz => f2 z (by omega) (by omega), fun x _ => by rw [smA s2 (by omega)]⟩
    have H2 : KPl h2 j n0 (p :: K1) o1 c1 := by
      refine ⟨(f2 12 (by omega) (by omega)).trans a1, ?_, (f2 17 (by omega) (by omega)).trans a3, (f2 13 (by omega) (by omega)).trans a4, ⟨by rw [p2, pk_us], plA_cg K1 (fun x hx => by rw [p2, pk_un (by omega)]) a5⟩, fun q hq => ?_, cdA_cg (smA s2 (by omega)) _ c1 n0 a7⟩
      · rw [← hg, gF_sF, if_neg (by omega), gF_sF, if_pos ⟨rfl, rfl⟩]
        rfl
      · rcases List.mem_cons.mp hq with rfl | hq
        · omega
        · exact a6 q hq
    have T2 : KT h2 B L i := T1.cg (fun z hz => f2 z (by omega) (by omega)) (smA s2 (by omega)) (by rw [← hg]; rfl)
    obtain ⟨h3, k1, k2, k3, k4⟩ := k_nxt X (d + 4) tx tu gu tl h2 T2.1
    rw [k1, bV_s]
    exact ⟨h3, rfl, ⟨k2, H2.c72 k4 (fun z hz => k3 z (by omega)), by rw [k3 14 (by omega), f2 14 (by omega) (by omega), e3.2.1 14 (by omega)]; exact t3, by rw [k3 18 (by omega), ← hg, gF_sF, if_pos ⟨rfl, rfl⟩]; rfl⟩, kf2.tr (kf72 k4 k3)⟩
  · have g0 : btw (tkn B L) i K = 0 := by omega
    have gp : prt (tkn B L) i K ≠ 99 := fun z => hbp ⟨g0, z⟩
    obtain ⟨p1, p2, p3⟩ := prt_i gp
    have hiL := tkn_i p1
    rw [if_neg g, if_neg gp, g0, if_pos (by decide), k_openNow X (d + 4) tx tu gu tl h t2 (by omega), bI_s, e_X11_behindOne_64, k_prt X d tx tu gu tl h t1 t2 (by omega), bI_s, pI_n gp, e_X11_behindOne_70, if_pos (z0le (by omega))]
    obtain ⟨h1, e1, e2, e3, e4, e5⟩ := k_settle X (d + 4) tx tu gu tl hj (r := 1) (by omega) (by omega) h t2 q1 (by omega) (by omega)
    have T1 : KT h1 B L i := t1.kt e3 e4
    obtain ⟨h2, k1, k2, k3, k4⟩ := k_nxt X (d + 4) tx tu gu tl h1 T1.1
    obtain ⟨K', hK'⟩ := stl_opn K o c p2
    have sinv := stl_inv (r := 1) (by omega) K c
    rw [← q1] at sinv
    obtain ⟨s1, s2, s3, s4, s5⟩ := sinv
    have H2 : KPl h2 j n0 (stl 1 K o c).1 (stl 1 K o c).2.1 (stl 1 K o c).2.2 := e2.c72 k4 (fun z hz => k3 z (by omega))
    have kf2 : kF j n0 h h2 := e3.tr (kf72 k4 k3)
    have l14 : gF h2 72 14 = nI lw := by rw [k3 14 (by omega), e3.2.1 14 (by omega)]; exact t3
    rw [show cal X (d + 6) 194 [vP (some 72), vI 1] (SK tx tu gu tl, h) = some (none, (SK tx tu gu tl, h1)) from e1, bV_s, e_X11_behindOne_82, k1, bV_s, e_X11_behindOne_86]
    rw [hK'] at s1 s2 s3 s4 s5 H2 ⊢
    rw [List.tail_cons]
    rw [cntO_cons, if_pos (by omega)] at s1
    rw [List.length_cons] at s2 s4
    revert s1 s2 H2
    generalize (stl 1 K o c).2.1 = o1
    generalize (stl 1 K o c).2.2 = c1
    intro s1 s2 H2
    obtain ⟨a1, a2, a3, a4, a5, a6, a7⟩ := id H2
    rw [List.length_cons] at a2
    have em1 : nI (K'.length + 1) - 1 = nI K'.length := by rw [show (1 : Int32) = nI 1 from rfl, subI (by omega)]; rfl
    by_cases g3 : prt (tkn B L) i K = 0
    · rw [g3, if_pos (by decide), if_pos rfl, a3, a2, em1, show nI o1 - 1 = nI (o1 - 1) from subI (b := 1) (by omega)]
      generalize hg : sF (sF h2 72 17 (nI (o1 - 1))) 72 16 (nI K'.length) = h3
      have f3 : ∀ z, z ≠ 16 → z ≠ 17 → gF h3 72 z = gF h2 72 z := fun z h1 h2 => by rw [← hg, gF_sF, if_neg (fun y => h1 y.2), gF_sF, if_neg (fun y => h2 y.2)]
      have m3 : smX (fun c => c = 72) h2 h3 := by rw [← hg]; exact smX.tr (smX_sF rfl) (smX_sF rfl)
      have H3 : KPl h3 j n0 K' (o1 - 1) c1 := by
        refine ⟨(f3 12 (by omega) (by omega)).trans a1, ?_, ?_, (f3 13 (by omega) (by omega)).trans a4, plA_cg K' (fun x _ => by rw [smA m3 (by omega)]) a5.2, fun q hq => a6 q (List.mem_cons_of_mem _ hq), cdA_cg (smA m3 (by omega)) _ c1 n0 a7⟩
        · rw [← hg, gF_sF, if_pos ⟨rfl, rfl⟩]
        · rw [← hg, gF_sF, if_neg (by omega), gF_sF, if_pos ⟨rfl, rfl⟩]
      have kf3 : kF j n0 h h3 := kf2.tr ⟨m3.mo (fun c hc => Or.inl hc), fun z hz => f3 z (by omega) (by omega), fun x _ => by rw [smA m3 (by omega)]⟩
      have T3 : KT h3 B L (i + 1) := k2.cg (fun z hz => f3 z (by omega) (by omega)) (smA m3 (by omega)) (by rw [← hg]; rfl)
      have l3 : gF h3 72 14 = nI lw := by rw [f3 14 (by omega) (by omega)]; exact l14
      have lO := opn_lt K t2.2.2.2.2.2.1
      by_cases g44 : opn K = 44
      · rw [g44, show (if 44 = 0 then (-1 : Int32) else nI 44) = 44 from rfl, if_pos rfl, if_pos rfl]
        obtain ⟨h4, x1, x2, x3, x4, x5, x6⟩ := k_emit X (d + 5) tx tu gu tl h3 H3 hj (by omega) 3 0
        rw [show (3 : Int32) = nI 3 from rfl, show (0 : Int32) = nI 0 from rfl, x1, bV_s, e_X11_behindOne_122]
        exact KO.pre tx tu gu tl (KO.bi tx tu gu tl (k_endOne X d tx tu gu tl hj h4 (T3.kt x3 x4) x2 (by rw [x3.2.1 14 (by omega)]; exact l3) (by omega) (by rw [List.length_append]; simp only [List.length_cons, List.length_nil]; omega) (by omega))) (kf3.tr x3)
      · have n44 : ¬ (if opn K = 0 then (-1 : Int32) else nI (opn K)) = 44 := by
          rw [if_neg (by omega)]
          exact fun z => g44 ((nI_eq (a := opn K) (b := 44) (by omega) (by omega)).mp z)
        rw [if_neg n44, if_neg g44, e_X11_behindOne_122]
        exact KO.pre tx tu gu tl (KO.bi tx tu gu tl (k_endOne X d tx tu gu tl hj h3 T3 H3 l3 (by omega) (by omega) (by omega))) kf3
    · have o41 : opLK (opn K :: K') = K'.length + 1 := by
        unfold opLK
        rw [if_pos p2]
      have eo : zI (((K'.length + 1 : Nat) : Int) - 1) = nI K'.length := by rw [zI_nI]; congr 1; omega
      rw [if_neg (show ¬ nI (prt (tkn B L) i K) = 0 from fun z => g3 ((nI_eq (a := prt (tkn B L) i K) (b := 0) (by omega) (by omega)).mp z)), if_neg g3, k_openAt X (d + 5) tx tu gu tl h2 H2 (by rw [List.length_cons]; omega), bI_s, o41, eo, e_X11_behindOne_135, inbI (by omega) (by omega), sA_w]
      revert p3
      generalize prt (tkn B L) i K = p at g3 gp ⊢
      intro p3
      generalize hg : sF (wA h2 77 (upd (gA h2 77) K'.length (nI p))) 72 18 0 = h3
      have m3 : smX (fun c => c = 72 ∨ c = 77) h2 h3 := by rw [← hg]; exact smX.tr (smX_wA (Or.inr rfl)) (smX_sF (Or.inl rfl))
      have f3 : ∀ z, z ≠ 18 → gF h3 72 z = gF h2 72 z := fun z h1 => by rw [← hg, gF_sF, if_neg (fun y => h1 y.2), gF_wA]
      have w3 : gA h3 77 = upd (gA h2 77) K'.length (nI p) := by
        rw [← hg]
        show gA (wA _ 77 _) 77 = _
        rw [gA_wA']
      refine ⟨h3, rfl, ⟨k2.cg (fun z hz => f3 z (by omega)) (smA m3 (by omega)) (by rw [← hg]; rfl), ⟨(f3 12 (by omega)).trans a1, ?_, (f3 17 (by omega)).trans a3, (f3 13 (by omega)).trans a4, ⟨?_, plA_cg K' (fun x hx => by rw [w3, pk_un (by omega)]) a5.2⟩, fun q hq => ?_, cdA_cg (smA m3 (by omega)) _ c1 n0 a7⟩, by rw [f3 14 (by omega)]; exact l14, by rw [← hg, gF_sF, if_pos ⟨rfl, rfl⟩]; rfl⟩, kf2.tr ⟨m3.mo (fun c hc => by omega), fun z hz => f3 z (by omega), fun x _ => by rw [smA m3 (by omega)]⟩⟩
      · rw [f3 16 (by omega)]
        exact a2
      · show gA h3 77 K'.length = nI p
        rw [w3, pk_us]
      · rcases List.mem_cons.mp hq with rfl | hq
        · omega
        · exact a6 q (List.mem_cons_of_mem _ hq)
end KH
