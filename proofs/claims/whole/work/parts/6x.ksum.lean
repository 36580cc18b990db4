/-! THE REFERENCE'S PILE: a whole sum -/
theorem rEnd_i {τ : Tk} {i o : Nat} {K : List Nat} {c : Cd} {s : St} (h : rEnd τ i K o c = .inl s) : i ≤ s.1 := by
  unfold rEnd rE2 at h
  split at h
  · split at h
    · injection h with h
      rw [← h]
      exact Nat.le_succ _
    · cases h
  · injection h with h
    rw [← h]
    exact Nat.le_refl _
theorem rEnd_f {τ : Tk} {i o : Nat} {K : List Nat} {c : Cd} {q : Nat × Nat × Cd} (h : rEnd τ i K o c = .inr q) : q.1 = 1 := by
  unfold rEnd rE2 at h
  split at h
  · split at h
    · cases h
    · injection h with h
      rw [← h]
  · cases h
theorem rOpn_i {i p o : Nat} {K : List Nat} {c : Cd} {s : St} (h : rOpn i p K o c = .inl s) : i < s.1 := by
  unfold rOpn at h
  split at h
  · cases h
  · injection h with h
    rw [← h]
    exact Nat.lt_succ_self _
theorem rOpn_f {i p o : Nat} {K : List Nat} {c : Cd} {q : Nat × Nat × Cd} (h : rOpn i p K o c = .inr q) : q.1 = 3 := by
  unfold rOpn at h
  split at h
  · injection h with h
    rw [← h]
  · cases h
theorem rBeg_cs {τ : Tk} {lw i o : Nat} {K : List Nat} {c : Cd} : (∃ q, rEnd τ (i + 1) K o (c ++ [q]) = rBeg τ lw i K o c) ∨ (∃ p, rOpn i p K o c = rBeg τ lw i K o c) ∨ ∃ f, 1 ≤ f ∧ f ≤ 5 ∧ rBeg τ lw i K o c = .inr (f, i, c) := by
  unfold rBeg
  split
  · split
    · exact Or.inr (Or.inr ⟨2, by omega, by omega, rfl⟩)
    · exact Or.inl ⟨_, rfl⟩
  · split
    · split
      · exact Or.inl ⟨_, rfl⟩
      · exact Or.inr (Or.inr ⟨5, by omega, by omega, rfl⟩)
    · split
      · exact Or.inr (Or.inl ⟨_, rfl⟩)
      · split
        · exact Or.inr (Or.inl ⟨_, rfl⟩)
        · split
          · exact Or.inr (Or.inl ⟨_, rfl⟩)
          · split
            · exact Or.inr (Or.inl ⟨_, rfl⟩)
            · split
              · exact Or.inr (Or.inl ⟨_, rfl⟩)
              · split
                · exact Or.inr (Or.inl ⟨_, rfl⟩)
                · exact Or.inr (Or.inr ⟨1, by omega, by omega, rfl⟩)
theorem rBeg_i {τ : Tk} {lw i o : Nat} {K : List Nat} {c : Cd} {s : St} (h : rBeg τ lw i K o c = .inl s) : i < s.1 := by
  rcases rBeg_cs (τ := τ) (lw := lw) (i := i) (o := o) (K := K) (c := c) with ⟨q, e⟩ | ⟨p, e⟩ | ⟨f, _, _, e⟩
  · exact rEnd_i (e.trans h)
  · exact rOpn_i (e.trans h)
  · rw [e] at h; cases h
theorem rBeg_f {τ : Tk} {lw i o : Nat} {K : List Nat} {c : Cd} {q : Nat × Nat × Cd} (h : rBeg τ lw i K o c = .inr q) : 1 ≤ q.1 ∧ q.1 ≤ 5 := by
  rcases rBeg_cs (τ := τ) (lw := lw) (i := i) (o := o) (K := K) (c := c) with ⟨q, e⟩ | ⟨p, e⟩ | ⟨f, f1, f2, e⟩
  · rw [rEnd_f (e.trans h)]; omega
  · rw [rOpn_f (e.trans h)]; omega
  · rw [e] at h
    injection h with h
    rw [← h]
    exact ⟨f1, f2⟩
theorem rBeh_i {τ : Tk} {i o : Nat} {K : List Nat} {c : Cd} {s : St} (h : rBeh τ i K o c = .inl s) : i < s.1 := by
  unfold rBeh at h
  split at h
  · injection h with h
    rw [← h]
    exact Nat.lt_succ_self _
  · split at h
    · split at h <;> cases h
    · split at h
      · exact rEnd_i h
      · injection h with h
        rw [← h]
        exact Nat.lt_succ_self _
theorem rBeh_f {τ : Tk} {i o : Nat} {K : List Nat} {c : Cd} {q : Nat × Nat × Cd} (hbp : ¬ (btw τ i K = 0 ∧ prt τ i K = 99)) (h : rBeh τ i K o c = .inr q) : q.1 = 1 := by
  unfold rBeh at h
  by_cases g : btw τ i K ≠ 0
  · rw [if_pos g] at h; cases h
  · rw [if_neg g, if_neg (fun z => hbp ⟨by omega, z⟩)] at h
    split at h
    · exact rEnd_f h
    · cases h
section KS
variable (X : XS) (d : Nat) (tx tu gu : Option Nat) (tl : List SC)
def SuO (tx tu gu : Option Nat) (tl : List SC) (B : Nat → Nat) (L j n0 i0 : Nat) (cl : RR) (h : DT) (r : Nat × Nat × Cd) : Prop := (r.1 = 0 ∧ ∃ h', cl = some (some (vI (0)), (SK tx tu gu tl, h')) ∧ KT h' B L r.2.1 ∧ gF h' 72 13 = nI (n0 + r.2.2.length) ∧ cdA h' (681 * j + 73) n0 r.2.2 ∧ r.2.2.length + i0 ≤ r.2.1 ∧ r.2.1 ≤ L ∧ kF j n0 h h') ∨ (1 ≤ r.1 ∧ r.1 ≤ 5 ∧ ∃ h', cl = some (some (vI (nI r.1)), (SK tx tu gu tl, h')) ∧ gF h' 72 8 = nI (tkn B L r.2.1).2.2 ∧ kF j n0 h h')
theorem SuO.pre {B : Nat → Nat} {L j n0 i0 : Nat} {cl : RR} {h h1 : DT} {r : Nat × Nat × Cd} (H : SuO tx tu gu tl B L j n0 i0 cl h1 r) (f : kF j n0 h h1) : SuO tx tu gu tl B L j n0 i0 cl h r := by
  rcases H with ⟨a, h', b, c1, c2, c3, c4, c5, c6⟩ | ⟨a, a2, h', b, c1, c2⟩
  · exact Or.inl ⟨a, h', b, c1, c2, c3, c4, c5, f.tr c6⟩
  · exact Or.inr ⟨a, a2, h', b, c1, f.tr c2⟩
theorem k_sumlp {B : Nat → Nat} {L j lw n0 i0 : Nat} (hj : j < 4) (hlw : lw < 2) (hL : L ≤ 300) (hn0 : n0 ≤ i0) (hi0 : 1 ≤ i0) : ∀ (m : Nat) (s : St) (h : DT) (f : Nat) (r : Nat × Nat × Cd), rIt (tkn B L) lw m s = .inr r → JJ L i0 s → KM h B L j lw n0 s → 3 * (L - s.1) + 5 ≤ f → SuO tx tu gu tl B L j n0 i0 (m_X11_summed X (d + 7) f 15 [(0, vP (some 72))] [] (SK tx tu gu tl, h)) h r
  | 0, s, h, f, r, hr, J, H, hf => by cases hr
  | m + 1, s, h, f, r, hr, J, H, hf => by
    have hE : ∀ j, L ≤ j → (tkn B L j).1 = 0 := fun j hj => tkn_0 hj
    obtain ⟨f, rfl⟩ : ∃ g, f = g + 5 := ⟨f - 5, by omega⟩
    have hst : ∀ s', rStep (tkn B L) lw s = .inl s' → rIt (tkn B L) lw m s' = .inr r := fun s' e => by
      unfold rIt at hr
      rw [e] at hr
      exact hr
    have hsr : ∀ q, rStep (tkn B L) lw s = .inr q → q = r := fun q e => by
      unfold rIt at hr
      rw [e] at hr
      exact Sum.inr.inj hr
    have hJ : ∀ s', rStep (tkn B L) lw s = .inl s' → JJ L i0 s' := fun s' e => JJ_st hE J e
    have hsL := J.2.2.2.2.2
    obtain ⟨i, K, o, w, c⟩ := s
    change i ≤ L at hsL
    change 3 * (L - i) + 5 ≤ f + 5 at hf
    obtain ⟨t1, t2, t3, t4⟩ := id H
    change KT h B L i at t1
    change KPl h j n0 K o c at t2
    change gF h 72 18 = bzB w at t4
    rw [e_X11_summed_15, t4]
    obtain ⟨q1, q2, q3, q4, q5, q6⟩ := id J
    change o = cntO K at q1
    change o ≤ 8 at q2
    change 2 * (K.length - cntO K) + (bif w then 1 else 0) + i0 ≤ i at q3
    change c.length + K.length + i0 ≤ i at q4
    have hcK := cntO_le K
    cases w with
    | false =>
      rw [bz_f, if_pos rfl]
      have hK := k_beginOne X d tx tu gu tl hj hlw hL hn0 h H J
      cases hb : rBeg (tkn B L) lw i K o c with
      | inl s' =>
        rw [hb] at hK
        obtain ⟨h1, e1, e2, e3⟩ := hK
        have hi := rBeg_i hb
        have hs' := (hJ s' hb).2.2.2.2.2
        rw [e1, bI_s, e_X11_summed_33, if_pos (by decide), if_pos rfl]
        exact SuO.pre tx tu gu tl (k_sumlp hj hlw hL hn0 hi0 m s' h1 (f + 3) r (hst s' hb) (hJ s' hb) e2 (by omega)) e3
      | inr q =>
        rw [hb] at hK
        obtain ⟨h1, e1, e2, e3⟩ := hK
        obtain ⟨f1, f2⟩ := rBeg_f hb
        have := hsr q hb
        subst this
        rw [e1, bI_s, e_X11_summed_33, if_neg (show ¬ nI q.1 ≤ 0 from fun z => by have := (nI_leI (a := q.1) (b := 0) (by omega) (by omega)).mp z; omega)]
        exact Or.inr ⟨f1, f2, h1, rfl, e2, e3⟩
    | true =>
      rw [bz_t, if_neg one0]
      by_cases hbp : btw (tkn B L) i K = 0 ∧ prt (tkn B L) i K = 99
      · have e0 : rStep (tkn B L) lw (i, K, o, true, c) = if opn K ≠ 0 then .inr (1, i, c) else .inr (0, i, (stl 1 K o c).2.2) := by
          show rBeh (tkn B L) i K o c = _
          unfold rBeh
          rw [if_neg (show ¬ btw (tkn B L) i K ≠ 0 by omega), if_pos hbp.2]
        have hK2 : K.length ≤ 160 := by
          change 2 * (K.length - cntO K) + 1 + i0 ≤ i at q3
          omega
        rw [k_behN X d tx tu gu tl h H hK2 hbp.1 hbp.2, bI_s, e_X11_summed_26, e_X11_summed_33, if_pos (by decide), if_neg (by decide), k_openNow X (d + 5) tx tu gu tl h t2 hK2, bI_s, e_X11_summed_51]
        have ol := opn_lt K t2.2.2.2.2.2.1
        by_cases g : opn K = 0
        · rw [if_neg (by omega)] at e0
          have := hsr _ e0
          subst this
          obtain ⟨h1, e1, e2, e3, e4, e5⟩ := k_settle X (d + 5) tx tu gu tl hj (r := 1) (by omega) (by omega) h t2 q1 (by omega) hK2
          have sinv := stl_inv (r := 1) (by omega) K c
          rw [← q1] at sinv
          rw [if_pos g, if_pos (by decide), show (1 : Int32) = nI 1 from rfl, e1, bV_s]
          refine Or.inl ⟨rfl, h1, rfl, t1.kt e3 e4, e2.2.2.2.1, e2.2.2.2.2.2.2, ?_, hsL, e3⟩
          show (stl 1 K o c).2.2.length + i0 ≤ i
          have := sinv.2.1
          omega
        · rw [if_pos g] at e0
          have := hsr _ e0
          subst this
          rw [if_neg g, if_neg (nI_pos (by omega))]
          exact Or.inr ⟨by omega, by show 1 ≤ 5; omega, h, rfl, t1.2.1, kF.rf _ _ h⟩
      · have hK := k_beh X d tx tu gu tl hj hL hn0 hi0 h H J hbp
        cases hb : rBeh (tkn B L) i K o c with
        | inl s' =>
          rw [hb] at hK
          obtain ⟨h1, e1, e2, e3⟩ := hK
          have hi := rBeh_i hb
          have hs' := (hJ s' hb).2.2.2.2.2
          rw [e1, bI_s, e_X11_summed_26, e_X11_summed_33, if_pos (by decide), if_pos rfl]
          exact SuO.pre tx tu gu tl (k_sumlp hj hlw hL hn0 hi0 m s' h1 (f + 2) r (hst s' hb) (hJ s' hb) e2 (by omega)) e3
        | inr q =>
          rw [hb] at hK
          obtain ⟨h1, e1, e2, e3⟩ := hK
          have f1 := rBeh_f hbp hb
          have := hsr q hb
          subst this
          rw [e1, bI_s, e_X11_summed_26, e_X11_summed_33, if_neg (show ¬ nI q.1 ≤ 0 from fun z => by have := (nI_leI (a := q.1) (b := 0) (by omega) (by omega)).mp z; omega)]
          exact Or.inr ⟨by omega, by omega, h1, rfl, e2, e3⟩
theorem k_sum {B : Nat → Nat} {L j lw n0 i : Nat} (hj : j < 4) (hlw : lw < 2) (hL : L ≤ 300) (hn0 : n0 ≤ i) (hi0 : 1 ≤ i) (hiL : i ≤ L) (h : DT) (t1 : KT h B L i) (h12 : gF h 72 12 = nI (681 * j)) (h13 : gF h 72 13 = nI n0) (h14 : gF h 72 14 = nI lw) : ∃ c, SuO tx tu gu tl B L j n0 i (cal X (d + 8) 206 [vP (some 72)] (SK tx tu gu tl, h)) h (match sumP (tkn B L) (lvP (tkn B L) lw 8).1 i with
    | .inl q => (q.1, q.2, c)
    | .inr q => (0, q.1, q.2)) ∧ (∀ q, sumP (tkn B L) (lvP (tkn B L) lw 8).1 i = .inr q → i < q.1) := by
  generalize hg : sF (sF (sF h 72 16 0) 72 17 0) 72 18 0 = h1
  have s1 : smX (fun c => c = 72) h h1 := by rw [← hg]; exact smX.tr (smX.tr (smX_sF rfl) (smX_sF rfl)) (smX_sF rfl)
  have f1 : ∀ z, z ≠ 16 → z ≠ 17 → z ≠ 18 → gF h1 72 z = gF h 72 z := fun z a b c => by rw [← hg, gF_sF, if_neg (fun y => c y.2), gF_sF, if_neg (fun y => b y.2), gF_sF, if_neg (fun y => a y.2)]
  have kf1 : kF j n0 h h1 := ⟨s1.mo (fun c hc => Or.inl hc), fun z hz => f1 z (by omega) (by omega) (by omega), fun x _ => by rw [smA s1 (by omega)]⟩
  have T1 : KT h1 B L i := t1.cg (fun z hz => f1 z (by omega) (by omega) (by omega)) (smA s1 (by omega)) (by rw [← hg]; rfl)
  have M1 : KM h1 B L j lw n0 (i, [], 0, false, []) := by
    refine ⟨T1, ⟨(f1 12 (by omega) (by omega) (by omega)).trans h12, ?_, ?_, (f1 13 (by omega) (by omega) (by omega)).trans h13, trivial, fun p hp => (by cases hp), trivial⟩, (f1 14 (by omega) (by omega) (by omega)).trans h14, ?_⟩
    · rw [← hg, gF_sF, if_neg (by omega), gF_sF, if_neg (by omega), gF_sF, if_pos ⟨rfl, rfl⟩]; rfl
    · rw [← hg, gF_sF, if_neg (by omega), gF_sF, if_pos ⟨rfl, rfl⟩]; rfl
    · rw [← hg, gF_sF, if_pos ⟨rfl, rfl⟩]; rfl
  have J1 : JJ L i (i, [], 0, false, []) := ⟨rfl, by show 0 ≤ 8; omega, by show 2 * (0 - 0) + 0 + i ≤ i; omega, by show 0 + 0 + i ≤ i; omega, fun p hp => (by cases hp), hiL⟩
  have st : cal X (d + 8) 206 [vP (some 72)] (SK tx tu gu tl, h) = m_X11_summed X (d + 7) 999999 15 [(0, vP (some 72))] [] (SK tx tu gu tl, h1) := by
    rw [c_X11_summed, e_X11_summed_0, hg]
  have TL := T_law (τ := tkn B L) (lw := lw) (tkn_E hL) i []
  rw [st]
  cases hs : sumP (tkn B L) (lvP (tkn B L) lw 8).1 i with
  | inl q =>
    rw [hs] at TL
    obtain ⟨a1, c, m, a2⟩ := TL
    exact ⟨c, SuO.pre tx tu gu tl (k_sumlp X d tx tu gu tl hj hlw hL hn0 hi0 m _ h1 999999 _ a2 J1 M1 (by show 3 * (L - i) + 5 ≤ 999999; omega)) kf1, fun q hq => (by cases hq)⟩
  | inr q =>
    rw [hs] at TL
    obtain ⟨a1, m, a2⟩ := TL
    refine ⟨[], SuO.pre tx tu gu tl (k_sumlp X d tx tu gu tl hj hlw hL hn0 hi0 m _ h1 999999 (0, q.1, q.2) a2 J1 M1 (by show 3 * (L - i) + 5 ≤ 999999; omega)) kf1, fun q2 hq => ?_⟩
    rw [← Sum.inr.inj hq]
    exact a1
end KS
