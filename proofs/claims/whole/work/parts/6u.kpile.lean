/-! THE REFERENCE'S PILE: its small methods -/
def plA (h : DT) : List Nat → Prop
  | [] => True
  | p :: K => gA h 77 K.length = nI p ∧ plA h K
def KPl (h : DT) (j n0 : Nat) (K : List Nat) (o : Nat) (c : Cd) : Prop := gF h 72 12 = nI (681 * j) ∧ gF h 72 16 = nI K.length ∧ gF h 72 17 = nI o ∧ gF h 72 13 = nI (n0 + c.length) ∧ plA h K ∧ (∀ p ∈ K, p < 1000) ∧ cdA h (681 * j + 73) n0 c
def kF (j n0 : Nat) (h h' : DT) : Prop := smX (fun c => c = 72 ∨ c = 75 ∨ c = 77) h h' ∧ (∀ z, z < 7 ∨ z = 12 ∨ z = 14 ∨ 19 ≤ z → gF h' 72 z = gF h 72 z) ∧ ∀ x, x < 681 * j + 73 + 2 * n0 ∨ 681 * j + 681 ≤ x → gA h' 75 x = gA h 75 x
def kT (h h' : DT) : Prop := (∀ z, z = 4 ∨ (7 ≤ z ∧ z ≤ 10) → gF h' 72 z = gF h 72 z) ∧ gG h' 72 11 = gG h 72 11
theorem kF.rf (j n0 : Nat) (h : DT) : kF j n0 h h := ⟨smX.rf _ h, fun _ _ => rfl, fun _ _ => rfl⟩
theorem kF.tr {j n0 : Nat} {a b c : DT} (p : kF j n0 a b) (q : kF j n0 b c) : kF j n0 a c := ⟨p.1.tr q.1, fun z hz => (q.2.1 z hz).trans (p.2.1 z hz), fun x hx => (q.2.2 x hx).trans (p.2.2 x hx)⟩
theorem kT.rf (h : DT) : kT h h := ⟨fun _ _ => rfl, rfl⟩
theorem kT.tr {a b c : DT} (p : kT a b) (q : kT b c) : kT a c := ⟨fun z hz => (q.1 z hz).trans (p.1 z hz), q.2.trans p.2⟩
theorem KT.kt {h h' : DT} {B : Nat → Nat} {L i j n0 : Nat} (H : KT h B L i) (f : kF j n0 h h') (g : kT h h') : KT h' B L i := H.cg g.1 (smA f.1 (by omega)) g.2
theorem plA_cg {h h' : DT} : ∀ (K : List Nat), (∀ x, x < K.length → gA h' 77 x = gA h 77 x) → plA h K → plA h' K
  | [], _, _ => trivial
  | p :: K, e, H => ⟨by rw [e _ (by simp)]; exact H.1, plA_cg K (fun x hx => e x (by simp; omega)) H.2⟩
theorem cdA_rg {h h' : DT} (c0 : Nat) : ∀ (e : Cd) (w : Nat), (∀ x, c0 + 2 * w ≤ x → x < c0 + 2 * (w + e.length) → gA h' 75 x = gA h 75 x) → cdA h c0 w e → cdA h' c0 w e
  | [], _, _, _ => trivial
  | q :: e, w, eq, H => by
    rw [List.length_cons] at eq
    exact ⟨by rw [eq _ (by omega) (by omega)]; exact H.1, by rw [eq _ (by omega) (by omega)]; exact H.2.1, cdA_rg c0 e (w + 1) (fun x h1 h2 => eq x (by omega) (by omega)) H.2.2⟩
theorem cdA_app {h : DT} (c0 a b : Nat) : ∀ (e : Cd) (w : Nat), cdA h c0 w e → gA h 75 (c0 + 2 * (w + e.length)) = nI a → gA h 75 (c0 + 2 * (w + e.length) + 1) = nI b → cdA h c0 w (e ++ [(a, b)])
  | [], w, _, h1, h2 => ⟨h1, h2, trivial⟩
  | q :: e, w, H, h1, h2 => by
    rw [List.length_cons, show w + (e.length + 1) = w + 1 + e.length by omega] at h1 h2
    exact ⟨H.1, H.2.1, cdA_app c0 a b e (w + 1) H.2.2 h1 h2⟩
theorem smX_gG {S : Nat → Prop} {h h' : DT} (H : smX S h h') {n : Nat} (hn : ¬ S n) : gG h' n = gG h n := (H n hn).2.1
section KP
variable (X : XS) (d : Nat) (tx tu gu : Option Nat) (tl : List SC)
theorem k_emit {j n0 o : Nat} {K : List Nat} {c : Cd} (h : DT) (H : KPl h j n0 K o c) (hj : j < 4) (hn : n0 + c.length < 304) (a b : Nat) : ∃ h', cal X (d + 1) 190 [vP (some 72), vI (nI a), vI (nI b)] (SK tx tu gu tl, h) = some (none, (SK tx tu gu tl, h')) ∧ KPl h' j n0 K o (c ++ [(a, b)]) ∧ kF j n0 h h' ∧ kT h h' ∧ gF h' 72 18 = gF h 72 18 ∧ gA h' 77 = gA h 77 := by
  obtain ⟨a1, a2, a3, a4, a5, a6, a7⟩ := H
  have q : smX (fun c => c = 72 ∨ c = 75) h (sF (wA h 75 (upd (upd (gA h 75) (681 * j + 73 + 2 * (n0 + c.length)) (nI a)) (681 * j + 73 + 2 * (n0 + c.length) + 1) (nI b))) 72 13 (nI (n0 + c.length + 1))) := smX.tr (smX_wA (Or.inr rfl)) (smX_sF (Or.inl rfl))
  refine ⟨sF (wA h 75 (upd (upd (gA h 75) (681 * j + 73 + 2 * (n0 + c.length)) (nI a)) (681 * j + 73 + 2 * (n0 + c.length) + 1) (nI b))) 72 13 (nI (n0 + c.length + 1)), ?_, ⟨?_, ?_, ?_, ?_, ?_, a6, ?_⟩, ⟨q.mo (fun c hc => by omega), fun z hz => ?_, fun x hx => ?_⟩, ⟨fun z hz => ?_, rfl⟩, ?_, smA q (by omega)⟩
  · rw [c_X11_emit, e_X11_emit_0, a1, a4, show (73 : Int32) = nI 73 from rfl, addI, show (2 : Int32) = nI 2 from rfl, mulI, addI, inbI (by omega) (by omega), nI_1, inbI (by omega) (by omega), nI_1, sA_w, sA_w, gA_wA', wA_wA]
  · rw [gF_sF, if_neg (by omega)]; exact a1
  · rw [gF_sF, if_neg (by omega)]; exact a2
  · rw [gF_sF, if_neg (by omega)]; exact a3
  · rw [gF_sF, if_pos ⟨rfl, rfl⟩, List.length_append]
    rfl
  · exact plA_cg K (fun x _ => by rw [smA q (by omega)]) a5
  · refine cdA_app _ a b c n0 (cdA_rg _ c n0 (fun x h1 h2 => ?_) a7) ?_ ?_
    · show gA (wA h 75 _) 75 x = _
      rw [gA_wA', pk_un (by omega), pk_un (by omega)]
    · show gA (wA h 75 _) 75 _ = _
      rw [gA_wA', pk_un (by omega), pk_us]
    · show gA (wA h 75 _) 75 _ = _
      rw [gA_wA', pk_us]
  · rw [gF_sF, if_neg (by omega)]; rfl
  · show gA (wA h 75 _) 75 x = _
    rw [gA_wA', pk_un (by omega), pk_un (by omega)]
  · rw [gF_sF, if_neg (by omega)]; rfl
  · rw [gF_sF, if_neg (by omega)]; rfl
theorem k_rank {p : Nat} (hp : p < 1000) (h : DT) : cal X (d + 1) 193 [vI (nI p)] (SK tx tu gu tl, h) = some (some (vI (nI (rnk p))), (SK tx tu gu tl, h)) := by
  rw [c_X11_rank, e_X11_rank_0]
  simp only [iteR]
  refine rI ?_
  revert hp
  revert p
  decide +kernel
theorem rnk_7 (p : Nat) : rnk p ≤ 7 := by
  unfold rnk
  split
  · omega
  · split
    · omega
    · split
      · omega
      · split
        · omega
        · split
          · omega
          · split
            · omega
            · split <;> omega
theorem k_slp {j n0 r : Nat} (hj : j < 4) (hr : 1 ≤ r) (hr7 : r ≤ 7) : ∀ (K : List Nat) (c : Cd) (h : DT), KPl h j n0 K (cntO K) c → n0 + c.length + K.length ≤ 304 → K.length ≤ 160 → ∃ h', (∀ f, 4 * K.length + 2 ≤ f → m_X11_settle X (d + 1) f 0 [(0, vP (some 72)), (1, vI (nI r))] [] (SK tx tu gu tl, h) = some (none, (SK tx tu gu tl, h'))) ∧ KPl h' j n0 (stl r K (cntO K) c).1 (stl r K (cntO K) c).2.1 (stl r K (cntO K) c).2.2 ∧ kF j n0 h h' ∧ kT h h' ∧ gF h' 72 18 = gF h 72 18
  | [], c, h, H, hn, hK => by
    refine ⟨h, fun f hf => ?_, H, kF.rf _ _ h, kT.rf h, rfl⟩
    obtain ⟨f, rfl⟩ : ∃ g, f = g + 1 := ⟨f - 1, by omega⟩
    rw [e_X11_settle_0, H.2.1, if_pos (by decide)]
  | p :: K, c, h, H, hn, hK => by
    obtain ⟨a1, a2, a3, a4, a5, a6, a7⟩ := id H
    rw [List.length_cons] at hn hK a2
    have hp := a6 p List.mem_cons_self
    have r7 := rnk_7 p
    have hpil : gA h 77 K.length = nI p := a5.1
    have em1 : nI (K.length + 1) - 1 = nI K.length := by rw [show (1 : Int32) = nI 1 from rfl, subI (by omega)]; rfl
    unfold stl
    by_cases g : r ≤ rnk p
    · have h40 := rnk_40 (p := p) (by omega)
      generalize hg : sF h 72 16 (nI K.length) = h1
      have f1 : ∀ z, z ≠ 16 → gF h1 72 z = gF h 72 z := fun z hz => by rw [← hg, gF_sF, if_neg (fun y => hz y.2)]
      have s1 : smX (fun c => c = 72) h h1 := by rw [← hg]; exact smX_sF rfl
      have g1 : gG h1 = gG h := by rw [← hg]; rfl
      have H1 : KPl h1 j n0 K (cntO (p :: K)) c := ⟨(f1 12 (by omega)).trans a1, by rw [← hg, gF_sF, if_pos ⟨rfl, rfl⟩], (f1 17 (by omega)).trans a3, (f1 13 (by omega)).trans a4, plA_cg K (fun x _ => by rw [smA s1 (by omega)]) a5.2, fun q hq => a6 q (List.mem_cons_of_mem _ hq), cdA_cg (smA s1 (by omega)) _ c n0 a7⟩
      obtain ⟨h2, e1, e2, e3, e4, e5, e6⟩ := k_emit X d tx tu gu tl h1 H1 hj (by omega) p 0
      have p2 : gA h2 77 K.length = nI p := by
        rw [e6, smA s1 (by omega)]
        exact hpil
      generalize hg3 : (if isN p = 1 then sF h2 72 17 (nI (cntO (p :: K) - 1)) else h2) = h3
      have f3 : ∀ z, z ≠ 17 → gF h3 72 z = gF h2 72 z := fun z hz => by
        rw [← hg3]
        split
        · rw [gF_sF, if_neg (fun y => hz y.2)]
        · rfl
      have s3 : smX (fun c => c = 72) h2 h3 := by
        rw [← hg3]
        split
        · exact smX_sF rfl
        · exact smX.rf _ h2
      have g3 : gG h3 = gG h2 := by
        rw [← hg3]
        split <;> rfl
      have ec : cntO (p :: K) - isN p = cntO K := by
        show (if isN p = 1 ∨ 40 ≤ p then 1 else 0) + cntO K - isN p = cntO K
        rcases isN_1 p with z | z
        · rw [z, if_neg (by omega)]; omega
        · rw [z, if_pos (by omega)]; omega
      have f17 : gF h3 72 17 = nI (cntO K) := by
        rw [← hg3]
        rcases isN_1 p with z | z
        · rw [if_neg (by omega), e2.2.2.1]
          rw [z] at ec
          rw [← ec]
          rfl
        · rw [if_pos z, gF_sF, if_pos ⟨rfl, rfl⟩]
          rw [z] at ec
          rw [ec]
      have H3 : KPl h3 j n0 K (cntO K) (c ++ [(p, 0)]) := ⟨(f3 12 (by omega)).trans e2.1, (f3 16 (by omega)).trans e2.2.1, f17, (f3 13 (by omega)).trans e2.2.2.2.1, plA_cg K (fun x _ => by rw [smA s3 (by omega)]) e2.2.2.2.2.1, e2.2.2.2.2.2.1, cdA_cg (smA s3 (by omega)) _ _ n0 e2.2.2.2.2.2.2⟩
      have kf1 : kF j n0 h h1 := ⟨s1.mo (fun c hc => Or.inl hc), fun z hz => f1 z (by omega), fun x _ => by rw [smA s1 (by omega)]⟩
      have kf3 : kF j n0 h2 h3 := ⟨s3.mo (fun c hc => Or.inl hc), fun z hz => f3 z (by omega), fun x _ => by rw [smA s3 (by omega)]⟩
      have kt1 : kT h h1 := ⟨fun z hz => f1 z (by omega), by rw [g1]⟩
      have kt3 : kT h2 h3 := ⟨fun z hz => f3 z (by omega), by rw [g3]⟩
      obtain ⟨h4, l1, l2, l3, l4, l5⟩ := k_slp hj hr hr7 K (c ++ [(p, 0)]) h3 H3 (by rw [List.length_append]; simp only [List.length_cons, List.length_nil]; omega) (by omega)
      rw [if_pos g, ec]
      refine ⟨h4, fun f hf => ?_, l2, ((kf1.tr e3).tr kf3).tr l3, ((kt1.tr e4).tr kt3).tr l4, ?_⟩
      · rw [List.length_cons] at hf
        obtain ⟨f, rfl⟩ : ∃ g, f = g + 4 := ⟨f - 4, by omega⟩
        have c16 : gF h2 72 16 = nI K.length := e2.2.1
        have key : m_X11_settle X (d + 1) (f + 4) 0 [(0, vP (some 72)), (1, vI (nI r))] [] (SK tx tu gu tl, h) = m_X11_settle X (d + 1) f 0 [(0, vP (some 72)), (1, vI (nI r))] [] (SK tx tu gu tl, h3) := by
          rw [e_X11_settle_0, a2, if_neg (fun z => by have := (nI_leI (a := K.length + 1) (b := 0) (by omega) (by omega)).mp z; omega), em1, inbI (by omega) (by omega), hpil, k_rank X d tx tu gu tl hp, bI_s, e_X11_settle_21, if_neg (fun z => by have := (nI_ltI (a := rnk p) (b := r) (by omega) (by omega)).mp z; omega), a2, em1, inbI (by omega) (by omega), hpil, hg, show (0 : Int32) = nI 0 from rfl, e1, bV_s, e_X11_settle_49, c16, inbI (by omega) (by omega), p2, k_rank X d tx tu gu tl hp, bI_s, e_X11_settle_61, c16]
          have em : isN p = 1 → nI (cntO (p :: K)) - 1 = nI (cntO (p :: K) - 1) := fun z => by
            rw [show (1 : Int32) = nI 1 from rfl, subI]
            show 1 ≤ (if isN p = 1 ∨ 40 ≤ p then 1 else 0) + cntO K
            rw [if_pos (Or.inl z)]
            omega
          by_cases z7 : rnk p = 7
          · have iN : isN p = 1 := by unfold isN; rw [if_pos (Or.inl z7)]
            rw [if_pos (by rw [z7]; rfl), e2.2.2.1, em iN, ← hg3, if_pos iN]
          · rw [if_neg (show ¬ nI (rnk p) = 7 from fun z => z7 ((nI_eq (a := rnk p) (b := 7) (by omega) (by omega)).mp z)), inbI (by omega) (by omega), p2]
            by_cases z20 : p = 20
            · have iN : isN p = 1 := by unfold isN; rw [if_pos (Or.inr z20)]
              rw [if_pos (by rw [z20]; rfl), e2.2.2.1, em iN, ← hg3, if_pos iN]
            · have iN : ¬ isN p = 1 := by unfold isN; rw [if_neg (by omega)]; decide
              rw [if_neg (show ¬ nI p = 20 from fun z => z20 ((nI_eq (a := p) (b := 20) (by omega) (by omega)).mp z)), ← hg3, if_neg iN]
        rw [key]
        exact l1 f (by omega)
      · rw [l5, f3 18 (by omega), e5, f1 18 (by omega)]
    · rw [if_neg g]
      refine ⟨h, fun f hf => ?_, H, kF.rf _ _ h, kT.rf h, rfl⟩
      obtain ⟨f, rfl⟩ : ∃ g, f = g + 2 := ⟨f - 2, by omega⟩
      rw [e_X11_settle_0, a2, if_neg (fun z => by have := (nI_leI (a := K.length + 1) (b := 0) (by omega) (by omega)).mp z; omega), em1, inbI (by omega) (by omega), hpil, k_rank X d tx tu gu tl hp, bI_s, e_X11_settle_21, if_pos ((nI_ltI (by omega) (by omega)).mpr (by omega))]
theorem k_settle {j n0 r o : Nat} {K : List Nat} {c : Cd} (hj : j < 4) (hr : 1 ≤ r) (hr7 : r ≤ 7) (h : DT) (H : KPl h j n0 K o c) (ho : o = cntO K) (hn : n0 + c.length + K.length ≤ 304) (hK : K.length ≤ 160) : ∃ h', cal X (d + 2) 194 [vP (some 72), vI (nI r)] (SK tx tu gu tl, h) = some (none, (SK tx tu gu tl, h')) ∧ KPl h' j n0 (stl r K o c).1 (stl r K o c).2.1 (stl r K o c).2.2 ∧ kF j n0 h h' ∧ kT h h' ∧ gF h' 72 18 = gF h 72 18 := by
  subst ho
  obtain ⟨h', k1, k2⟩ := k_slp X d tx tu gu tl hj hr hr7 K c h H hn hK
  refine ⟨h', ?_, k2⟩
  rw [c_X11_settle, k1 _ (by omega)]
def opLK : List Nat → Nat
  | [] => 0
  | p :: K => if 40 ≤ p then K.length + 1 else opLK K
theorem opLK_s : ∀ K : List Nat, (opLK K = 0 ∧ opn K = 0) ∨ (1 ≤ opLK K ∧ opLK K ≤ K.length ∧ 40 ≤ opn K ∧ ∀ h, plA h K → gA h 77 (opLK K - 1) = nI (opn K))
  | [] => Or.inl ⟨rfl, rfl⟩
  | p :: K => by
    unfold opLK opn
    by_cases g : 40 ≤ p
    · rw [if_pos g, if_pos g]
      exact Or.inr ⟨by omega, by simp, g, fun h H => H.1⟩
    · rw [if_neg g, if_neg g]
      rcases opLK_s K with h | ⟨h1, h2, h3, h4⟩
      · exact Or.inl h
      · exact Or.inr ⟨h1, by rw [List.length_cons]; omega, h3, fun h H => h4 h H.2⟩
theorem k_olp (h : DT) : ∀ (K : List Nat), plA h K → K.length ≤ 160 → (∀ p ∈ K, p < 1000) → ∀ f, K.length + 1 ≤ f → m_X11_openAt X d f 7 [(0, vP (some 72)), (1, vI (zI ((K.length : Int) - 1)))] [] (SK tx tu gu tl, h) = some (some (vI (zI ((opLK K : Int) - 1))), (SK tx tu gu tl, h))
  | [], _, _, _, f, hf => by
    obtain ⟨f, rfl⟩ : ∃ g, f = g + 1 := ⟨f - 1, by omega⟩
    rw [e_X11_openAt_7, if_pos (by decide)]
    rfl
  | p :: K, H, hK, hp, f, hf => by
    rw [List.length_cons] at hK hf ⊢
    obtain ⟨f, rfl⟩ : ∃ g, f = g + 1 := ⟨f - 1, by omega⟩
    have h1 := hp p List.mem_cons_self
    have e : zI (((K.length + 1 : Nat) : Int) - 1) = nI K.length := by rw [zI_nI]; congr 1; omega
    rw [e, e_X11_openAt_7, if_neg (nI_pos (by omega)), inbI (by omega) (by omega), H.1, show (40 : Int32) = nI 40 from rfl]
    unfold opLK
    by_cases g : 40 ≤ p
    · rw [if_pos (nI_le (by omega) (by omega)), if_pos g]
      refine rI ?_
      rw [zI_nI]
      congr 1
      omega
    · rw [if_neg (nI_ge (by omega) (by omega)), if_neg g]
      have e2 : nI K.length + (-1) = zI ((K.length : Int) - 1) := by rw [zI_nI, show (-1 : Int32) = zI (-1) from rfl, zI_add]; rfl
      rw [e2]
      exact k_olp h K H.2 (by omega) (fun q hq => hp q (List.mem_cons_of_mem _ hq)) f (by omega)
theorem k_openAt {j n0 o : Nat} {K : List Nat} {c : Cd} (h : DT) (H : KPl h j n0 K o c) (hK : K.length ≤ 160) : cal X (d + 1) 195 [vP (some 72)] (SK tx tu gu tl, h) = some (some (vI (zI ((opLK K : Int) - 1))), (SK tx tu gu tl, h)) := by
  obtain ⟨a1, a2, a3, a4, a5, a6, a7⟩ := H
  have e : nI K.length - 1 = zI ((K.length : Int) - 1) := by rw [zI_nI, show (1 : Int32) = zI 1 from rfl, zI_sub]
  rw [c_X11_openAt, e_X11_openAt_0, a2, e]
  exact k_olp X d tx tu gu tl h K a5 hK a6 _ (by omega)
theorem k_openNow {j n0 o : Nat} {K : List Nat} {c : Cd} (h : DT) (H : KPl h j n0 K o c) (hK : K.length ≤ 160) : cal X (d + 2) 196 [vP (some 72)] (SK tx tu gu tl, h) = some (some (vI (if opn K = 0 then -1 else nI (opn K))), (SK tx tu gu tl, h)) := by
  rw [c_X11_openNow, e_X11_openNow_0, k_openAt X d tx tu gu tl h H hK, bI_s, e_X11_openNow_4]
  rcases opLK_s K with ⟨h1, h2⟩ | ⟨h1, h2, h3, h4⟩
  · rw [h1, h2, if_neg (by decide), if_pos rfl]
  · have e : zI ((opLK K : Int) - 1) = nI (opLK K - 1) := by rw [zI_nI]; congr 1; omega
    rw [e, if_pos (z0le (by omega)), k_openAt X d tx tu gu tl h H hK, bI_s, e, e_X11_openNow_19, inbI (by omega) (by omega), h4 h H.2.2.2.2.1, if_neg (by omega)]
theorem k_clp (h : DT) : ∀ (K : List Nat), plA h K → K.length ≤ 160 → (∀ p ∈ K, p < 1000) → ∀ f, 2 * K.length + 2 ≤ f → m_X11_isCompared X (d + 1) f 7 [(0, vP (some 72)), (1, vI (zI ((K.length : Int) - 1)))] [] (SK tx tu gu tl, h) = some (some (vI (bzB (cmpd K))), (SK tx tu gu tl, h))
  | [], _, _, _, f, hf => by
    obtain ⟨f, rfl⟩ : ∃ g, f = g + 2 := ⟨f - 2, by omega⟩
    rw [e_X11_isCompared_7, if_pos (by decide), e_X11_isCompared_30, if_pos (by decide)]
    rfl
  | p :: K, H, hK, hp, f, hf => by
    rw [List.length_cons] at hK hf ⊢
    obtain ⟨f, rfl⟩ : ∃ g, f = g + 3 := ⟨f - 3, by omega⟩
    have h1 := hp p List.mem_cons_self
    have r7 := rnk_7 p
    have e : zI (((K.length + 1 : Nat) : Int) - 1) = nI K.length := by rw [zI_nI]; congr 1; omega
    rw [e, e_X11_isCompared_7, if_neg (nI_pos (by omega)), inbI (by omega) (by omega), H.1, k_rank X d tx tu gu tl h1, bI_s, e_X11_isCompared_20, show (4 : Int32) = nI 4 from rfl]
    unfold cmpd
    by_cases g : 4 < rnk p
    · rw [if_neg (nI_ge (by omega) (by omega)), if_pos g]
      have e2 : nI K.length + (-1) = zI ((K.length : Int) - 1) := by rw [zI_nI, show (-1 : Int32) = zI (-1) from rfl, zI_add]; rfl
      rw [e2]
      exact k_clp h K H.2 (by omega) (fun q hq => hp q (List.mem_cons_of_mem _ hq)) (f + 1) (by omega)
    · rw [if_pos (nI_le (by omega) (by omega)), if_neg g, e_X11_isCompared_30, if_neg (nI_pos (by omega)), inbI (by omega) (by omega), H.1, k_rank X d tx tu gu tl h1, bI_s, show (4 : Int32) = nI 4 from rfl]
      by_cases y : rnk p = 4
      · rw [if_pos (by rw [y]), y]
        rfl
      · rw [if_neg (fun z => y ((nI_eq (by omega) (by omega)).mp z)), Bool.eq_false_iff.mpr (fun z => y (Nat.eq_of_beq_eq_true z))]
        rfl
theorem k_isComp {j n0 o : Nat} {K : List Nat} {c : Cd} (h : DT) (H : KPl h j n0 K o c) (hK : K.length ≤ 160) : cal X (d + 2) 197 [vP (some 72)] (SK tx tu gu tl, h) = some (some (vI (bzB (cmpd K))), (SK tx tu gu tl, h)) := by
  obtain ⟨a1, a2, a3, a4, a5, a6, a7⟩ := H
  have e : nI K.length - 1 = zI ((K.length : Int) - 1) := by rw [zI_nI, show (1 : Int32) = zI 1 from rfl, zI_sub]
  rw [c_X11_isCompared, e_X11_isCompared_0, a2, e]
  exact k_clp X d tx tu gu tl h K a5 hK a6 _ (by omega)
theorem opn_lt : ∀ K : List Nat, (∀ p ∈ K, p < 1000) → opn K < 1000
  | [], _ => by decide
  | p :: K, h => by
    unfold opn
    split
    · exact h p List.mem_cons_self
    · exact opn_lt K (fun q hq => h q (List.mem_cons_of_mem _ hq))
theorem k_askA {j n0 o : Nat} {K : List Nat} {c : Cd} (h : DT) (H : KPl h j n0 K o c) (hK : K.length ≤ 160) : cal X (d + 3) 198 [vP (some 72)] (SK tx tu gu tl, h) = some (some (vI (bzB (askA K))), (SK tx tu gu tl, h)) := by
  have ol := opn_lt K H.2.2.2.2.2.1
  rw [c_X11_isAskAhead, e_X11_isAskAhead_0, k_openNow X d tx tu gu tl h H hK, bI_s, e_X11_isAskAhead_4]
  unfold askA
  by_cases g : opn K = 42
  · rw [g, show (if 42 = 0 then (-1 : Int32) else nI 42) = 42 from rfl, if_pos rfl]
    cases K with
    | nil => cases g
    | cons p K =>
      obtain ⟨a1, a2, a3, a4, a5, a6, a7⟩ := H
      rw [List.length_cons] at a2 hK
      have hp := a6 p List.mem_cons_self
      have r7 := rnk_7 p
      have em1 : nI (K.length + 1) - 1 = nI K.length := by rw [show (1 : Int32) = nI 1 from rfl, subI (by omega)]; rfl
      rw [a2, em1, inbI (by omega) (by omega), a5.1, show (40 : Int32) = nI 40 from rfl]
      show _ = some (some (vI (bzB (Nat.beq 42 42 && (Nat.ble 40 p || (Nat.ble 1 (rnk p) && Nat.ble (rnk p) 3))))), _)
      by_cases y : 40 ≤ p
      · rw [if_pos (nI_le (by omega) (by omega)), Nat.ble_eq.mpr y]
        rfl
      · have y' : Nat.ble 40 p = false := Bool.eq_false_iff.mpr (fun z => y (Nat.ble_eq.mp z))
        rw [if_neg (nI_ge (by omega) (by omega)), inbI (by omega) (by omega), a5.1, k_rank X (d + 1) tx tu gu tl hp, bI_s, k_isIn X (d + 1) tx tu gu tl, bI_s, y', show (1 : Int32) = nI 1 from rfl, show (3 : Int32) = nI 3 from rfl, nI_inR (by omega) (by omega) (by omega), Bool.false_or]
        have eb : (decide (1 ≤ rnk p) && decide (rnk p ≤ 3)) = (Nat.ble 1 (rnk p) && Nat.ble (rnk p) 3) := by
          congr 1
          · by_cases q : 1 ≤ rnk p
            · rw [decide_eq_true q, Nat.ble_eq.mpr q]
            · rw [decide_eq_false q, Bool.eq_false_iff.mpr (fun z => q (Nat.ble_eq.mp z))]
          · by_cases q : rnk p ≤ 3
            · rw [decide_eq_true q, Nat.ble_eq.mpr q]
            · rw [decide_eq_false q, Bool.eq_false_iff.mpr (fun z => q (Nat.ble_eq.mp z))]
        rw [eb, Nat.beq_refl, Bool.true_and]
        cases (Nat.ble 1 (rnk p) && Nat.ble (rnk p) 3) with
        | true => rw [bz_t, if_neg one0]; rfl
        | false => rw [bz_f, if_pos rfl]
  · rw [Bool.eq_false_iff.mpr (fun z => g (Nat.eq_of_beq_eq_true z)), Bool.false_and, bz_f]
    by_cases y : opn K = 0
    · rw [if_pos y, if_neg (by decide)]
    · rw [if_neg y, if_neg (show ¬ nI (opn K) = 42 from fun z => g ((nI_eq (a := opn K) (b := 42) (by omega) (by omega)).mp z))]
end KP
