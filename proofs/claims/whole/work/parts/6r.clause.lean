/-! THE CLASS'S READING: clauses, texts -/
theorem XTx.c38 {h h' : DT} {t : Nat} {T : TXT} {s : Nat} {C : Nat → Int} (H : XTx h t T s C) (ht : isT4 t) (e : smX (fun c => c = 38) h h') : XTx h' t T s C := by
  have ht' := ht
  unfold isT4 at ht'
  obtain ⟨x1, x2, x3, x4, x5, x6⟩ := H
  have eF : gF h' t = gF h t := smF e (by omega)
  refine ⟨x1, by rw [eF]; exact x2, fun j hj => ?_, x4.cg ht e, x5.cg (by rw [eF]) (Nat.le_refl _) (fun _ _ => rfl), x6.cg (by rw [eF]) (Nat.le_refl _) (fun _ _ => rfl)⟩
  unfold XCl
  rw [smA e (show ¬ t + 1 = 38 by omega), smA e (show ¬ t + 2 = 38 by omega), smA e (show ¬ t + 3 = 38 by omega)]
  exact x3 j hj
theorem fgP_t {τ : Tk} {i lo hi : Nat} {k : Nat → CR} (h : (τ i).1 = 1 ∧ lo ≤ (τ i).2.1 ∧ (τ i).2.1 ≤ hi) : fgP τ i lo hi k = k (τ i).2.1 := by
  unfold fgP
  rw [if_pos h.1, if_pos h.2]
theorem fgP_f {τ : Tk} {i lo hi : Nat} {k : Nat → CR} (h : ¬ ((τ i).1 = 1 ∧ lo ≤ (τ i).2.1 ∧ (τ i).2.1 ≤ hi)) : fgP τ i lo hi k = .inl (if (τ i).1 = 1 then 2 else 1, i) := by
  unfold fgP
  by_cases g : (τ i).1 = 1
  · rw [if_pos g, if_pos g, if_neg (fun z => h ⟨g, z⟩)]
  · rw [if_neg g, if_neg g]
section DE
variable (X : XS) (d t : Nat) (tx tu gu : Option Nat) (tl : List SC)
theorem x_de3 (ht : isT4 t) {B : Nat → Nat} {L i s : Nat} {C : Nat → Int} {T : TXT} (h : DT) (H : CT h B L i) (hX : XTx h t T s C) (hs : s ≤ tS B L i) (h24 : T.1.length < 24) : ClO t tu gu tl B L (cal X (d + 5) 31 [vP (some 38), vI (nI 3)] (SK (some t) tu gu tl, h)) h (deP (tkn B L) i 3 T) := by
  have ht' := ht
  unfold isT4 at ht'
  rw [c_X4_readDeed, e_X4_readDeed_0 (ht := ht), c_X4_leastOf, e_X4_leastOf_0, if_neg (by decide), if_neg (by decide), bI_s, c_X4_mostOf, e_X4_mostOf_0, if_pos (by decide), bI_s, e_X4_readDeed_14 (ht := ht), show (0 : Int32) = nI 0 from rfl, show (18 : Int32) = nI 18 from rfl]
  rw [show deP (tkn B L) i 3 T = fgP (tkn B L) i 0 18 (fun v => if isW (tkn B L) (i + 1) 20 = true then fgP (tkn B L) (i + 2) 1 9 (fun v2 => smP (tkn B L) (i + 3) (T.1 ++ [(3 - 1, v, v2)], T.2)) else Sum.inl (1, i + 1)) from rfl]
  rcases x_tn X d t tu gu tl ht (lo := 0) (hi := 18) (by omega) (by omega) h H with ⟨y, gi, h1, e1, e2, e3, e4⟩ | ⟨y, h1, e1, e2, e3, e4⟩
  · rw [e1, bI_s, e_X4_readDeed_17 (ht := ht), if_neg one0, if_pos (by decide), fgP_t y, H.2.2.2 y.1]
    have X1 := hX.c38 ht e3
    have t1 := tS_st (B := B) (L := L) (i := i) (by rw [y.1]; decide)
    show ClO t tu gu tl B L _ h (if isW (tkn B L) (i + 1) 20 = true then fgP (tkn B L) (i + 2) 1 9 (fun v2 => smP (tkn B L) (i + 3) (T.1 ++ [(3 - 1, (tkn B L i).2.1, v2)], T.2)) else Sum.inl (1, i + 1))
    rw [e_X4_readDeed_39 (ht := ht), if_pos (by decide)]
    rcases x_tw X d t tu gu tl ht (e := 20) (by omega) h1 e2 with ⟨g, gj, h2, b1, b2, b3, b4⟩ | ⟨g, h2, b1, b2, b3, b4⟩
    · rw [b1, bI_s, e_X4_readDeed_65 (ht := ht), if_neg one0, if_pos (by decide), if_pos g, show (1 : Int32) = nI 1 from rfl, show (9 : Int32) = nI 9 from rfl]
      have X2 := X1.c38 ht b3
      have t2 := tS_st (B := B) (L := L) (i := i + 1) (by rw [(isW_c g).1]; decide)
      rcases x_tn X d t tu gu tl ht (lo := 1) (hi := 9) (by omega) (by omega) h2 b2 with ⟨y2, gk, h3, c1, c2, c3, c4⟩ | ⟨y2, h3, c1, c2, c3, c4⟩
      · rw [c1, bI_s, e_X4_readDeed_87 (ht := ht), e_X4_readDeed_96 (ht := ht), if_neg one0, fgP_t y2, b2.2.2.2 y2.1]
        show ClO t tu gu tl B L _ h (smP (tkn B L) (i + 3) (T.1 ++ [(3 - 1, (tkn B L i).2.1, (tkn B L (i + 2)).2.1)], T.2))
        have X3 := X2.c38 ht c3
        have t3 := tS_st (B := B) (L := L) (i := i + 1 + 1) (by rw [y2.1]; decide)
        obtain ⟨h4, a1, a2, a3, a4, a5, a6, a7⟩ := x_addc X (d + 3) t tu gu tl ht h3 X3.2.1 h24 (nI 3) (nI (tkn B L i).2.1) (nI (tkn B L (i + 1 + 1)).2.1)
        have X4 := XTx_add t ht (k := 2) (v := (tkn B L i).2.1) (v2 := (tkn B L (i + 2)).2.1) X3 h24 a2 a3 a4 (fun _ => by rw [a5, pk_us]) (fun j hj => by rw [a5, pk_un (by omega)]) (fun _ _ => by rw [a6, pk_us]) (fun j hj => by rw [a6, pk_un (by omega)]) (smA a7 (by omega))
        have H4 : CT h4 B L (i + 3) := c2.em (smF a7 (by omega)) (smA a7 (by omega))
        rw [a1, bV_s, e_X4_readDeed_115 (ht := ht)]
        refine (x_semi X d t tu gu tl ht h4 H4 X4 (show s ≤ tS B L (i + 1 + 1 + 1) by omega) (fun h1 => by rw [if_pos (Or.inl rfl)]) (fun h1 => by rw [if_pos (Or.inr rfl)])).pre ((((zT_38 e3).tr (zT_38 b3)).tr (zT_38 c3)).tr (a7.mo fun c hc => by omega)) (fun z hz => ?_)
        rw [smF a7 (by omega), c4 z (by omega), b4 z (by omega), e4 z (by omega)]
      · rw [c1, bI_s, e_X4_readDeed_87 (ht := ht), e_X4_readDeed_96 (ht := ht), if_pos rfl]
        have hF : ClO t tu gu tl B L (some (some (vI 0), (SK (some t) tu gu tl, h3))) h (Sum.inl (if (tkn B L (i + 1 + 1)).1 = 1 then 2 else 1, i + 2)) := ⟨h3, rfl, c2, c3, ((zT_38 e3).tr (zT_38 b3)).tr c4.zt, by rw [c4.2.2 0 (by omega) (by omega) (by omega), b4 0 (by omega), e4 0 (by omega)], by rw [c4.2.2 1 (by omega) (by omega) (by omega), b4 1 (by omega), e4 1 (by omega)]⟩
        rw [fgP_f y2]
        exact hF
    · rw [b1, bI_s, e_X4_readDeed_65 (ht := ht), if_pos rfl, if_neg g]
      exact ⟨h2, rfl, b2, b3, (zT_38 e3).tr b4.zt, by rw [b4.2.2 0 (by omega) (by omega) (by omega), e4 0 (by omega)], by rw [b4.2.2 1 (by omega) (by omega) (by omega), e4 1 (by omega)]⟩
  · rw [e1, bI_s, e_X4_readDeed_17 (ht := ht), if_pos rfl]
    have hF : ClO t tu gu tl B L (some (some (vI 0), (SK (some t) tu gu tl, h1))) h (Sum.inl (if (tkn B L i).1 = 1 then 2 else 1, i)) := ⟨h1, rfl, e2, e3, e4.zt, e4.2.2 0 (by omega) (by omega) (by omega), e4.2.2 1 (by omega) (by omega) (by omega)⟩
    rw [fgP_f y]
    exact hF
theorem x_de4 (ht : isT4 t) {B : Nat → Nat} {L i s : Nat} {C : Nat → Int} {T : TXT} (h : DT) (H : CT h B L i) (hX : XTx h t T s C) (hs : s ≤ tS B L i) (h24 : T.1.length < 24) : ClO t tu gu tl B L (cal X (d + 5) 31 [vP (some 38), vI (nI 4)] (SK (some t) tu gu tl, h)) h (deP (tkn B L) i 4 T) := by
  have ht' := ht
  unfold isT4 at ht'
  rw [c_X4_readDeed, e_X4_readDeed_0 (ht := ht), c_X4_leastOf, e_X4_leastOf_0, if_neg (by decide), if_neg (by decide), bI_s, c_X4_mostOf, e_X4_mostOf_0, if_neg (by decide), if_pos (by decide), bI_s, e_X4_readDeed_14 (ht := ht), show (0 : Int32) = nI 0 from rfl, show (18 : Int32) = nI 18 from rfl]
  rw [show deP (tkn B L) i 4 T = fgP (tkn B L) i 0 18 (fun v => if isW (tkn B L) (i + 1) 27 = true then fgP (tkn B L) (i + 2) 0 4 (fun v2 => smP (tkn B L) (i + 3) (T.1 ++ [(4 - 1, v, v2)], T.2)) else Sum.inl (1, i + 1)) from rfl]
  rcases x_tn X d t tu gu tl ht (lo := 0) (hi := 18) (by omega) (by omega) h H with ⟨y, gi, h1, e1, e2, e3, e4⟩ | ⟨y, h1, e1, e2, e3, e4⟩
  · rw [e1, bI_s, e_X4_readDeed_17 (ht := ht), if_neg one0, if_neg (by decide), if_pos (by decide), fgP_t y, H.2.2.2 y.1]
    have X1 := hX.c38 ht e3
    have t1 := tS_st (B := B) (L := L) (i := i) (by rw [y.1]; decide)
    show ClO t tu gu tl B L _ h (if isW (tkn B L) (i + 1) 27 = true then fgP (tkn B L) (i + 2) 0 4 (fun v2 => smP (tkn B L) (i + 3) (T.1 ++ [(4 - 1, (tkn B L i).2.1, v2)], T.2)) else Sum.inl (1, i + 1))
    rw [e_X4_readDeed_39 (ht := ht), if_neg (by decide), if_pos (by decide)]
    rcases x_tw X d t tu gu tl ht (e := 27) (by omega) h1 e2 with ⟨g, gj, h2, b1, b2, b3, b4⟩ | ⟨g, h2, b1, b2, b3, b4⟩
    · rw [b1, bI_s, e_X4_readDeed_65 (ht := ht), if_neg one0, if_neg (by decide), if_pos g, show (0 : Int32) = nI 0 from rfl, show (4 : Int32) = nI 4 from rfl]
      have X2 := X1.c38 ht b3
      have t2 := tS_st (B := B) (L := L) (i := i + 1) (by rw [(isW_c g).1]; decide)
      rcases x_tn X d t tu gu tl ht (lo := 0) (hi := 4) (by omega) (by omega) h2 b2 with ⟨y2, gk, h3, c1, c2, c3, c4⟩ | ⟨y2, h3, c1, c2, c3, c4⟩
      · rw [c1, bI_s, e_X4_readDeed_96 (ht := ht), if_neg one0, fgP_t y2, b2.2.2.2 y2.1]
        show ClO t tu gu tl B L _ h (smP (tkn B L) (i + 3) (T.1 ++ [(4 - 1, (tkn B L i).2.1, (tkn B L (i + 2)).2.1)], T.2))
        have X3 := X2.c38 ht c3
        have t3 := tS_st (B := B) (L := L) (i := i + 1 + 1) (by rw [y2.1]; decide)
        obtain ⟨h4, a1, a2, a3, a4, a5, a6, a7⟩ := x_addc X (d + 3) t tu gu tl ht h3 X3.2.1 h24 (nI 4) (nI (tkn B L i).2.1) (nI (tkn B L (i + 1 + 1)).2.1)
        have X4 := XTx_add t ht (k := 3) (v := (tkn B L i).2.1) (v2 := (tkn B L (i + 2)).2.1) X3 h24 a2 a3 a4 (fun _ => by rw [a5, pk_us]) (fun j hj => by rw [a5, pk_un (by omega)]) (fun _ _ => by rw [a6, pk_us]) (fun j hj => by rw [a6, pk_un (by omega)]) (smA a7 (by omega))
        have H4 : CT h4 B L (i + 3) := c2.em (smF a7 (by omega)) (smA a7 (by omega))
        rw [a1, bV_s, e_X4_readDeed_115 (ht := ht)]
        refine (x_semi X d t tu gu tl ht h4 H4 X4 (show s ≤ tS B L (i + 1 + 1 + 1) by omega) (fun h1 => by rw [if_pos (Or.inl rfl)]) (fun h1 => by rw [if_pos (Or.inr rfl)])).pre ((((zT_38 e3).tr (zT_38 b3)).tr (zT_38 c3)).tr (a7.mo fun c hc => by omega)) (fun z hz => ?_)
        rw [smF a7 (by omega), c4 z (by omega), b4 z (by omega), e4 z (by omega)]
      · rw [c1, bI_s, e_X4_readDeed_96 (ht := ht), if_pos rfl]
        have hF : ClO t tu gu tl B L (some (some (vI 0), (SK (some t) tu gu tl, h3))) h (Sum.inl (if (tkn B L (i + 1 + 1)).1 = 1 then 2 else 1, i + 2)) := ⟨h3, rfl, c2, c3, ((zT_38 e3).tr (zT_38 b3)).tr c4.zt, by rw [c4.2.2 0 (by omega) (by omega) (by omega), b4 0 (by omega), e4 0 (by omega)], by rw [c4.2.2 1 (by omega) (by omega) (by omega), b4 1 (by omega), e4 1 (by omega)]⟩
        rw [fgP_f y2]
        exact hF
    · rw [b1, bI_s, e_X4_readDeed_65 (ht := ht), if_pos rfl, if_neg g]
      exact ⟨h2, rfl, b2, b3, (zT_38 e3).tr b4.zt, by rw [b4.2.2 0 (by omega) (by omega) (by omega), e4 0 (by omega)], by rw [b4.2.2 1 (by omega) (by omega) (by omega), e4 1 (by omega)]⟩
  · rw [e1, bI_s, e_X4_readDeed_17 (ht := ht), if_pos rfl]
    have hF : ClO t tu gu tl B L (some (some (vI 0), (SK (some t) tu gu tl, h1))) h (Sum.inl (if (tkn B L i).1 = 1 then 2 else 1, i)) := ⟨h1, rfl, e2, e3, e4.zt, e4.2.2 0 (by omega) (by omega) (by omega), e4.2.2 1 (by omega) (by omega) (by omega)⟩
    rw [fgP_f y]
    exact hF
theorem x_de5 (ht : isT4 t) {B : Nat → Nat} {L i s : Nat} {C : Nat → Int} {T : TXT} (h : DT) (H : CT h B L i) (hX : XTx h t T s C) (hs : s ≤ tS B L i) (h24 : T.1.length < 24) : ClO t tu gu tl B L (cal X (d + 5) 31 [vP (some 38), vI (nI 5)] (SK (some t) tu gu tl, h)) h (deP (tkn B L) i 5 T) := by
  have ht' := ht
  unfold isT4 at ht'
  rw [c_X4_readDeed, e_X4_readDeed_0 (ht := ht), c_X4_leastOf, e_X4_leastOf_0, if_neg (by decide), if_neg (by decide), bI_s, c_X4_mostOf, e_X4_mostOf_0, if_neg (by decide), if_neg (by decide), if_pos (by decide), bI_s, e_X4_readDeed_14 (ht := ht), show (0 : Int32) = nI 0 from rfl, show (4 : Int32) = nI 4 from rfl]
  rw [show deP (tkn B L) i 5 T = fgP (tkn B L) i 0 4 (fun v => if isW (tkn B L) (i + 1) 28 = true then fgP (tkn B L) (i + 2) 0 4 (fun v2 => smP (tkn B L) (i + 3) (T.1 ++ [(5 - 1, v, v2)], T.2)) else Sum.inl (1, i + 1)) from rfl]
  rcases x_tn X d t tu gu tl ht (lo := 0) (hi := 4) (by omega) (by omega) h H with ⟨y, gi, h1, e1, e2, e3, e4⟩ | ⟨y, h1, e1, e2, e3, e4⟩
  · rw [e1, bI_s, e_X4_readDeed_17 (ht := ht), if_neg one0, if_neg (by decide), if_neg (by decide), if_pos (by decide), fgP_t y, H.2.2.2 y.1]
    have X1 := hX.c38 ht e3
    have t1 := tS_st (B := B) (L := L) (i := i) (by rw [y.1]; decide)
    show ClO t tu gu tl B L _ h (if isW (tkn B L) (i + 1) 28 = true then fgP (tkn B L) (i + 2) 0 4 (fun v2 => smP (tkn B L) (i + 3) (T.1 ++ [(5 - 1, (tkn B L i).2.1, v2)], T.2)) else Sum.inl (1, i + 1))
    rw [e_X4_readDeed_39 (ht := ht), if_neg (by decide), if_neg (by decide)]
    rcases x_tw X d t tu gu tl ht (e := 28) (by omega) h1 e2 with ⟨g, gj, h2, b1, b2, b3, b4⟩ | ⟨g, h2, b1, b2, b3, b4⟩
    · rw [b1, bI_s, e_X4_readDeed_65 (ht := ht), if_neg one0, if_neg (by decide), if_pos g, show (0 : Int32) = nI 0 from rfl, show (4 : Int32) = nI 4 from rfl]
      have X2 := X1.c38 ht b3
      have t2 := tS_st (B := B) (L := L) (i := i + 1) (by rw [(isW_c g).1]; decide)
      rcases x_tn X d t tu gu tl ht (lo := 0) (hi := 4) (by omega) (by omega) h2 b2 with ⟨y2, gk, h3, c1, c2, c3, c4⟩ | ⟨y2, h3, c1, c2, c3, c4⟩
      · rw [c1, bI_s, e_X4_readDeed_96 (ht := ht), if_neg one0, fgP_t y2, b2.2.2.2 y2.1]
        show ClO t tu gu tl B L _ h (smP (tkn B L) (i + 3) (T.1 ++ [(5 - 1, (tkn B L i).2.1, (tkn B L (i + 2)).2.1)], T.2))
        have X3 := X2.c38 ht c3
        have t3 := tS_st (B := B) (L := L) (i := i + 1 + 1) (by rw [y2.1]; decide)
        obtain ⟨h4, a1, a2, a3, a4, a5, a6, a7⟩ := x_addc X (d + 3) t tu gu tl ht h3 X3.2.1 h24 (nI 5) (nI (tkn B L i).2.1) (nI (tkn B L (i + 1 + 1)).2.1)
        have X4 := XTx_add t ht (k := 4) (v := (tkn B L i).2.1) (v2 := (tkn B L (i + 2)).2.1) X3 h24 a2 a3 a4 (fun _ => by rw [a5, pk_us]) (fun j hj => by rw [a5, pk_un (by omega)]) (fun _ _ => by rw [a6, pk_us]) (fun j hj => by rw [a6, pk_un (by omega)]) (smA a7 (by omega))
        have H4 : CT h4 B L (i + 3) := c2.em (smF a7 (by omega)) (smA a7 (by omega))
        rw [a1, bV_s, e_X4_readDeed_115 (ht := ht)]
        refine (x_semi X d t tu gu tl ht h4 H4 X4 (show s ≤ tS B L (i + 1 + 1 + 1) by omega) (fun h1 => by rw [if_pos (Or.inl rfl)]) (fun h1 => by rw [if_pos (Or.inr rfl)])).pre ((((zT_38 e3).tr (zT_38 b3)).tr (zT_38 c3)).tr (a7.mo fun c hc => by omega)) (fun z hz => ?_)
        rw [smF a7 (by omega), c4 z (by omega), b4 z (by omega), e4 z (by omega)]
      · rw [c1, bI_s, e_X4_readDeed_96 (ht := ht), if_pos rfl]
        have hF : ClO t tu gu tl B L (some (some (vI 0), (SK (some t) tu gu tl, h3))) h (Sum.inl (if (tkn B L (i + 1 + 1)).1 = 1 then 2 else 1, i + 2)) := ⟨h3, rfl, c2, c3, ((zT_38 e3).tr (zT_38 b3)).tr c4.zt, by rw [c4.2.2 0 (by omega) (by omega) (by omega), b4 0 (by omega), e4 0 (by omega)], by rw [c4.2.2 1 (by omega) (by omega) (by omega), b4 1 (by omega), e4 1 (by omega)]⟩
        rw [fgP_f y2]
        exact hF
    · rw [b1, bI_s, e_X4_readDeed_65 (ht := ht), if_pos rfl, if_neg g]
      exact ⟨h2, rfl, b2, b3, (zT_38 e3).tr b4.zt, by rw [b4.2.2 0 (by omega) (by omega) (by omega), e4 0 (by omega)], by rw [b4.2.2 1 (by omega) (by omega) (by omega), e4 1 (by omega)]⟩
  · rw [e1, bI_s, e_X4_readDeed_17 (ht := ht), if_pos rfl]
    have hF : ClO t tu gu tl B L (some (some (vI 0), (SK (some t) tu gu tl, h1))) h (Sum.inl (if (tkn B L i).1 = 1 then 2 else 1, i)) := ⟨h1, rfl, e2, e3, e4.zt, e4.2.2 0 (by omega) (by omega) (by omega), e4.2.2 1 (by omega) (by omega) (by omega)⟩
    rw [fgP_f y]
    exact hF
theorem x_de6 (ht : isT4 t) {B : Nat → Nat} {L i s : Nat} {C : Nat → Int} {T : TXT} (h : DT) (H : CT h B L i) (hX : XTx h t T s C) (hs : s ≤ tS B L i) (h24 : T.1.length < 24) : ClO t tu gu tl B L (cal X (d + 5) 31 [vP (some 38), vI (nI 6)] (SK (some t) tu gu tl, h)) h (deP (tkn B L) i 6 T) := by
  have ht' := ht
  unfold isT4 at ht'
  rw [c_X4_readDeed, e_X4_readDeed_0 (ht := ht), c_X4_leastOf, e_X4_leastOf_0, if_pos (by decide), bI_s, c_X4_mostOf, e_X4_mostOf_0, if_neg (by decide), if_neg (by decide), if_neg (by decide), if_pos (by decide), bI_s, e_X4_readDeed_14 (ht := ht), show (1 : Int32) = nI 1 from rfl, show (5 : Int32) = nI 5 from rfl]
  rw [show deP (tkn B L) i 6 T = fgP (tkn B L) i 1 5 (fun v => smP (tkn B L) (i + 1) (T.1 ++ [(6 - 1, v, 0)], T.2)) from rfl]
  rcases x_tn X d t tu gu tl ht (lo := 1) (hi := 5) (by omega) (by omega) h H with ⟨y, gi, h1, e1, e2, e3, e4⟩ | ⟨y, h1, e1, e2, e3, e4⟩
  · rw [e1, bI_s, e_X4_readDeed_17 (ht := ht), if_neg one0, if_neg (by decide), if_neg (by decide), if_neg (by decide), fgP_t y, H.2.2.2 y.1]
    have X1 := hX.c38 ht e3
    have t1 := tS_st (B := B) (L := L) (i := i) (by rw [y.1]; decide)
    show ClO t tu gu tl B L _ h (smP (tkn B L) (i + 1) (T.1 ++ [(6 - 1, (tkn B L i).2.1, 0)], T.2))
    obtain ⟨h2, a1, a2, a3, a4, a5, a6, a7⟩ := x_addc X (d + 3) t tu gu tl ht h1 X1.2.1 h24 (nI 6) (nI (tkn B L i).2.1) 0
    have X2 := XTx_add t ht (k := 5) (v := (tkn B L i).2.1) (v2 := 0) X1 h24 a2 a3 a4 (fun _ => by rw [a5, pk_us]) (fun j hj => by rw [a5, pk_un (by omega)]) (fun _ z => absurd z (by decide)) (fun j hj => by rw [a6, pk_un (by omega)]) (smA a7 (by omega))
    have H2 : CT h2 B L (i + 1) := e2.em (smF a7 (by omega)) (smA a7 (by omega))
    rw [a1, bV_s, e_X4_readDeed_115 (ht := ht)]
    refine (x_semi X d t tu gu tl ht h2 H2 X2 (by omega) (fun h1 => by rw [if_pos (Or.inl rfl)]) (fun h1 => by rw [if_pos (Or.inr rfl)])).pre ((zT_38 e3).tr (a7.mo fun c hc => by omega)) (fun z hz => ?_)
    rw [smF a7 (by omega), e4 z (by omega)]
  · rw [e1, bI_s, e_X4_readDeed_17 (ht := ht), if_pos rfl]
    have hF : ClO t tu gu tl B L (some (some (vI 0), (SK (some t) tu gu tl, h1))) h (Sum.inl (if (tkn B L i).1 = 1 then 2 else 1, i)) := ⟨h1, rfl, e2, e3, e4.zt, e4.2.2 0 (by omega) (by omega) (by omega), e4.2.2 1 (by omega) (by omega) (by omega)⟩
    rw [fgP_f y]
    exact hF
theorem x_de7 (ht : isT4 t) {B : Nat → Nat} {L i s : Nat} {C : Nat → Int} {T : TXT} (h : DT) (H : CT h B L i) (hX : XTx h t T s C) (hs : s ≤ tS B L i) (h24 : T.1.length < 24) : ClO t tu gu tl B L (cal X (d + 5) 31 [vP (some 38), vI (nI 7)] (SK (some t) tu gu tl, h)) h (deP (tkn B L) i 7 T) := by
  have ht' := ht
  unfold isT4 at ht'
  rw [c_X4_readDeed, e_X4_readDeed_0 (ht := ht), c_X4_leastOf, e_X4_leastOf_0, if_neg (by decide), if_neg (by decide), bI_s, c_X4_mostOf, e_X4_mostOf_0, if_neg (by decide), if_neg (by decide), if_neg (by decide), if_neg (by decide), if_pos (by decide), bI_s, e_X4_readDeed_14 (ht := ht), show (0 : Int32) = nI 0 from rfl, show (4 : Int32) = nI 4 from rfl]
  rw [show deP (tkn B L) i 7 T = fgP (tkn B L) i 0 4 (fun v => smP (tkn B L) (i + 1) (T.1 ++ [(7 - 1, v, 0)], T.2)) from rfl]
  rcases x_tn X d t tu gu tl ht (lo := 0) (hi := 4) (by omega) (by omega) h H with ⟨y, gi, h1, e1, e2, e3, e4⟩ | ⟨y, h1, e1, e2, e3, e4⟩
  · rw [e1, bI_s, e_X4_readDeed_17 (ht := ht), if_neg one0, if_neg (by decide), if_neg (by decide), if_neg (by decide), fgP_t y, H.2.2.2 y.1]
    have X1 := hX.c38 ht e3
    have t1 := tS_st (B := B) (L := L) (i := i) (by rw [y.1]; decide)
    show ClO t tu gu tl B L _ h (smP (tkn B L) (i + 1) (T.1 ++ [(7 - 1, (tkn B L i).2.1, 0)], T.2))
    obtain ⟨h2, a1, a2, a3, a4, a5, a6, a7⟩ := x_addc X (d + 3) t tu gu tl ht h1 X1.2.1 h24 (nI 7) (nI (tkn B L i).2.1) 0
    have X2 := XTx_add t ht (k := 6) (v := (tkn B L i).2.1) (v2 := 0) X1 h24 a2 a3 a4 (fun _ => by rw [a5, pk_us]) (fun j hj => by rw [a5, pk_un (by omega)]) (fun _ z => absurd z (by decide)) (fun j hj => by rw [a6, pk_un (by omega)]) (smA a7 (by omega))
    have H2 : CT h2 B L (i + 1) := e2.em (smF a7 (by omega)) (smA a7 (by omega))
    rw [a1, bV_s, e_X4_readDeed_115 (ht := ht)]
    refine (x_semi X d t tu gu tl ht h2 H2 X2 (by omega) (fun h1 => by rw [if_pos (Or.inl rfl)]) (fun h1 => by rw [if_pos (Or.inr rfl)])).pre ((zT_38 e3).tr (a7.mo fun c hc => by omega)) (fun z hz => ?_)
    rw [smF a7 (by omega), e4 z (by omega)]
  · rw [e1, bI_s, e_X4_readDeed_17 (ht := ht), if_pos rfl]
    have hF : ClO t tu gu tl B L (some (some (vI 0), (SK (some t) tu gu tl, h1))) h (Sum.inl (if (tkn B L i).1 = 1 then 2 else 1, i)) := ⟨h1, rfl, e2, e3, e4.zt, e4.2.2 0 (by omega) (by omega) (by omega), e4.2.2 1 (by omega) (by omega) (by omega)⟩
    rw [fgP_f y]
    exact hF
theorem x_de8 (ht : isT4 t) {B : Nat → Nat} {L i s : Nat} {C : Nat → Int} {T : TXT} (h : DT) (H : CT h B L i) (hX : XTx h t T s C) (hs : s ≤ tS B L i) (h24 : T.1.length < 24) : ClO t tu gu tl B L (cal X (d + 5) 31 [vP (some 38), vI (nI 8)] (SK (some t) tu gu tl, h)) h (deP (tkn B L) i 8 T) := by
  have ht' := ht
  unfold isT4 at ht'
  rw [c_X4_readDeed, e_X4_readDeed_0 (ht := ht), c_X4_leastOf, e_X4_leastOf_0, if_neg (by decide), if_neg (by decide), bI_s, c_X4_mostOf, e_X4_mostOf_0, if_neg (by decide), if_neg (by decide), if_neg (by decide), if_neg (by decide), if_neg (by decide), if_pos (by decide), bI_s, e_X4_readDeed_14 (ht := ht), show (0 : Int32) = nI 0 from rfl, show (4 : Int32) = nI 4 from rfl]
  rw [show deP (tkn B L) i 8 T = fgP (tkn B L) i 0 4 (fun v => smP (tkn B L) (i + 1) (T.1 ++ [(8 - 1, v, 0)], T.2)) from rfl]
  rcases x_tn X d t tu gu tl ht (lo := 0) (hi := 4) (by omega) (by omega) h H with ⟨y, gi, h1, e1, e2, e3, e4⟩ | ⟨y, h1, e1, e2, e3, e4⟩
  · rw [e1, bI_s, e_X4_readDeed_17 (ht := ht), if_neg one0, if_neg (by decide), if_neg (by decide), if_neg (by decide), fgP_t y, H.2.2.2 y.1]
    have X1 := hX.c38 ht e3
    have t1 := tS_st (B := B) (L := L) (i := i) (by rw [y.1]; decide)
    show ClO t tu gu tl B L _ h (smP (tkn B L) (i + 1) (T.1 ++ [(8 - 1, (tkn B L i).2.1, 0)], T.2))
    obtain ⟨h2, a1, a2, a3, a4, a5, a6, a7⟩ := x_addc X (d + 3) t tu gu tl ht h1 X1.2.1 h24 (nI 8) (nI (tkn B L i).2.1) 0
    have X2 := XTx_add t ht (k := 7) (v := (tkn B L i).2.1) (v2 := 0) X1 h24 a2 a3 a4 (fun _ => by rw [a5, pk_us]) (fun j hj => by rw [a5, pk_un (by omega)]) (fun _ z => absurd z (by decide)) (fun j hj => by rw [a6, pk_un (by omega)]) (smA a7 (by omega))
    have H2 : CT h2 B L (i + 1) := e2.em (smF a7 (by omega)) (smA a7 (by omega))
    rw [a1, bV_s, e_X4_readDeed_115 (ht := ht)]
    refine (x_semi X d t tu gu tl ht h2 H2 X2 (by omega) (fun h1 => by rw [if_pos (Or.inl rfl)]) (fun h1 => by rw [if_pos (Or.inr rfl)])).pre ((zT_38 e3).tr (a7.mo fun c hc => by omega)) (fun z hz => ?_)
    rw [smF a7 (by omega), e4 z (by omega)]
  · rw [e1, bI_s, e_X4_readDeed_17 (ht := ht), if_pos rfl]
    have hF : ClO t tu gu tl B L (some (some (vI 0), (SK (some t) tu gu tl, h1))) h (Sum.inl (if (tkn B L i).1 = 1 then 2 else 1, i)) := ⟨h1, rfl, e2, e3, e4.zt, e4.2.2 0 (by omega) (by omega) (by omega), e4.2.2 1 (by omega) (by omega) (by omega)⟩
    rw [fgP_f y]
    exact hF
theorem x_de9 (ht : isT4 t) {B : Nat → Nat} {L i s : Nat} {C : Nat → Int} {T : TXT} (h : DT) (H : CT h B L i) (hX : XTx h t T s C) (hs : s ≤ tS B L i) (h24 : T.1.length < 24) : ClO t tu gu tl B L (cal X (d + 5) 31 [vP (some 38), vI (nI 9)] (SK (some t) tu gu tl, h)) h (deP (tkn B L) i 9 T) := by
  have ht' := ht
  unfold isT4 at ht'
  rw [c_X4_readDeed, e_X4_readDeed_0 (ht := ht), c_X4_leastOf, e_X4_leastOf_0, if_neg (by decide), if_pos (by decide), bI_s, c_X4_mostOf, e_X4_mostOf_0, if_neg (by decide), if_neg (by decide), if_neg (by decide), if_neg (by decide), if_neg (by decide), if_neg (by decide), if_pos (by decide), bI_s, e_X4_readDeed_14 (ht := ht), show (1 : Int32) = nI 1 from rfl, show (60 : Int32) = nI 60 from rfl]
  rw [show deP (tkn B L) i 9 T = fgP (tkn B L) i 1 60 (fun v => smP (tkn B L) (i + 1) (T.1 ++ [(9 - 1, v, 0)], T.2)) from rfl]
  rcases x_tn X d t tu gu tl ht (lo := 1) (hi := 60) (by omega) (by omega) h H with ⟨y, gi, h1, e1, e2, e3, e4⟩ | ⟨y, h1, e1, e2, e3, e4⟩
  · rw [e1, bI_s, e_X4_readDeed_17 (ht := ht), if_neg one0, if_neg (by decide), if_neg (by decide), if_neg (by decide), fgP_t y, H.2.2.2 y.1]
    have X1 := hX.c38 ht e3
    have t1 := tS_st (B := B) (L := L) (i := i) (by rw [y.1]; decide)
    show ClO t tu gu tl B L _ h (smP (tkn B L) (i + 1) (T.1 ++ [(9 - 1, (tkn B L i).2.1, 0)], T.2))
    obtain ⟨h2, a1, a2, a3, a4, a5, a6, a7⟩ := x_addc X (d + 3) t tu gu tl ht h1 X1.2.1 h24 (nI 9) (nI (tkn B L i).2.1) 0
    have X2 := XTx_add t ht (k := 8) (v := (tkn B L i).2.1) (v2 := 0) X1 h24 a2 a3 a4 (fun _ => by rw [a5, pk_us]) (fun j hj => by rw [a5, pk_un (by omega)]) (fun _ z => absurd z (by decide)) (fun j hj => by rw [a6, pk_un (by omega)]) (smA a7 (by omega))
    have H2 : CT h2 B L (i + 1) := e2.em (smF a7 (by omega)) (smA a7 (by omega))
    rw [a1, bV_s, e_X4_readDeed_115 (ht := ht)]
    refine (x_semi X d t tu gu tl ht h2 H2 X2 (by omega) (fun h1 => by rw [if_pos (Or.inl rfl)]) (fun h1 => by rw [if_pos (Or.inr rfl)])).pre ((zT_38 e3).tr (a7.mo fun c hc => by omega)) (fun z hz => ?_)
    rw [smF a7 (by omega), e4 z (by omega)]
  · rw [e1, bI_s, e_X4_readDeed_17 (ht := ht), if_pos rfl]
    have hF : ClO t tu gu tl B L (some (some (vI 0), (SK (some t) tu gu tl, h1))) h (Sum.inl (if (tkn B L i).1 = 1 then 2 else 1, i)) := ⟨h1, rfl, e2, e3, e4.zt, e4.2.2 0 (by omega) (by omega) (by omega), e4.2.2 1 (by omega) (by omega) (by omega)⟩
    rw [fgP_f y]
    exact hF
theorem x_law (ht : isT4 t) {B : Nat → Nat} {L lw i s : Nat} {C : Nat → Int} {T : TXT} (hlw : lw = 0 ∨ lw = 1) (hL : L ≤ 300) (h : DT) (H : CT h B L i) (hX : XTx h t T s C) (hs : s ≤ tS B L i) (h24 : T.1.length < 24) : ClO t tu gu tl B L (cal X (d + 64) 30 [vP (some 38), vI (nI (lw + 1))] (SK (some t) tu gu tl, h)) h (laP (tkn B L) i lw T) := by
  have ht' := ht
  unfold isT4 at ht'
  have st : cal X (d + 64) 30 [vP (some 38), vI (nI (lw + 1))] (SK (some t) tu gu tl, h) = bV (cal X (d + 63) 84 [vP (some t), vI (nI (lw + 1)), vI 0, vI 0] (SK (some t) tu gu tl, sF (sF h 38 6 (nI (1 - lw))) t (2 + lw) (gF h t 1))) fun H1 => m_X4_readLaw X (d + 63) 999998 62 [(0, vP (some 38))] [] H1 := by
    rcases hlw with rfl | rfl
    · rw [c_X4_readLaw, e_X4_readLaw_0 (ht := ht), if_pos (by decide), e_X4_readLaw_11 (ht := ht), if_pos (Or.inr rfl), if_neg one0, show (2 + 0 : Nat) = 2 from rfl, show nI (1 - 0) = (1 : Int32) from rfl]
    · rw [c_X4_readLaw, e_X4_readLaw_0 (ht := ht), if_neg (by decide), e_X4_readLaw_11 (ht := ht), if_pos (Or.inl rfl), if_pos rfl, show (2 + 1 : Nat) = 3 from rfl, show nI (1 - 1) = (0 : Int32) from rfl]
  rw [st]
  obtain ⟨x1, x2, x3, x4, x5, x6⟩ := id hX
  generalize hg : sF (sF h 38 6 (nI (1 - lw))) t (2 + lw) (gF h t 1) = h1
  have s1 : smX (fun c => c = 38 ∨ c = t) h h1 := by rw [← hg]; exact smX.tr (smX_sF (Or.inl rfl)) (smX_sF (Or.inr rfl))
  have f38 : ∀ z, z ≠ 6 → gF h1 38 z = gF h 38 z := fun z hz => by rw [← hg, gF_sF, if_neg (by omega), gF_sF, if_neg (by omega)]
  have f6 : gF h1 38 6 = nI (1 - lw) := by rw [← hg, gF_sF, if_neg (by omega), gF_sF, if_pos ⟨rfl, rfl⟩]
  have ft : ∀ z, z ≠ 2 + lw → gF h1 t z = gF h t z := fun z hz => by rw [← hg, gF_sF, if_neg (by omega), gF_sF, if_neg (by omega)]
  have ft2 : gF h1 t (2 + lw) = nI s := by rw [← hg, gF_sF, if_pos ⟨rfl, rfl⟩]; exact x4.1
  obtain ⟨h2, a1, a2, a3, a4, a5, a6, a7⟩ := x_addc X (d + 62) t tu gu tl ht h1 ((ft 0 (by omega)).trans x2) h24 (nI (lw + 1)) 0 0
  rw [a1, bV_s, e_X4_readLaw_62 (ht := ht), show (0 : Int32) = nI 0 from rfl]
  have s2 : zT t h h2 := smX.tr (s1.mo fun c hc => by omega) (a7.mo fun c hc => by omega)
  have g38 : ∀ z, z ≠ 6 → gF h2 38 z = gF h 38 z := fun z hz => by rw [smF a7 (by omega)]; exact f38 z hz
  have H2 : CT h2 B L i := H.cg (fun z hz => g38 z (by omega)) (smA s2 (by omega))
  have C2 : CC h2 t s C := ⟨by rw [a3 1 (by omega), ft 1 (by omega)]; exact x4.1, x4.2.1, by rw [smA a7 (by omega), smA s1 (by omega)]; exact x4.2.2⟩
  have hone : Rdr X t tu gu tl B L lw (d + 57 + 4) 36 0 (lvP (tkn B L) lw 8).1 (fun C a b e => VS C a b (5 * 8 + 5) e) := by
    have := (x_lv X t tu gu tl ht (B := B) hlw hL 8).1 d 0 (by omega)
    rw [show d + 7 * 8 + 5 = d + 57 + 4 by omega] at this
    exact this
  have hsum : Rdr X t tu gu tl B L lw (d + 63) 34 0 (sumP (tkn B L) (lvP (tkn B L) lw 8).1) (fun C a b e => VS C a b (5 * 8 + 5 + 2) e) := by
    have := x_sum X (d + 57) t tu gu tl ht hL hone
    rw [show d + 57 + 6 = d + 63 by omega] at this
    exact this
  have hR := hsum h2 i s C H2 C2 hs (by rw [smF a7 (by omega)]; exact f6)
  unfold laP
  cases hr : sumP (tkn B L) (lvP (tkn B L) lw 8).1 i with
  | inl q =>
    rw [hr] at hR
    obtain ⟨h3, j1, j2, j3, j4⟩ := hR
    rw [j1, bI_s, e_X4_readLaw_67 (ht := ht), if_pos rfl]
    exact ⟨h3, rfl, j2, j3, s2.tr j4.zt, (j4.2.2 0 (by omega) (by omega) (by omega)).trans (g38 0 (by omega)), (j4.2.2 1 (by omega) (by omega) (by omega)).trans (g38 1 (by omega))⟩
  | inr q =>
    rw [hr] at hR
    obtain ⟨h3, s3, C3, j1, j2, j3, j4, j5, j6, j7, j8, j9⟩ := hR
    have b1 := VS_lt j5
    have tL := tS_L B L q.1
    rw [j1, bI_s, e_X4_readLaw_67 (ht := ht), if_neg one0]
    show ClO t tu gu tl B L _ h (smP (tkn B L) q.1 (lwT T lw q.2))
    unfold smP
    rw [show (59 : Int32) = nI 59 from rfl]
    rcases x_ts X (d + 59) t tu gu tl ht (m := 59) (by omega) (by omega) (by omega) (by omega) h3 j2 with ⟨g, gi, h4, e1, e2, e3, e4⟩ | ⟨g, h4, e1, e2, e3, e4⟩
    · have t2 := tS_st (B := B) (L := L) (i := q.1) (by rw [g]; decide)
      have tL2 := tS_L B L (q.1 + 1)
      obtain ⟨h5, p1, p2, p3, p4, p5⟩ := x_put X (d + 61) t tu gu tl ht h4 (j3.cg ht e3) (v := 0) (by omega) (by omega) (by omega)
      rw [e1, bI_s, e_X4_readLaw_76 (ht := ht), if_neg one0, show (0 : Int32) = zI 0 from rfl, p1, bI_s, if_neg (show ¬ (1 : Int32) = zI 0 by decide), if_pos g]
      have f5 : zFs t h2 h5 := (j9.tr (zFs_38 ht e3 e4)).tr p3
      have ag : ∀ x, x < s → upC C3 s3 0 x = C x := fun x hx => by rw [upC_n (by omega)]; exact j4 x hx
      have tz : ∀ z, z ≠ 1 → z ≠ 0 → z ≠ 2 + lw → gF h5 t z = gF h t z := fun z h1 h2 h3 => by rw [f5.2.1 z h1, a3 z h2, ft z h3]
      have t2 : gF h5 t (2 + lw) = nI s := by rw [f5.2.1 _ (by omega), a3 _ (by omega)]; exact ft2
      have cA : ∀ c, t + 1 ≤ c → c ≤ t + 3 → gA h5 c = gA h2 c := fun c h1 h2 => smA f5.1 (by omega)
      have law : XLw h5 t (s3 + 1) (upC C3 s3 0) lw (some q.2) := ⟨s, s3, 5 * 8 + 5 + 2, t2, j5.cg fun x _ h2 => upC_n (by omega), by omega, by omega, upC_s _ _ _⟩
      have lw2 : ∀ lw' o, lw' ≠ lw → lw' ≤ 1 → XLw h t s C lw' o → XLw h5 t (s3 + 1) (upC C3 s3 0) lw' o := fun lw' o h1 h2 h3 => h3.cg (tz _ (by omega) (by omega) (by omega)) (by omega) ag
      have fin : XTx h5 t (lwT T lw q.2) (s3 + 1) (upC C3 s3 0) := by
        refine ⟨by show (T.1 ++ [(lw, 0, 0)]).length ≤ 24; rw [List.length_append]; exact h24, ?_, fun j hj => ?_, p2, ?_, ?_⟩
        · show gF h5 t 0 = nI (T.1 ++ [(lw, 0, 0)]).length
          rw [List.length_append, f5.2.1 0 (by omega)]
          exact a2
        · have hj : j < (T.1 ++ [(lw, 0, 0)]).length := hj
          rw [List.length_append] at hj
          simp only [List.length_cons, List.length_nil] at hj
          show XCl h5 t j ((T.1 ++ [(lw, 0, 0)]).getD j (9, 0, 0))
          rw [getD_app]
          unfold XCl
          rw [cA (t + 1) (by omega) (by omega), cA (t + 2) (by omega) (by omega), cA (t + 3) (by omega) (by omega), a4, a5, a6, smA s1 (by omega), smA s1 (by omega), smA s1 (by omega)]
          by_cases y : j < T.1.length
          · rw [if_pos y, pk_un (by omega), pk_un (by omega), pk_un (by omega)]
            exact x3 j y
          · have yj : j = T.1.length := by omega
            rw [if_neg y, if_pos yj, yj, pk_us]
            exact ⟨rfl, fun z => absurd z (by show ¬ 2 ≤ lw; omega), fun z => absurd z (by show ¬ 2 ≤ lw; omega)⟩
        · rcases hlw with rfl | rfl
          · exact law
          · exact lw2 0 _ (by omega) (by omega) x5
        · rcases hlw with rfl | rfl
          · exact lw2 1 _ (by omega) (by omega) x6
          · exact law
      exact ⟨h5, s3 + 1, _, rfl, e2.em p4 p5, fin, by show s3 + 1 ≤ tS B L (q.1 + 1); omega, by show q.1 + 1 ≤ L; omega, s2.tr f5.zt, fun z hz => by rw [f5.2.2 z (by omega), g38 z (by omega)]⟩
    · rw [e1, bI_s, e_X4_readLaw_76 (ht := ht), if_pos rfl, if_neg g]
      have fr := j9.fr e4
      exact ⟨h4, rfl, e2, e3, s2.tr fr.zt, (fr.2.2 0 (by omega) (by omega) (by omega)).trans (g38 0 (by omega)), (fr.2.2 1 (by omega) (by omega) (by omega)).trans (g38 1 (by omega))⟩
theorem ClO_fail (ht : isT4 t) {B : Nat → Nat} {L i : Nat} (h : DT) (H : CT h B L i) (w : Nat) : ClO t tu gu tl B L (bI (cal X (d + 1) 27 [vP (some 38), vI (nI w)] (SK (some t) tu gu tl, h)) fun r2 H2 => if r2 = 0 ∨ r2 = 1 then some (some (vI r2), H2) else none) h (Sum.inl (w, i)) := by
  obtain ⟨h1, k1, k2, k3, k4⟩ := x_fail X d t tu gu tl ht h w H.2.1
  rw [k1, bI_s, if_pos (Or.inl rfl)]
  exact ⟨h1, rfl, k2, k3, k4.zt, k4.2.2 0 (by omega) (by omega) (by omega), k4.2.2 1 (by omega) (by omega) (by omega)⟩
theorem bI_01 {cl : RR} {h : DT} {B : Nat → Nat} {L : Nat} {pr : CR} (H : ClO t tu gu tl B L cl h pr) : ClO t tu gu tl B L (bI cl fun r H => if r = 0 ∨ r = 1 then some (some (vI r), H) else none) h pr := by
  cases pr with
  | inl q =>
    obtain ⟨h2, j1, j2⟩ := H
    rw [j1, bI_s, if_pos (Or.inl rfl)]
    exact ⟨h2, rfl, j2⟩
  | inr q =>
    obtain ⟨h2, s2, C2, j1, j2⟩ := H
    rw [j1, bI_s, if_pos (Or.inr rfl)]
    exact ⟨h2, s2, C2, rfl, j2⟩
theorem XLw_n {h : DT} {t s : Nat} {C : Nat → Int} {lw : Nat} {o : Option Cd} (H : XLw h t s C lw o) (hs : s ≤ 300) : (gF h t (2 + lw) = -1) = (o.isSome = false) := by
  cases o with
  | none => exact propext ⟨fun _ => rfl, fun _ => H⟩
  | some e =>
    obtain ⟨a, b, w, h1, h2, h3, h4, h5⟩ := H
    have := VS_lt h2
    exact propext ⟨fun z => absurd (h1.symm.trans z) (nI_n1 (by omega)), fun z => by cases z⟩
theorem kdT_9 (τ : Tk) (i : Nat) : kdT τ i ≤ 9 ∧ (kdT τ i ≠ 0 → (τ i).1 = 2) := by
  unfold kdT
  split
  · exact ⟨by omega, fun _ => by omega⟩
  · omega
theorem x_clause (ht : isT4 t) {B : Nat → Nat} {L i s : Nat} {C : Nat → Int} {T : TXT} (hL : L ≤ 300) (h : DT) (H : CT h B L i) (hX : XTx h t T s C) (hs : s ≤ tS B L i) : ClO t tu gu tl B L (cal X (d + 65) 28 [vP (some 38), vI (nI T.1.length)] (SK (some t) tu gu tl, h)) h (clP (tkn B L) i T) := by
  obtain ⟨x1, x2, x3, x4, x5, x6⟩ := id hX
  obtain ⟨k9, k2⟩ := kdT_9 (tkn B L) i
  have n0 := XLw_n x5 x4.2.1
  have n1 := XLw_n x6 x4.2.1
  rw [c_X4_readClause, e_X4_readClause_0 (ht := ht), x_cKind X (d + 62) t tu gu tl ht h H, bI_s, e_X4_readClause_4 (ht := ht)]
  unfold clP
  revert k9 k2
  generalize kdT (tkn B L) i = k
  intro k9 k2
  have ek : ∀ m, m < 100 → (nI k = nI m) = (k = m) := fun m hm => propext (nI_eq (by omega) (by omega))
  by_cases g0 : k = 0
  · rw [if_pos (show nI k = 0 from (ek 0 (by omega)).mpr g0), if_pos g0]
    exact ClO_fail X (d + 63) t tu gu tl ht h H 1
  have hiL : i < L := tkn_i (by rw [k2 g0]; decide)
  have t1 := tS_st (B := B) (L := L) (i := i) (by rw [k2 g0]; decide)
  rw [if_neg (show ¬ nI k = 0 from fun z => g0 ((ek 0 (by omega)).mp z)), if_neg g0]
  -- behind the checks
  have tail : ¬ ((k = 1 ∧ T.2.1.isSome = true) ∨ (k = 2 ∧ T.2.2.isSome = true)) → ClO t tu gu tl B L (m_X4_readClause X (d + 64) 999998 31 [(0, vP (some 38)), (1, vI (nI T.1.length)), (2, vI (nI k))] [] (SK (some t) tu gu tl, h)) h (if 24 ≤ T.1.length then .inl (6, i) else if k = 1 then laP (tkn B L) (i + 1) 0 T else if k = 2 then laP (tkn B L) (i + 1) 1 T else deP (tkn B L) (i + 1) k T) := by
    intro hno
    have e31 : m_X4_readClause X (d + 64) 999998 31 [(0, vP (some 38)), (1, vI (nI T.1.length)), (2, vI (nI k))] [] (SK (some t) tu gu tl, h) = if nI T.1.length < 24 then (bV (cal X (d + 64) 50 [vP (some 38)] (SK (some t) tu gu tl, h)) fun H3 => m_X4_readClause X (d + 64) 999997 70 [(0, vP (some 38)), (2, vI (nI k))] [] H3) else bI (cal X (d + 64) 27 [vP (some 38), vI 6] (SK (some t) tu gu tl, h)) fun r4 H4 => if r4 = 0 ∨ r4 = 1 then some (some (vI r4), H4) else none := by
      rw [e_X4_readClause_31 (ht := ht)]
      by_cases g2 : k = 2
      · have : T.2.2.isSome = false := by
          cases q : T.2.2.isSome with
          | false => rfl
          | true => exact absurd (Or.inr ⟨g2, q⟩) hno
        rw [if_pos (show nI k = 2 from (ek 2 (by omega)).mpr g2), if_pos (n1.mpr this)]
      · rw [if_neg (show ¬ nI k = 2 from fun z => g2 ((ek 2 (by omega)).mp z))]
    rw [e31, show (24 : Int32) = nI 24 from rfl]
    by_cases g24 : 24 ≤ T.1.length
    · rw [if_neg (fun z => by have := (nI_ltI (a := T.1.length) (b := 24) (by omega) (by omega)).mp z; omega), if_pos g24]
      exact ClO_fail X (d + 63) t tu gu tl ht h H 6
    · obtain ⟨h1, a1, a2, a3, a4⟩ := x_nxt X (d + 61) t tu gu tl ht h H.1
      rw [if_pos ((nI_ltI (by omega) (by omega)).mpr (by omega)), if_neg g24, a1, bV_s, e_X4_readClause_70 (ht := ht)]
      have X1 := hX.c38 ht a4
      refine ClO.pre (h1 := h1) ?_ (zT_38 a4) (fun z hz => a3 z (by omega))
      by_cases g1 : k = 1
      · subst g1
        rw [if_pos (by decide), if_pos rfl]
        exact bI_01 t tu gu tl (x_law X d t tu gu tl ht (lw := 0) (Or.inl rfl) hL h1 a2 X1 (by omega) (by omega))
      · rw [if_neg (show ¬ nI k = 1 from fun z => g1 ((ek 1 (by omega)).mp z)), if_neg g1]
        by_cases g2 : k = 2
        · subst g2
          rw [if_pos (by decide), if_pos rfl]
          exact bI_01 t tu gu tl (x_law X d t tu gu tl ht (lw := 1) (Or.inr rfl) hL h1 a2 X1 (by omega) (by omega))
        · rw [if_neg (show ¬ nI k = 2 from fun z => g2 ((ek 2 (by omega)).mp z)), if_neg g2]
          refine bI_01 t tu gu tl ?_
          obtain rfl | rfl | rfl | rfl | rfl | rfl | rfl : k = 3 ∨ k = 4 ∨ k = 5 ∨ k = 6 ∨ k = 7 ∨ k = 8 ∨ k = 9 := by omega
          · exact x_de3 X (d + 59) t tu gu tl ht h1 a2 X1 (by omega) (by omega)
          · exact x_de4 X (d + 59) t tu gu tl ht h1 a2 X1 (by omega) (by omega)
          · exact x_de5 X (d + 59) t tu gu tl ht h1 a2 X1 (by omega) (by omega)
          · exact x_de6 X (d + 59) t tu gu tl ht h1 a2 X1 (by omega) (by omega)
          · exact x_de7 X (d + 59) t tu gu tl ht h1 a2 X1 (by omega) (by omega)
          · exact x_de8 X (d + 59) t tu gu tl ht h1 a2 X1 (by omega) (by omega)
          · exact x_de9 X (d + 59) t tu gu tl ht h1 a2 X1 (by omega) (by omega)
  by_cases hyes : (k = 1 ∧ T.2.1.isSome = true) ∨ (k = 2 ∧ T.2.2.isSome = true)
  · rw [if_pos hyes]
    rcases hyes with ⟨y1, y2⟩ | ⟨y1, y2⟩
    · rw [if_pos (show nI k = 1 from (ek 1 (by omega)).mpr y1), if_neg (fun z => by rw [n0.mp z] at y2; cases y2)]
      exact ClO_fail X (d + 63) t tu gu tl ht h H 4
    · rw [if_neg (show ¬ nI k = 1 from fun z => by have := (ek 1 (by omega)).mp z; omega), e_X4_readClause_31 (ht := ht), if_pos (show nI k = 2 from (ek 2 (by omega)).mpr y1), if_neg (fun z => by rw [n1.mp z] at y2; cases y2)]
      exact ClO_fail X (d + 63) t tu gu tl ht h H 4
  · rw [if_neg hyes]
    by_cases g1 : k = 1
    · have : T.2.1.isSome = false := by
        cases q : T.2.1.isSome with
        | false => rfl
        | true => exact absurd (Or.inl ⟨g1, q⟩) hyes
      rw [if_pos (show nI k = 1 from (ek 1 (by omega)).mpr g1), if_pos (n0.mpr this)]
      exact tail hyes
    · rw [if_neg (show ¬ nI k = 1 from fun z => g1 ((ek 1 (by omega)).mp z))]
      exact tail hyes
end DE
