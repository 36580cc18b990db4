/-! WORDS asked for, by both -/
theorem pkN_ok : ∀ (l : List Nat) (a : Nat), okW a → (∀ b ∈ l, b < 256) → okW (pkN a l)
  | [], a, h, _ => h
  | b :: l, a, h, hb => pkN_ok l _ (okW_s (hb b List.mem_cons_self)) (fun c hc => hb c (List.mem_cons_of_mem _ hc))
theorem okW_lt {a : Nat} (h : okW a) : a < 9223372036854775808 := by rcases h with h | h <;> omega
theorem let_b {v : Nat} (h : letB v = true) : 0 < v ∧ v < 256 := by
  unfold letB at h
  rw [Bool.or_eq_true, Bool.and_eq_true, Bool.and_eq_true, decide_eq_true_eq, decide_eq_true_eq, decide_eq_true_eq, decide_eq_true_eq] at h
  omega
theorem wd_let {B : Nat → Nat} {L : Nat} : ∀ (c p : Nat), ∀ b ∈ bts B (wnd B L c p - p) p, letB b = true
  | 0, p, b, hb => by
    rw [show wnd B L 0 p = p from rfl, Nat.sub_self] at hb
    cases hb
  | c + 1, p, b, hb => by
    unfold wnd at hb
    cases g : decide (p < L) && letB (B p) with
    | false =>
      rw [g, cond_false, Nat.sub_self] at hb
      cases hb
    | true =>
      have h1 := wnd_ge (B := B) (L := L) c (p + 1)
      rw [g, cond_true, show wnd B L c (p + 1) - p = wnd B L c (p + 1) - (p + 1) + 1 by omega] at hb
      rw [Bool.and_eq_true] at g
      rcases List.mem_cons.mp hb with rfl | hb
      · exact g.2
      · exact wd_let c (p + 1) b hb
theorem isW_eq {B : Nat → Nat} {L i e : Nat} (he : e < 29) (h2 : (tkn B L i).1 = 2) : isW (tkn B L) i e = decide (wdT B L (tQ B L i) = txN e) := by
  have hv : (tkn B L i).2.1 = wI (wdT B L (tQ B L i)) := by
    show vlT B L (tQ B L i) = _
    unfold vlT
    rw [(knd_2 h2).2, cond_true]
  unfold isW
  rw [h2, hv, Nat.beq_refl, Bool.true_and]
  by_cases g : wdT B L (tQ B L i) = txN e
  · rw [decide_eq_true g, (wI_iff he).mpr g, Nat.beq_refl]
  · rw [decide_eq_false g]
    exact Bool.eq_false_iff.mpr fun z => g ((wI_iff he).mp (Nat.eq_of_beq_eq_true z))
theorem isW_n {τ : Tk} {i e : Nat} (h : (τ i).1 ≠ 2) : isW τ i e = false := by
  unfold isW
  rw [Bool.eq_false_iff.mpr (fun z => h (Nat.eq_of_beq_eq_true z)), Bool.false_and]
theorem isW_v {τ : Tk} {i e : Nat} (h : (τ i).1 = 2) : (isW τ i e = true) = ((τ i).2.1 = e) := by
  unfold isW
  rw [h, Nat.beq_refl, Bool.true_and]
  exact propext ⟨fun z => Nat.eq_of_beq_eq_true z, fun z => by rw [z, Nat.beq_refl]⟩
theorem tx_at : ∀ e, e < 29 → ∀ j, j < (texts0.getD e []).length → (texts0.getD e []).getD j 0 = nI ((txN e).getD j 0) ∧ (txN e).getD j 0 < 256 := by decide +kernel
theorem cK_2 {k : Nat} (hk : k < 256) : (nI (cK k) = 2) = (k = 2) := by
  have h : cK k < 1000 ∧ (cK k = 2 ↔ k = 2) := by
    unfold cK
    split
    · omega
    · split <;> omega
  rw [show (2 : Int32) = nI 2 from rfl]
  exact propext ((nI_eq (by omega) (by omega)).trans h.2)
theorem cK_n {k m : Nat} (hk : k < 256) (hm : m < 256) (h4 : m ≠ 4) (h5 : m ≠ 5) : (nI (cK k) = nI m) = (k = m) := by
  have h : cK k < 1000 ∧ (cK k = m ↔ k = m) := by
    unfold cK
    split
    · omega
    · split <;> omega
  exact propext ((nI_eq (by omega) (by omega)).trans h.2)
theorem kK_n {k k' m : Nat} (hk : k' < 256) (h : k' = k ∨ k' = 58 ∧ k = 3) (hm : m < 256) (h4 : m ≠ 58) (h5 : m ≠ 3) : (nI k' = nI m) = (k = m) := propext ((nI_eq (by omega) (by omega)).trans (by omega))
section IW
variable (X : XS) (d t : Nat) (tx tu gu : Option Nat) (tl : List SC)
theorem x_isl (ht : t = 52 ∨ t = 57 ∨ t = 62 ∨ t = 67) {B : Nat → Nat} {L q n e : Nat} (he : e < 29) (h : DT) (H : CB h B L) (h8 : gF h 38 8 = nI q) (h9 : gF h 38 9 = nI (q + n)) (hL : q + n ≤ L) (hn : (texts0.getD e []).length = n) : ∀ (c j f : Nat), j + c = n → c < f → m_X4_isWord X d f 28 [(0, vP (some 38)), (1, vE e), (2, vI (nI j))] [] (SK (some t) tu gu tl, h) = some (some (vI (bzB (decide (bts B c (q + j) = (txN e).drop j)))), (SK (some t) tu gu tl, h))
  | c, j, 0, hj, hf => absurd hf (Nat.not_lt_zero _)
  | 0, j, f + 1, hj, hf => by
    have hl := H.2.1
    have hd : (txN e).drop j = [] := List.drop_eq_nil_of_le (by unfold txN; rw [List.length_map]; omega)
    rw [e_X4_isWord_28 (ht := ht), h8, h9, addI, if_pos (nI_le (by omega) (by omega)), hd]
    rfl
  | c + 1, j, f + 1, hj, hf => by
    have hl := H.2.1
    obtain ⟨b1, b2⟩ := H.2.2 (q + j) (by omega)
    obtain ⟨c1, c2⟩ := tx_at e he j (by omega)
    have hlen : j < (txN e).length := by unfold txN; rw [List.length_map]; omega
    have hd : (txN e).drop j = (txN e).getD j 0 :: (txN e).drop (j + 1) := by
      rw [List.drop_eq_getElem_cons hlen]
      congr 1
      simp [List.getD, hlen]
    rw [e_X4_isWord_28 (ht := ht), h8, h9, addI, if_neg (nI_ge (by omega) (by omega)), inbI (by omega) (by omega), show Nat.blt e 29 = true from Nat.ble_eq.mpr (by omega), cond_true, hn, inbI (by omega) (by omega), b1, c1, hd, show bts B (c + 1) (q + j) = B (q + j) :: bts B c (q + j + 1) from rfl]
    by_cases g : B (q + j) = (txN e).getD j 0
    · rw [if_pos (by rw [g]), nI_1, x_isl ht he h H h8 h9 hL hn c (j + 1) f (by omega) (by omega), ← g]
      refine rI (congrArg bzB ?_)
      rw [show q + (j + 1) = q + j + 1 by omega]
      by_cases y : bts B c (q + j + 1) = (txN e).drop (j + 1)
      · rw [decide_eq_true y, decide_eq_true (by rw [y])]
      · rw [decide_eq_false y, decide_eq_false (fun z => y (List.cons.inj z).2)]
    · rw [if_neg (fun z => g ((nI_eq (by omega) (by omega)).mp z)), decide_eq_false (fun z => g (List.cons.inj z).1)]
      rfl
theorem x_isW (ht : t = 52 ∨ t = 57 ∨ t = 62 ∨ t = 67) {B : Nat → Nat} {L i e : Nat} (he : e < 29) (h : DT) (H : CT h B L i) : cal X (d + 1) 49 [vP (some 38), vE e] (SK (some t) tu gu tl, h) = some (some (vI (bzB (isW (tkn B L) i e))), (SK (some t) tu gu tl, h)) := by
  obtain ⟨⟨a1, a2⟩, a3, a4, a5⟩ := H
  have hk : (tkn B L i).1 < 256 := knd_lt
  rw [c_X4_isWord, e_X4_isWord_0 (ht := ht), a4]
  by_cases g : (tkn B L i).1 = 2
  · have hl := a1.2.1
    obtain ⟨g1, g2⟩ := knd_2 g
    have eq : (tkn B L i).2.2 = tQ B L i := rfl
    have eE : tS B L (i + 1) = wnd B L (L - tQ B L i) (tQ B L i) := by
      show tkE B L (tQ B L i) = _
      unfold tkE
      rw [if_pos g1, g2, cond_true]
    have w1 := wnd_ge (B := B) (L := L) (L - tQ B L i) (tQ B L i)
    have w2 := wnd_L (B := B) (L := L) (L - tQ B L i) (tQ B L i) (by omega)
    rw [if_pos ((cK_2 hk).mpr g), show Nat.blt e 29 = true from Nat.ble_eq.mpr (by omega), cond_true, a2, a3, eq, eE, subI w1, isW_eq he g, show Int32.ofNat (texts0.getD e []).length = nI (texts0.getD e []).length from rfl]
    have tl6 := (txN_ok e he).2
    have tl' : (txN e).length = (texts0.getD e []).length := by unfold txN; rw [List.length_map]
    by_cases y : wnd B L (L - tQ B L i) (tQ B L i) - tQ B L i = (texts0.getD e []).length
    · rw [if_pos (congrArg nI y)]
      have := x_isl X d t tu gu tl ht he h a1 (q := tQ B L i) (n := wnd B L (L - tQ B L i) (tQ B L i) - tQ B L i) (a3.trans (congrArg nI eq)) (by rw [a2, eE]; congr 1; omega) (by omega) y.symm (wnd B L (L - tQ B L i) (tQ B L i) - tQ B L i) 0 999999 (by omega) (by omega)
      rw [show (0 : Int32) = nI 0 from rfl, this]
      rfl
    · rw [if_neg (fun z => y ((nI_eq (by omega) (by omega)).mp z)), decide_eq_false (fun z => y (by rw [← tl', ← z]; unfold wdT; rw [bts_len]))]
      rfl
  · rw [if_neg (fun z => g ((cK_2 hk).mp z)), isW_n g]
    rfl
theorem k_cmpW {B : Nat → Nat} {L i e : Nat} (he : e < 29) {h : DT} (H : KT h B L i) (g : (tkn B L i).1 = 2) : (lg_cmp (gG h 72 11) (kW e) = 0) = ((tkn B L i).2.1 = e) := by
  obtain ⟨a1, a2, a3, a4, a5⟩ := H
  have hv : (tkn B L i).2.1 = wI (wdT B L (tQ B L i)) := by
    show vlT B L (tQ B L i) = _
    unfold vlT
    rw [(knd_2 g).2, cond_true]
  have hl : ∀ b ∈ wdT B L (tQ B L i), 0 < b ∧ b < 256 := fun b hb => let_b (wd_let _ _ b hb)
  have ht := txN_ok e he
  rw [a5 g, hv]
  unfold kW
  refine propext ((lg_cmp_eq _ _).trans ((lW_inj (okW_lt (pkN_ok _ 0 (Or.inl (by omega)) fun b hb => (hl b hb).2)) (okW_lt (pkN_ok _ 0 (Or.inl (by omega)) fun b hb => (ht.1 b hb).2))).trans ?_))
  rw [wI_iff he]
  exact ⟨fun z => pkN_inj hl ht.1 ht.2 z, fun z => by rw [z]⟩
theorem k_isW {B : Nat → Nat} {L i e : Nat} (he : e < 29) (h : DT) (H : KT h B L i) : cal X (d + 1) 189 [vP (some 72), vL (kW e)] (SK tx tu gu tl, h) = some (some (vI (bzB (isW (tkn B L) i e))), (SK tx tu gu tl, h)) := by
  obtain ⟨k', b1, b2, b3⟩ := H.2.2.1
  rw [c_X11_isWord, e_X11_isWord_0, b1, show (2 : Int32) = nI 2 from rfl]
  by_cases g : (tkn B L i).1 = 2
  · rw [if_pos ((kK_n b2 b3 (by omega) (by omega) (by omega)).mpr g)]
    by_cases y : (tkn B L i).2.1 = e
    · rw [if_pos ((k_cmpW he H g).mpr y), (isW_v g).mpr y]
      rfl
    · rw [if_neg (fun z => y ((k_cmpW he H g).mp z)), Bool.eq_false_iff.mpr (fun z => y ((isW_v g).mp z))]
      rfl
  · rw [if_neg (fun z => g ((kK_n b2 b3 (by omega) (by omega) (by omega)).mp z)), isW_n g]
    rfl
def w2F (a b : Int32) : Int64 := (a.toInt64 <<< ((8 : Int32).toInt64 &&& 63)) ||| b.toInt64
def wsF (r : Int64) (b : Int32) : Int64 := (r <<< ((8 : Int32).toInt64 &&& 63)) ||| b.toInt64
theorem k_w2 (h : DT) (a b : Int32) : cal X (d + 1) 184 [vI a, vI b] (SK tx tu gu tl, h) = some (some (vL (w2F a b)), (SK tx tu gu tl, h)) := by
  rw [c_X11_w2, e_X11_w2_0]
  rfl
theorem k_w3 (h : DT) (a b c : Int32) : cal X (d + 2) 185 [vI a, vI b, vI c] (SK tx tu gu tl, h) = some (some (vL (wsF (w2F a b) c)), (SK tx tu gu tl, h)) := by
  rw [c_X11_w3, e_X11_w3_0, k_w2 X d tx tu gu tl, bL_s]
  rfl
theorem k_w4 (h : DT) (a b c e : Int32) : cal X (d + 3) 186 [vI a, vI b, vI c, vI e] (SK tx tu gu tl, h) = some (some (vL (wsF (wsF (w2F a b) c) e)), (SK tx tu gu tl, h)) := by
  rw [c_X11_w4, e_X11_w4_0, k_w3 X d tx tu gu tl, bL_s]
  rfl
theorem k_w5 (h : DT) (a b c e g : Int32) : cal X (d + 4) 187 [vI a, vI b, vI c, vI e, vI g] (SK tx tu gu tl, h) = some (some (vL (wsF (wsF (wsF (w2F a b) c) e) g)), (SK tx tu gu tl, h)) := by
  rw [c_X11_w5, e_X11_w5_0, k_w4 X d tx tu gu tl, bL_s]
  rfl
theorem k_w6 (h : DT) (a b c e g k : Int32) : cal X (d + 5) 188 [vI a, vI b, vI c, vI e, vI g, vI k] (SK tx tu gu tl, h) = some (some (vL (wsF (wsF (wsF (wsF (w2F a b) c) e) g) k)), (SK tx tu gu tl, h)) := by
  rw [c_X11_w6, e_X11_w6_0, k_w5 X d tx tu gu tl, bL_s]
  rfl
theorem kw0 (h : DT) : cal X (d + 5) 187 [vI 108, vI 101, vI 97, vI 110, vI 115] (SK tx tu gu tl, h) = some (some (vL (kW 0)), (SK tx tu gu tl, h)) := k_w5 X (d + 1) tx tu gu tl h _ _ _ _ _
theorem kw1 (h : DT) : cal X (d + 5) 187 [vI 104, vI 101, vI 97, vI 114, vI 115] (SK tx tu gu tl, h) = some (some (vL (kW 1)), (SK tx tu gu tl, h)) := k_w5 X (d + 1) tx tu gu tl h _ _ _ _ _
theorem kw2 (h : DT) : cal X (d + 5) 188 [vI 112, vI 101, vI 114, vI 115, vI 111, vI 110] (SK tx tu gu tl, h) = some (some (vL (kW 2)), (SK tx tu gu tl, h)) := k_w6 X d tx tu gu tl h _ _ _ _ _ _
theorem kw3 (h : DT) : cal X (d + 5) 186 [vI 114, vI 97, vI 99, vI 107] (SK tx tu gu tl, h) = some (some (vL (kW 3)), (SK tx tu gu tl, h)) := k_w4 X (d + 2) tx tu gu tl h _ _ _ _
theorem kw4 (h : DT) : cal X (d + 5) 186 [vI 115, vI 119, vI 97, vI 112] (SK tx tu gu tl, h) = some (some (vL (kW 4)), (SK tx tu gu tl, h)) := k_w4 X (d + 2) tx tu gu tl h _ _ _ _
theorem kw5 (h : DT) : cal X (d + 5) 186 [vI 116, vI 117, vI 114, vI 110] (SK tx tu gu tl, h) = some (some (vL (kW 5)), (SK tx tu gu tl, h)) := k_w4 X (d + 2) tx tu gu tl h _ _ _ _
theorem kw6 (h : DT) : cal X (d + 5) 186 [vI 112, vI 114, vI 111, vI 112] (SK tx tu gu tl, h) = some (some (vL (kW 6)), (SK tx tu gu tl, h)) := k_w4 X (d + 2) tx tu gu tl h _ _ _ _
theorem kw7 (h : DT) : cal X (d + 5) 186 [vI 102, vI 114, vI 101, vI 101] (SK tx tu gu tl, h) = some (some (vL (kW 7)), (SK tx tu gu tl, h)) := k_w4 X (d + 2) tx tu gu tl h _ _ _ _
theorem kw8 (h : DT) : cal X (d + 5) 186 [vI 121, vI 101, vI 97, vI 114] (SK tx tu gu tl, h) = some (some (vL (kW 8)), (SK tx tu gu tl, h)) := k_w4 X (d + 2) tx tu gu tl h _ _ _ _
theorem kw9 (h : DT) : cal X (d + 5) 186 [vI 115, vI 116, vI 101, vI 112] (SK tx tu gu tl, h) = some (some (vL (kW 9)), (SK tx tu gu tl, h)) := k_w4 X (d + 2) tx tu gu tl h _ _ _ _
theorem kw10 (h : DT) : cal X (d + 5) 184 [vI 116, vI 111] (SK tx tu gu tl, h) = some (some (vL (kW 10)), (SK tx tu gu tl, h)) := k_w2 X (d + 4) tx tu gu tl h _ _
theorem kw11 (h : DT) : cal X (d + 5) 186 [vI 115, vI 101, vI 97, vI 116] (SK tx tu gu tl, h) = some (some (vL (kW 11)), (SK tx tu gu tl, h)) := k_w4 X (d + 2) tx tu gu tl h _ _ _ _
theorem kw12 (h : DT) : cal X (d + 5) 184 [vI 105, vI 102] (SK tx tu gu tl, h) = some (some (vL (kW 12)), (SK tx tu gu tl, h)) := k_w2 X (d + 4) tx tu gu tl h _ _
theorem kw13 (h : DT) : cal X (d + 5) 185 [vI 110, vI 111, vI 116] (SK tx tu gu tl, h) = some (some (vL (kW 13)), (SK tx tu gu tl, h)) := k_w3 X (d + 3) tx tu gu tl h _ _ _
theorem kw14 (h : DT) : cal X (d + 5) 185 [vI 97, vI 110, vI 100] (SK tx tu gu tl, h) = some (some (vL (kW 14)), (SK tx tu gu tl, h)) := k_w3 X (d + 3) tx tu gu tl h _ _ _
theorem kw15 (h : DT) : cal X (d + 5) 184 [vI 111, vI 114] (SK tx tu gu tl, h) = some (some (vL (kW 15)), (SK tx tu gu tl, h)) := k_w2 X (d + 4) tx tu gu tl h _ _
theorem kw16 (h : DT) : cal X (d + 5) 186 [vI 116, vI 104, vI 101, vI 110] (SK tx tu gu tl, h) = some (some (vL (kW 16)), (SK tx tu gu tl, h)) := k_w4 X (d + 2) tx tu gu tl h _ _ _ _
theorem kw17 (h : DT) : cal X (d + 5) 186 [vI 101, vI 108, vI 115, vI 101] (SK tx tu gu tl, h) = some (some (vL (kW 17)), (SK tx tu gu tl, h)) := k_w4 X (d + 2) tx tu gu tl h _ _ _ _
theorem kw18 (h : DT) : cal X (d + 5) 185 [vI 101, vI 110, vI 100] (SK tx tu gu tl, h) = some (some (vL (kW 18)), (SK tx tu gu tl, h)) := k_w3 X (d + 3) tx tu gu tl h _ _ _
theorem kw19 (h : DT) : cal X (d + 5) 186 [vI 119, vI 105, vI 110, vI 100] (SK tx tu gu tl, h) = some (some (vL (kW 19)), (SK tx tu gu tl, h)) := k_w4 X (d + 2) tx tu gu tl h _ _ _ _
theorem kw20 (h : DT) : cal X (d + 5) 188 [vI 119, vI 101, vI 105, vI 103, vI 104, vI 116] (SK tx tu gu tl, h) = some (some (vL (kW 20)), (SK tx tu gu tl, h)) := k_w6 X d tx tu gu tl h _ _ _ _ _ _
theorem kw21 (h : DT) : cal X (d + 5) 185 [vI 119, vI 104, vI 111] (SK tx tu gu tl, h) = some (some (vL (kW 21)), (SK tx tu gu tl, h)) := k_w3 X (d + 3) tx tu gu tl h _ _ _
theorem kw22 (h : DT) : cal X (d + 5) 187 [vI 115, vI 108, vI 97, vI 110, vI 116] (SK tx tu gu tl, h) = some (some (vL (kW 22)), (SK tx tu gu tl, h)) := k_w5 X (d + 1) tx tu gu tl h _ _ _ _ _
theorem kw23 (h : DT) : cal X (d + 5) 186 [vI 108, vI 101, vI 102, vI 116] (SK tx tu gu tl, h) = some (some (vL (kW 23)), (SK tx tu gu tl, h)) := k_w4 X (d + 2) tx tu gu tl h _ _ _ _
theorem kw24 (h : DT) : cal X (d + 5) 187 [vI 114, vI 105, vI 103, vI 104, vI 116] (SK tx tu gu tl, h) = some (some (vL (kW 24)), (SK tx tu gu tl, h)) := k_w5 X (d + 1) tx tu gu tl h _ _ _ _ _
theorem kw25 (h : DT) : cal X (d + 5) 186 [vI 119, vI 111, vI 114, vI 100] (SK tx tu gu tl, h) = some (some (vL (kW 25)), (SK tx tu gu tl, h)) := k_w4 X (d + 2) tx tu gu tl h _ _ _ _
theorem kw26 (h : DT) : cal X (d + 5) 186 [vI 102, vI 114, vI 111, vI 109] (SK tx tu gu tl, h) = some (some (vL (kW 26)), (SK tx tu gu tl, h)) := k_w4 X (d + 2) tx tu gu tl h _ _ _ _
theorem kw27 (h : DT) : cal X (d + 5) 184 [vI 97, vI 116] (SK tx tu gu tl, h) = some (some (vL (kW 27)), (SK tx tu gu tl, h)) := k_w2 X (d + 4) tx tu gu tl h _ _
theorem kw28 (h : DT) : cal X (d + 5) 186 [vI 119, vI 105, vI 116, vI 104] (SK tx tu gu tl, h) = some (some (vL (kW 28)), (SK tx tu gu tl, h)) := k_w4 X (d + 2) tx tu gu tl h _ _ _ _
end IW
