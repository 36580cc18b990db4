/-! THE CLASS'S READING: names, comparisons, jumps -/
theorem nI_n1 {n : Nat} (h : n < 1000000) : ¬ nI n = (-1 : Int32) := fun z => by
  have := congrArg Int32.toInt z
  rw [nIt (by omega), im1t] at this
  omega
def nmT (τ : Tk) (i : Nat) : Int32 := if (τ i).1 = 2 ∧ gNam (τ i).2.1 < 9 then nI (gNam (τ i).2.1) else -1
def kdT (τ : Tk) (i : Nat) : Nat := if (τ i).1 = 2 ∧ (τ i).2.1 ≤ 8 then (τ i).2.1 + 1 else 0
theorem nmT_t {τ : Tk} {i e : Nat} (h : isW τ i e = true) (g : gNam e < 9) : nmT τ i = nI (gNam e) := by
  obtain ⟨h1, h2⟩ := isW_c h
  unfold nmT
  rw [h2, if_pos ⟨h1, g⟩]
theorem nmT_f {τ : Tk} {i : Nat} (h8 : isW τ i 8 = false) (h : ∀ e, 19 ≤ e → e ≤ 26 → isW τ i e = false) : nmT τ i = -1 := by
  unfold nmT
  rw [if_neg]
  rintro ⟨h1, h2⟩
  unfold gNam at h2
  by_cases g : (τ i).2.1 = 8
  · rw [(isW_v h1).mpr g] at h8
    cases h8
  · rw [if_neg g] at h2
    by_cases y : 19 ≤ (τ i).2.1 ∧ (τ i).2.1 ≤ 26
    · have := h _ y.1 y.2
      rw [(isW_v h1).mpr rfl] at this
      cases this
    · rw [if_neg y] at h2
      omega
theorem kdT_t {τ : Tk} {i e : Nat} (h : isW τ i e = true) (g : e ≤ 8) : kdT τ i = e + 1 := by
  obtain ⟨h1, h2⟩ := isW_c h
  unfold kdT
  rw [h2, if_pos ⟨h1, g⟩]
theorem kdT_f {τ : Tk} {i : Nat} (h : ∀ e, e ≤ 8 → isW τ i e = false) : kdT τ i = 0 := by
  unfold kdT
  rw [if_neg]
  rintro ⟨h1, h2⟩
  have := h _ h2
  rw [(isW_v h1).mpr rfl] at this
  cases this
theorem ite2 {K : Int32 → RR} (p q : Prop) [Decidable p] [Decidable q] : (if p then K 1 else if q then K 1 else K 0) = K (bzB (decide p || decide q)) := by
  by_cases a : p
  · rw [if_pos a, decide_eq_true a]; rfl
  · by_cases b : q
    · rw [if_neg a, if_pos b, decide_eq_false a, decide_eq_true b]; rfl
    · rw [if_neg a, if_neg b, decide_eq_false a, decide_eq_false b]; rfl
section NM
variable (X : XS) (d t : Nat) (tx tu gu : Option Nat) (tl : List SC)
theorem x_nameOf (ht : isT4 t) {B : Nat → Nat} {L i : Nat} (h : DT) (H : CT h B L i) : cal X (d + 2) 43 [vP (some 38)] (SK (some t) tu gu tl, h) = some (some (vI (nmT (tkn B L) i)), (SK (some t) tu gu tl, h)) := by
  rw [c_X4_nameOfToken, e_X4_nameOfToken_0 (ht := ht), x_isW X d t tu gu tl ht (by omega) h H, bI_s]
  by_cases g0 : isW (tkn B L) i 8 = true
  · rw [g0, bz_t, e_X4_nameOfToken_6 (ht := ht), if_neg one0, nmT_t g0 (by decide)]
    rfl
  rw [Bool.eq_false_iff.mpr g0, bz_f, e_X4_nameOfToken_6 (ht := ht), if_pos rfl, x_isW X d t tu gu tl ht (by omega) h H, bI_s]
  by_cases g1 : isW (tkn B L) i 19 = true
  · rw [g1, bz_t, e_X4_nameOfToken_17 (ht := ht), if_neg one0, nmT_t g1 (by decide)]
    rfl
  rw [Bool.eq_false_iff.mpr g1, bz_f, e_X4_nameOfToken_17 (ht := ht), if_pos rfl, x_isW X d t tu gu tl ht (by omega) h H, bI_s]
  by_cases g2 : isW (tkn B L) i 20 = true
  · rw [g2, bz_t, e_X4_nameOfToken_28 (ht := ht), if_neg one0, nmT_t g2 (by decide)]
    rfl
  rw [Bool.eq_false_iff.mpr g2, bz_f, e_X4_nameOfToken_28 (ht := ht), if_pos rfl, x_isW X d t tu gu tl ht (by omega) h H, bI_s]
  by_cases g3 : isW (tkn B L) i 21 = true
  · rw [g3, bz_t, e_X4_nameOfToken_39 (ht := ht), if_neg one0, nmT_t g3 (by decide)]
    rfl
  rw [Bool.eq_false_iff.mpr g3, bz_f, e_X4_nameOfToken_39 (ht := ht), if_pos rfl, x_isW X d t tu gu tl ht (by omega) h H, bI_s]
  by_cases g4 : isW (tkn B L) i 22 = true
  · rw [g4, bz_t, e_X4_nameOfToken_50 (ht := ht), if_neg one0, nmT_t g4 (by decide)]
    rfl
  rw [Bool.eq_false_iff.mpr g4, bz_f, e_X4_nameOfToken_50 (ht := ht), if_pos rfl, x_isW X d t tu gu tl ht (by omega) h H, bI_s]
  by_cases g5 : isW (tkn B L) i 23 = true
  · rw [g5, bz_t, e_X4_nameOfToken_61 (ht := ht), if_neg one0, nmT_t g5 (by decide)]
    rfl
  rw [Bool.eq_false_iff.mpr g5, bz_f, e_X4_nameOfToken_61 (ht := ht), if_pos rfl, x_isW X d t tu gu tl ht (by omega) h H, bI_s]
  by_cases g6 : isW (tkn B L) i 24 = true
  · rw [g6, bz_t, e_X4_nameOfToken_72 (ht := ht), if_neg one0, nmT_t g6 (by decide)]
    rfl
  rw [Bool.eq_false_iff.mpr g6, bz_f, e_X4_nameOfToken_72 (ht := ht), if_pos rfl, x_isW X d t tu gu tl ht (by omega) h H, bI_s]
  by_cases g7 : isW (tkn B L) i 25 = true
  · rw [g7, bz_t, e_X4_nameOfToken_84 (ht := ht), if_neg one0, nmT_t g7 (by decide)]
    rfl
  rw [Bool.eq_false_iff.mpr g7, bz_f, e_X4_nameOfToken_84 (ht := ht), if_pos rfl, x_isW X d t tu gu tl ht (by omega) h H, bI_s]
  by_cases g8 : isW (tkn B L) i 26 = true
  · rw [g8, bz_t, if_neg one0, nmT_t g8 (by decide)]
    rfl
  rw [Bool.eq_false_iff.mpr g8, bz_f, if_pos rfl, nmT_f (Bool.eq_false_iff.mpr g0) (fun e h1 h2 => by
    obtain rfl | rfl | rfl | rfl | rfl | rfl | rfl | rfl : e = 19 ∨ e = 20 ∨ e = 21 ∨ e = 22 ∨ e = 23 ∨ e = 24 ∨ e = 25 ∨ e = 26 := by omega
    · exact Bool.eq_false_iff.mpr g1
    · exact Bool.eq_false_iff.mpr g2
    · exact Bool.eq_false_iff.mpr g3
    · exact Bool.eq_false_iff.mpr g4
    · exact Bool.eq_false_iff.mpr g5
    · exact Bool.eq_false_iff.mpr g6
    · exact Bool.eq_false_iff.mpr g7
    · exact Bool.eq_false_iff.mpr g8
    )]
theorem x_cKind (ht : isT4 t) {B : Nat → Nat} {L i : Nat} (h : DT) (H : CT h B L i) : cal X (d + 2) 29 [vP (some 38)] (SK (some t) tu gu tl, h) = some (some (vI (nI (kdT (tkn B L) i))), (SK (some t) tu gu tl, h)) := by
  rw [c_X4_clauseKind, e_X4_clauseKind_0 (ht := ht), x_isW X d t tu gu tl ht (by omega) h H, bI_s]
  by_cases g0 : isW (tkn B L) i 0 = true
  · rw [g0, bz_t, e_X4_clauseKind_6 (ht := ht), if_neg one0, kdT_t g0 (by decide)]
    rfl
  rw [Bool.eq_false_iff.mpr g0, bz_f, e_X4_clauseKind_6 (ht := ht), if_pos rfl, x_isW X d t tu gu tl ht (by omega) h H, bI_s]
  by_cases g1 : isW (tkn B L) i 1 = true
  · rw [g1, bz_t, e_X4_clauseKind_17 (ht := ht), if_neg one0, kdT_t g1 (by decide)]
    rfl
  rw [Bool.eq_false_iff.mpr g1, bz_f, e_X4_clauseKind_17 (ht := ht), if_pos rfl, x_isW X d t tu gu tl ht (by omega) h H, bI_s]
  by_cases g2 : isW (tkn B L) i 2 = true
  · rw [g2, bz_t, e_X4_clauseKind_28 (ht := ht), if_neg one0, kdT_t g2 (by decide)]
    rfl
  rw [Bool.eq_false_iff.mpr g2, bz_f, e_X4_clauseKind_28 (ht := ht), if_pos rfl, x_isW X d t tu gu tl ht (by omega) h H, bI_s]
  by_cases g3 : isW (tkn B L) i 3 = true
  · rw [g3, bz_t, e_X4_clauseKind_39 (ht := ht), if_neg one0, kdT_t g3 (by decide)]
    rfl
  rw [Bool.eq_false_iff.mpr g3, bz_f, e_X4_clauseKind_39 (ht := ht), if_pos rfl, x_isW X d t tu gu tl ht (by omega) h H, bI_s]
  by_cases g4 : isW (tkn B L) i 4 = true
  · rw [g4, bz_t, e_X4_clauseKind_50 (ht := ht), if_neg one0, kdT_t g4 (by decide)]
    rfl
  rw [Bool.eq_false_iff.mpr g4, bz_f, e_X4_clauseKind_50 (ht := ht), if_pos rfl, x_isW X d t tu gu tl ht (by omega) h H, bI_s]
  by_cases g5 : isW (tkn B L) i 5 = true
  · rw [g5, bz_t, e_X4_clauseKind_61 (ht := ht), if_neg one0, kdT_t g5 (by decide)]
    rfl
  rw [Bool.eq_false_iff.mpr g5, bz_f, e_X4_clauseKind_61 (ht := ht), if_pos rfl, x_isW X d t tu gu tl ht (by omega) h H, bI_s]
  by_cases g6 : isW (tkn B L) i 6 = true
  · rw [g6, bz_t, e_X4_clauseKind_73 (ht := ht), if_neg one0, kdT_t g6 (by decide)]
    rfl
  rw [Bool.eq_false_iff.mpr g6, bz_f, e_X4_clauseKind_73 (ht := ht), if_pos rfl, x_isW X d t tu gu tl ht (by omega) h H, bI_s]
  by_cases g7 : isW (tkn B L) i 7 = true
  · rw [g7, bz_t, e_X4_clauseKind_85 (ht := ht), if_neg one0, kdT_t g7 (by decide)]
    rfl
  rw [Bool.eq_false_iff.mpr g7, bz_f, e_X4_clauseKind_85 (ht := ht), if_pos rfl, x_isW X d t tu gu tl ht (by omega) h H, bI_s]
  by_cases g8 : isW (tkn B L) i 8 = true
  · rw [g8, bz_t, if_neg one0, kdT_t g8 (by decide)]
    rfl
  rw [Bool.eq_false_iff.mpr g8, bz_f, if_pos rfl, kdT_f (fun e h1 => by
    obtain rfl | rfl | rfl | rfl | rfl | rfl | rfl | rfl | rfl : e = 0 ∨ e = 1 ∨ e = 2 ∨ e = 3 ∨ e = 4 ∨ e = 5 ∨ e = 6 ∨ e = 7 ∨ e = 8 := by omega
    · exact Bool.eq_false_iff.mpr g0
    · exact Bool.eq_false_iff.mpr g1
    · exact Bool.eq_false_iff.mpr g2
    · exact Bool.eq_false_iff.mpr g3
    · exact Bool.eq_false_iff.mpr g4
    · exact Bool.eq_false_iff.mpr g5
    · exact Bool.eq_false_iff.mpr g6
    · exact Bool.eq_false_iff.mpr g7
    · exact Bool.eq_false_iff.mpr g8
    )]
  rfl
theorem gCmp_cs {τ : Tk} {i : Nat} : (gCmp τ i = 0 ∧ (τ i).1 ≠ 60 ∧ (τ i).1 ≠ 4 ∧ (τ i).1 ≠ 62 ∧ (τ i).1 ≠ 5 ∧ (τ i).1 ≠ 61 ∧ (τ i).1 ≠ 35) ∨ (gCmp τ i = 10 ∧ (τ i).1 = 60) ∨ (gCmp τ i = 11 ∧ (τ i).1 = 4) ∨ (gCmp τ i = 12 ∧ (τ i).1 = 62) ∨ (gCmp τ i = 13 ∧ (τ i).1 = 5) ∨ (gCmp τ i = 14 ∧ (τ i).1 = 61) ∨ (gCmp τ i = 15 ∧ (τ i).1 = 35) := by
  unfold gCmp
  by_cases a : (τ i).1 = 60
  · rw [if_pos a]; omega
  · rw [if_neg a]
    by_cases b : (τ i).1 = 4
    · rw [if_pos b]; omega
    · rw [if_neg b]
      by_cases c : (τ i).1 = 62
      · rw [if_pos c]; omega
      · rw [if_neg c]
        by_cases e : (τ i).1 = 5
        · rw [if_pos e]; omega
        · rw [if_neg e]
          by_cases f : (τ i).1 = 61
          · rw [if_pos f]; omega
          · rw [if_neg f]
            by_cases g : (τ i).1 = 35
            · rw [if_pos g]; omega
            · rw [if_neg g]; omega
theorem cK_m {k m : Nat} (hk : k < 256) (hm : m < 1000) : (nI (cK k) = nI m) = (cK k = m) := by
  have h : cK k < 1000 := by
    unfold cK
    split
    · omega
    · split <;> omega
  exact propext (nI_eq (by omega) (by omega))
theorem x_cmpn (ht : isT4 t) {B : Nat → Nat} {L i : Nat} (h : DT) (H : CT h B L i) : cal X (d + 1) 41 [vP (some 38)] (SK (some t) tu gu tl, h) = some (some (vI (nI (gCmp (tkn B L) i - 2))), (SK (some t) tu gu tl, h)) := by
  have hk : (tkn B L i).1 < 256 := tkn_k
  rw [c_X4_comparison, e_X4_comparison_0 (ht := ht), H.2.2.1]
  rcases gCmp_cs (τ := tkn B L) (i := i) with ⟨g, g1, g2, g3, g4, g5, g6⟩ | ⟨g, g1⟩ | ⟨g, g1⟩ | ⟨g, g1⟩ | ⟨g, g1⟩ | ⟨g, g1⟩ | ⟨g, g1⟩
  · have n : ∀ m, m = 35 ∨ m = 60 ∨ m = 61 ∨ m = 62 ∨ m = 316 ∨ m = 318 → ¬ nI (cK (tkn B L i).1) = nI m := fun m hm z => by
      have := (cK_m hk (by omega)).mp z
      unfold cK at this
      rw [if_neg g2, if_neg g4] at this
      omega
    rw [show (35 : Int32) = nI 35 from rfl, show (60 : Int32) = nI 60 from rfl, show (61 : Int32) = nI 61 from rfl, show (62 : Int32) = nI 62 from rfl, show (316 : Int32) = nI 316 from rfl, show (318 : Int32) = nI 318 from rfl, if_neg (n 35 (by omega)), if_neg (n 60 (by omega)), if_neg (n 61 (by omega)), if_neg (n 62 (by omega)), if_neg (n 316 (by omega)), if_neg (n 318 (by omega)), g]
    rfl
  · rw [g, g1]; rfl
  · rw [g, g1]; rfl
  · rw [g, g1]; rfl
  · rw [g, g1]; rfl
  · rw [g, g1]; rfl
  · rw [g, g1]; rfl
theorem x_ejump (ht : isT4 t) {s : Nat} {C : Nat → Int} {v : Int} (h : DT) (H : CC h t s C) (hs : s + 1 < 300) (h0 : 0 ≤ v) (h1 : v ≤ 10063) : ∃ h', cal X (d + 2) 86 [vP (some t), vI (zI v)] (SK (some t) tu gu tl, h) = some (some (vI (nI (s + 1))), (SK (some t) tu gu tl, h')) ∧ CC h' t (s + 2) (upC (upC C s v) (s + 1) 0) ∧ zFs t h h' ∧ gF h' 38 = gF h 38 ∧ gA h' 39 = gA h 39 := by
  obtain ⟨h1', a1, a2, a3, a4, a5⟩ := x_emit X d t tu gu tl ht h H (by omega) h0 h1
  obtain ⟨h2', b1, b2, b3, b4, b5⟩ := x_emit X d t tu gu tl ht h1' a2 (v := 0) (by omega) (by omega) (by omega)
  refine ⟨h2', ?_, b2, a3.tr b3, b4.trans a4, b5.trans a5⟩
  rw [c_X7_emitJump, e_X7_emitJump_0 (ht := ht), a1, bV_s, e_X7_emitJump_5 (ht := ht), show (0 : Int32) = zI 0 from rfl, b1, bV_s, e_X7_emitJump_10 (ht := ht), b2.1, show (1 : Int32) = nI 1 from rfl, subI (by omega)]
  rfl
theorem x_aim (ht : isT4 t) {s x : Nat} {C : Nat → Int} (h : DT) (H : CC h t s C) (hx : x < s) : ∃ h', cal X (d + 1) 87 [vP (some t), vI (nI x)] (SK (some t) tu gu tl, h) = some (none, (SK (some t) tu gu tl, h')) ∧ CC h' t s (upC C x (s : Int)) ∧ zFs t h h' ∧ gF h' 38 = gF h 38 ∧ gA h' 39 = gA h 39 := by
  unfold isT4 at ht
  obtain ⟨a, b, c⟩ := H
  have q : smX (fun c => c = t + 4) h (sA h (t + 4) x (nI s)) := smX_sA rfl
  refine ⟨sA h (t + 4) x (nI s), ?_, ⟨by rw [smF q (by omega)]; exact a, b, fun y hy => ?_⟩, ⟨q.mo (fun c hc => Or.inr (Or.inr hc)), fun z _ => by rw [smF q (by omega)], fun z _ => by rw [smF q (by omega)]⟩, smF q (by omega), smA q (by omega)⟩
  · rw [c_X7_aimHere, e_X7_aimHere_0 (ht := ht), if_neg (nI_pos (by omega)), show (300 : Int32) = nI 300 from rfl, if_neg (nI_ge (by omega) (by omega)), inbI (by omega) (by omega), a]
  · rw [gA_sA]
    unfold upC
    by_cases g : y = x
    · rw [if_pos ⟨rfl, g⟩, if_pos g, zI_nI]
      exact ⟨rfl, by omega, by omega⟩
    · rw [if_neg (fun z => g z.2), if_neg g]
      exact c y hy
theorem x_emit0 (ht : isT4 t) {s : Nat} {C : Nat → Int} {v : Int32} (h : DT) (H : CC h t s C) (hs : s < 300) : ∃ h', cal X (d + 1) 85 [vP (some t), vI v] (SK (some t) tu gu tl, h) = some (none, (SK (some t) tu gu tl, h')) ∧ zFs t h h' ∧ gF h' 38 = gF h 38 ∧ gA h' 39 = gA h 39 := by
  unfold isT4 at ht
  obtain ⟨a, b, c⟩ := H
  have q : smX (fun c => c = t ∨ c = t + 4) h (sF (sA h (t + 4) s v) t 1 (nI (s + 1))) := smX.tr (smX_sA (Or.inr rfl)) (smX_sF (Or.inl rfl))
  refine ⟨sF (sA h (t + 4) s v) t 1 (nI (s + 1)), ?_, ⟨q.mo (fun c hc => Or.inr hc), fun z hz => ?_, fun z _ => by rw [smF q (by omega)]⟩, smF q (by omega), smA q (by omega)⟩
  · rw [c_X7_emit, e_X7_emit_0 (ht := ht), a, show (300 : Int32) = nI 300 from rfl, if_neg (nI_ge (by omega) (by omega)), inbI (by omega) (by omega), nI_1]
  · rw [gF_sF, if_neg (fun y => hz y.2)]
    rfl
theorem x_name (ht : isT4 t) {B : Nat → Nat} {L lw i s w : Nat} {C : Nat → Int} (hlw : lw = 0 ∨ lw = 1) (hL : L ≤ 300) (h : DT) (H : CT h B L i) (hC : CC h t s C) (hs : s ≤ tS B L i) (h6 : gF h 38 6 = nI (1 - lw)) : RdO t tu gu tl B L (cal X (d + 4) 42 [vP (some 38)] (SK (some t) tu gu tl, h)) h i s C (if (tkn B L i).1 = 2 ∧ gNam (tkn B L i).2.1 < 9 then (if gOf lw (gNam (tkn B L i).2.1) = true then .inr (i + 1, [(1, gNam (tkn B L i).2.1)]) else .inl (5, i)) else .inl (1, i)) (fun C a b e => VS C a b (w + 1) e) := by
  rw [c_X4_readName, e_X4_readName_0 (ht := ht), x_nameOf X (d + 1) t tu gu tl ht h H, bI_s]
  unfold nmT
  by_cases g : (tkn B L i).1 = 2 ∧ gNam (tkn B L i).2.1 < 9
  · rw [if_pos g, if_pos g]
    have hiL : i < L := tkn_i (by rw [g.1]; decide)
    have t1 := tS_st (B := B) (L := L) (i := i) (by rw [g.1]; decide)
    have tL := tS_L B L (i + 1)
    generalize gNam (tkn B L i).2.1 = nm at g ⊢
    have hn := g.2
    have e4 : m_X4_readName X (d + 3) 999999 4 [(0, vP (some 38))] [vI (nI nm)] (SK (some t) tu gu tl, h) = m_X4_readName X (d + 3) 999998 32 [(0, vP (some 38)), (1, vI (nI nm))] [vI (bzB (decide (nI nm = 5) || decide (nI nm = 6)))] (SK (some t) tu gu tl, h) := by
      rw [e_X4_readName_4 (ht := ht), if_neg (nI_n1 (by omega))]
      exact ite2 (K := fun z => m_X4_readName X (d + 3) 999998 32 [(0, vP (some 38)), (1, vI (nI nm))] [vI z] (SK (some t) tu gu tl, h)) (nI nm = 5) (nI nm = 6)
    have e32 : ∀ z, m_X4_readName X (d + 3) 999998 32 [(0, vP (some 38)), (1, vI (nI nm))] [vI z] (SK (some t) tu gu tl, h) = m_X4_readName X (d + 3) 999997 50 [(0, vP (some 38)), (1, vI (nI nm)), (2, vI z)] [vI (bzB (decide (nI nm = 7) || decide (nI nm = 8)))] (SK (some t) tu gu tl, h) := fun z => by
      rw [e_X4_readName_32 (ht := ht)]
      exact ite2 (K := fun y => m_X4_readName X (d + 3) 999997 50 [(0, vP (some 38)), (1, vI (nI nm)), (2, vI z)] [vI y] (SK (some t) tu gu tl, h)) (nI nm = 7) (nI nm = 8)
    have good : gOf lw nm = true → m_X4_readName X (d + 3) 999997 50 [(0, vP (some 38)), (1, vI (nI nm)), (2, vI (bzB (decide (nI nm = 5) || decide (nI nm = 6))))] [vI (bzB (decide (nI nm = 7) || decide (nI nm = 8)))] (SK (some t) tu gu tl, h) = bV (cal X (d + 3) 85 [vP (some t), vI (32 + nI nm)] (SK (some t) tu gu tl, h)) fun H1 => m_X4_readName X (d + 3) 999996 86 [(0, vP (some 38))] [] H1 := fun y => by
      rw [e_X4_readName_50 (ht := ht), h6]
      rcases hlw with rfl | rfl
      · rw [if_neg (by decide)]
        have : (decide (nI nm = 7) || decide (nI nm = 8)) = false := by
          obtain rfl | rfl | rfl | rfl | rfl | rfl | rfl | rfl | rfl : nm = 0 ∨ nm = 1 ∨ nm = 2 ∨ nm = 3 ∨ nm = 4 ∨ nm = 5 ∨ nm = 6 ∨ nm = 7 ∨ nm = 8 := by omega
          all_goals first | decide | (revert y; decide)
        rw [this, bz_f, if_pos rfl]
      · rw [if_pos (by decide)]
        have : (decide (nI nm = 5) || decide (nI nm = 6)) = false := by
          obtain rfl | rfl | rfl | rfl | rfl | rfl | rfl | rfl | rfl : nm = 0 ∨ nm = 1 ∨ nm = 2 ∨ nm = 3 ∨ nm = 4 ∨ nm = 5 ∨ nm = 6 ∨ nm = 7 ∨ nm = 8 := by omega
          all_goals first | decide | (revert y; decide)
        rw [this, bz_f, if_pos rfl]
    have bad : gOf lw nm ≠ true → m_X4_readName X (d + 3) 999997 50 [(0, vP (some 38)), (1, vI (nI nm)), (2, vI (bzB (decide (nI nm = 5) || decide (nI nm = 6))))] [vI (bzB (decide (nI nm = 7) || decide (nI nm = 8)))] (SK (some t) tu gu tl, h) = bI (cal X (d + 3) 27 [vP (some 38), vI 5] (SK (some t) tu gu tl, h)) fun r2 H2 => if r2 = 0 ∨ r2 = 1 then some (some (vI r2), H2) else none := fun y => by
      rw [e_X4_readName_50 (ht := ht), h6]
      rcases hlw with rfl | rfl
      · rw [if_neg (by decide)]
        have : (decide (nI nm = 7) || decide (nI nm = 8)) = true := by
          obtain rfl | rfl | rfl | rfl | rfl | rfl | rfl | rfl | rfl : nm = 0 ∨ nm = 1 ∨ nm = 2 ∨ nm = 3 ∨ nm = 4 ∨ nm = 5 ∨ nm = 6 ∨ nm = 7 ∨ nm = 8 := by omega
          all_goals first | decide | exact absurd (by decide) y
        rw [this, bz_t, if_neg one0]
      · rw [if_pos (by decide)]
        have : (decide (nI nm = 5) || decide (nI nm = 6)) = true := by
          obtain rfl | rfl | rfl | rfl | rfl | rfl | rfl | rfl | rfl : nm = 0 ∨ nm = 1 ∨ nm = 2 ∨ nm = 3 ∨ nm = 4 ∨ nm = 5 ∨ nm = 6 ∨ nm = 7 ∨ nm = 8 := by omega
          all_goals first | decide | exact absurd (by decide) y
        rw [this, bz_t, if_neg one0]
    rw [e4, e32]
    by_cases y : gOf lw nm = true
    · rw [if_pos y, good y]
      obtain ⟨h1, a1, a2, a3, a4, a5⟩ := x_emit X (d + 2) t tu gu tl ht h hC (v := 32 + (nm : Int)) (by omega) (by omega) (by omega)
      have ev : (32 : Int32) + nI nm = zI (32 + (nm : Int)) := by rw [zI_nI, show (32 : Int32) = zI 32 from rfl, zI_add]
      have H1 : CT h1 B L i := H.cg (fun z _ => by rw [a4]) a5
      obtain ⟨h2, k1, k2, k3, k4⟩ := x_nxt X d t tu gu tl ht h1 H1.1
      rw [ev, a1, bV_s, e_X4_readName_86 (ht := ht), k1, bV_s]
      exact ⟨h2, s + 1, _, rfl, k2, a2.cg ht k4, fun x hx => upC_n (by omega), (VS_nam hn (by rw [upC_s])).mo (by omega), by show i < i + 1; omega, by show i + 1 ≤ L; omega, by show s + 1 + tS B L i ≤ s + tS B L (i + 1); omega, a3.tr (zFs_38 ht k4 k3)⟩
    · rw [if_neg y, bad y]
      obtain ⟨h', k1, k2, k3, k4⟩ := x_fail X (d + 2) t tu gu tl ht h 5 H.2.1
      rw [show (5 : Int32) = nI 5 from rfl, k1, bI_s, if_pos (Or.inl rfl)]
      exact ⟨h', rfl, k2, k3, k4⟩
  · rw [if_neg g, if_neg g, e_X4_readName_4 (ht := ht), if_pos rfl]
    obtain ⟨h', k1, k2, k3, k4⟩ := x_fail X (d + 2) t tu gu tl ht h 1 H.2.1
    rw [show (1 : Int32) = nI 1 from rfl, k1, bI_s, if_pos (Or.inl rfl)]
    exact ⟨h', rfl, k2, k3, k4⟩
end NM
