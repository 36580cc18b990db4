/-! THE CLASS'S READING: products, sums, both, either -/
theorem gPrd_0 {τ : Tk} {i : Nat} (h : gPrd τ i = 0) : (τ i).1 ≠ 42 ∧ (τ i).1 ≠ 47 := by
  unfold gPrd at h
  refine ⟨fun z => ?_, fun z => ?_⟩
  · rw [if_pos z] at h; omega
  · rw [if_neg (by omega), if_pos z] at h; omega
theorem gPrd_n {τ : Tk} {i : Nat} (h : gPrd τ i ≠ 0) : ((τ i).1 = 42 ∧ gPrd τ i = 8) ∨ ((τ i).1 = 47 ∧ gPrd τ i = 9) := by
  unfold gPrd at h ⊢
  by_cases a : (τ i).1 = 42
  · exact Or.inl ⟨a, by rw [if_pos a]⟩
  · by_cases b : (τ i).1 = 47
    · exact Or.inr ⟨b, by rw [if_neg a, if_pos b]⟩
    · rw [if_neg a, if_neg b] at h; omega
theorem gSum_0 {τ : Tk} {i : Nat} (h : gSum τ i = 0) : (τ i).1 ≠ 43 ∧ (τ i).1 ≠ 45 := by
  unfold gSum at h
  refine ⟨fun z => ?_, fun z => ?_⟩
  · rw [if_pos z] at h; omega
  · rw [if_neg (by omega), if_pos z] at h; omega
theorem gSum_n {τ : Tk} {i : Nat} (h : gSum τ i ≠ 0) : ((τ i).1 = 43 ∧ gSum τ i = 6) ∨ ((τ i).1 = 45 ∧ gSum τ i = 7) := by
  unfold gSum at h ⊢
  by_cases a : (τ i).1 = 43
  · exact Or.inl ⟨a, by rw [if_pos a]⟩
  · by_cases b : (τ i).1 = 45
    · exact Or.inr ⟨b, by rw [if_neg a, if_pos b]⟩
    · rw [if_neg a, if_neg b] at h; omega
theorem gAnd_0 {τ : Tk} {i : Nat} (h : gAnd τ i = 0) : isW τ i 14 = false := by
  unfold gAnd at h
  cases g : isW τ i 14 with
  | false => rfl
  | true => rw [if_pos g] at h; omega
theorem gAnd_n {τ : Tk} {i : Nat} (h : gAnd τ i ≠ 0) : isW τ i 14 = true ∧ gAnd τ i = 21 := by
  unfold gAnd at h ⊢
  cases g : isW τ i 14 with
  | false => rw [g, if_neg (by decide)] at h; omega
  | true => exact ⟨rfl, if_pos rfl⟩
theorem gOr_0 {τ : Tk} {i : Nat} (h : gOr τ i = 0) : isW τ i 15 = false := by
  unfold gOr at h
  cases g : isW τ i 15 with
  | false => rfl
  | true => rw [if_pos g] at h; omega
theorem gOr_n {τ : Tk} {i : Nat} (h : gOr τ i ≠ 0) : isW τ i 15 = true ∧ gOr τ i = 22 := by
  unfold gOr at h ⊢
  cases g : isW τ i 15 with
  | false => rw [g, if_neg (by decide)] at h; omega
  | true => exact ⟨rfl, if_pos rfl⟩
theorem VS_lt {C : Nat → Int} {a b w : Nat} {e : Cd} (h : VS C a b w e) : a < b := h.elim fun _ q => q.2.1
theorem BS_lt {C : Nat → Int} {a b w : Nat} {e : Cd} (h : BS C a b w e) : a < b := h.elim fun _ q => q.2.1
section LV
variable (X : XS) (d t : Nat) (tu gu : Option Nat) (tl : List SC)
theorem x_prd (ht : isT4 t) {B : Nat → Nat} {L lw o w : Nat} {one : Nat → PR} (hL : L ≤ 300) (h1 : Rdr X t tu gu tl B L lw (d + 4) 36 o one (fun C a b e => VS C a b w e)) : Rdr X t tu gu tl B L lw (d + 5) 35 o (prdP (tkn B L) one) (fun C a b e => VS C a b (w + 1) e) := by
  intro h i s C H hC hs h6
  rw [c_X4_readProduct, e_X4_readProduct_0 (ht := ht)]
  have hR := h1 h i s C H hC hs h6
  cases hr : one i with
  | inl q =>
    rw [hr] at hR
    obtain ⟨h2, j1, j2, j3, j4⟩ := hR
    show RdO t tu gu tl B L _ h i s C (pB (one i) _) _
    rw [hr, j1, bI_s, if_pos rfl]
    exact ⟨h2, rfl, j2, j3, j4⟩
  | inr q =>
    rw [hr] at hR
    obtain ⟨h2, s2, C2, j1, j2, j3, j4, j5, j6, j7, j8, j9⟩ := hR
    show RdO t tu gu tl B L _ h i s C (pB (one i) _) _
    rw [hr, j1, bI_s, if_neg one0]
    refine x_chn X d t tu gu tl ht (κ := 5) (op := gPrd (tkn B L)) (G := fun C a b e => VS C a b w e) (G' := fun C a b e => VS C a b (w + 1) e) (M := fun f n H => m_X4_readProduct X (d + 4) f 12 [(0, vP (some 38)), (1, vI (nI o)), (2, vI (nI n))] [] H) (M1 := fun f n i H => m_X4_readProduct X (d + 4) f 56 [(0, vP (some 38)), (1, vI (nI o)), (2, vI (nI n)), (3, vI (zI ((gPrd (tkn B L) i : Nat) - (5 : Nat) : Int)))] [] H) (M2 := fun f n i r H => m_X4_readProduct X (d + 4) f 61 [(0, vP (some 38)), (1, vI (nI o)), (2, vI (nI n)), (3, vI (zI ((gPrd (tkn B L) i : Nat) - (5 : Nat) : Int)))] [vI r] H) (fun i g => ?_) (fun f n i h hn H g => ?_) (fun f n i h hn H g => ?_) (fun f n i h => ?_) (fun f n i r h g => ?_) h1 hL (VS_loc _) (VS_loc _) (fun C a s s' e0 e i g g1 g2 g3 => ?_) (fun _ _ _ _ => VS_lt) 300 0 999999 h2 q.1 s2 C2 q.2 rfl (by omega) j2 j7 j3 (by omega) (by rw [j9.2.2 6 (by omega)]; exact h6) j6 (by have := VS_lt j5; omega) j4 (j5.mo (by omega)) j8 j9
    · rcases gPrd_n g with ⟨g1, g2⟩ | ⟨g1, g2⟩ <;> rw [g1, g2] <;> decide
    · show m_X4_readProduct X (d + 4) (f + 2) 12 [(0, vP (some 38)), (1, vI (nI o)), (2, vI (nI n))] [] (SK (some t) tu gu tl, h) = _
      rw [e_X4_readProduct_12 (ht := ht), H.2.2.1, show (300 : Int32) = nI 300 from rfl, show (42 : Int32) = nI 42 from rfl, show (47 : Int32) = nI 47 from rfl]
      by_cases y : n = 300
      · rw [if_pos (nI_le (by omega) (by omega))]
      · obtain ⟨z1, z2⟩ := gPrd_0 (g.resolve_right y)
        rw [if_neg (nI_ge (by omega) (by omega)), if_neg (fun z => z1 ((cK_n tkn_k (by omega) (by omega) (by omega)).mp z)), if_neg (fun z => z2 ((cK_n tkn_k (by omega) (by omega) (by omega)).mp z))]
    · show m_X4_readProduct X (d + 4) (f + 2) 12 [(0, vP (some 38)), (1, vI (nI o)), (2, vI (nI n))] [] (SK (some t) tu gu tl, h) = bV _ fun H => m_X4_readProduct X (d + 4) f 56 [(0, vP (some 38)), (1, vI (nI o)), (2, vI (nI n)), (3, vI (zI ((gPrd (tkn B L) i : Nat) - (5 : Nat) : Int)))] [] H
      rw [e_X4_readProduct_12 (ht := ht), H.2.2.1, show (300 : Int32) = nI 300 from rfl, show (42 : Int32) = nI 42 from rfl, show (47 : Int32) = nI 47 from rfl, if_neg (nI_ge (by omega) (by omega))]
      rcases gPrd_n g with ⟨g1, g2⟩ | ⟨g1, g2⟩
      · rw [if_pos ((cK_n tkn_k (by omega) (by omega) (by omega)).mpr g1), e_X4_readProduct_37 (ht := ht), H.2.2.1, show (42 : Int32) = nI 42 from rfl, if_pos ((cK_n tkn_k (by omega) (by omega) (by omega)).mpr g1), g2]
        rfl
      · rw [if_neg (fun z => by have := (cK_n tkn_k (by omega) (by omega) (by omega)).mp z; omega), if_pos ((cK_n tkn_k (by omega) (by omega) (by omega)).mpr g1), e_X4_readProduct_37 (ht := ht), H.2.2.1, show (42 : Int32) = nI 42 from rfl, if_neg (fun z => by have := (cK_n tkn_k (by omega) (by omega) (by omega)).mp z; omega), g2]
        rfl
    · show m_X4_readProduct X (d + 4) (f + 1) 56 [(0, vP (some 38)), (1, vI (nI o)), (2, vI (nI n)), (3, vI (zI ((gPrd (tkn B L) i : Nat) - (5 : Nat) : Int)))] [] (SK (some t) tu gu tl, h) = _
      rw [e_X4_readProduct_56 (ht := ht)]
    · show m_X4_readProduct X (d + 4) (f + 1) 61 [(0, vP (some 38)), (1, vI (nI o)), (2, vI (nI n)), (3, vI (zI ((gPrd (tkn B L) i : Nat) - (5 : Nat) : Int)))] [vI r] (SK (some t) tu gu tl, h) = _
      rw [e_X4_readProduct_61 (ht := ht), nI_1]
    · exact VS_bin2 g1 g2 (by rcases gPrd_n g with ⟨_, z⟩ | ⟨_, z⟩ <;> rw [z] <;> unfold bi4 <;> omega) g3
theorem x_sum1 (ht : isT4 t) {B : Nat → Nat} {L lw o w : Nat} {prd : Nat → PR} (hL : L ≤ 300) (h1 : Rdr X t tu gu tl B L lw (d + 4) 35 o prd (fun C a b e => VS C a b w e)) : Rdr X t tu gu tl B L lw (d + 5) 34 o (fun i => pB (prd i) fun j c => chn prd (gSum (tkn B L)) 300 j c) (fun C a b e => VS C a b (w + 1) e) := by
  intro h i s C H hC hs h6
  rw [c_X4_readSum, e_X4_readSum_0 (ht := ht)]
  have hR := h1 h i s C H hC hs h6
  cases hr : prd i with
  | inl q =>
    rw [hr] at hR
    obtain ⟨h2, j1, j2, j3, j4⟩ := hR
    show RdO t tu gu tl B L _ h i s C (pB (prd i) _) _
    rw [hr, j1, bI_s, if_pos rfl]
    exact ⟨h2, rfl, j2, j3, j4⟩
  | inr q =>
    rw [hr] at hR
    obtain ⟨h2, s2, C2, j1, j2, j3, j4, j5, j6, j7, j8, j9⟩ := hR
    show RdO t tu gu tl B L _ h i s C (pB (prd i) _) _
    rw [hr, j1, bI_s, if_neg one0]
    refine x_chn X d t tu gu tl ht (κ := 5) (op := gSum (tkn B L)) (G := fun C a b e => VS C a b w e) (G' := fun C a b e => VS C a b (w + 1) e) (M := fun f n H => m_X4_readSum X (d + 4) f 12 [(0, vP (some 38)), (1, vI (nI o)), (2, vI (nI n))] [] H) (M1 := fun f n i H => m_X4_readSum X (d + 4) f 56 [(0, vP (some 38)), (1, vI (nI o)), (2, vI (nI n)), (3, vI (zI ((gSum (tkn B L) i : Nat) - (5 : Nat) : Int)))] [] H) (M2 := fun f n i r H => m_X4_readSum X (d + 4) f 61 [(0, vP (some 38)), (1, vI (nI o)), (2, vI (nI n)), (3, vI (zI ((gSum (tkn B L) i : Nat) - (5 : Nat) : Int)))] [vI r] H) (fun i g => ?_) (fun f n i h hn H g => ?_) (fun f n i h hn H g => ?_) (fun f n i h => ?_) (fun f n i r h g => ?_) h1 hL (VS_loc _) (VS_loc _) (fun C a s s' e0 e i g g1 g2 g3 => ?_) (fun _ _ _ _ => VS_lt) 300 0 999999 h2 q.1 s2 C2 q.2 rfl (by omega) j2 j7 j3 (by omega) (by rw [j9.2.2 6 (by omega)]; exact h6) j6 (by have := VS_lt j5; omega) j4 (j5.mo (by omega)) j8 j9
    · rcases gSum_n g with ⟨g1, g2⟩ | ⟨g1, g2⟩ <;> rw [g1, g2] <;> decide
    · show m_X4_readSum X (d + 4) (f + 2) 12 [(0, vP (some 38)), (1, vI (nI o)), (2, vI (nI n))] [] (SK (some t) tu gu tl, h) = _
      rw [e_X4_readSum_12 (ht := ht), H.2.2.1, show (300 : Int32) = nI 300 from rfl, show (43 : Int32) = nI 43 from rfl, show (45 : Int32) = nI 45 from rfl]
      by_cases y : n = 300
      · rw [if_pos (nI_le (by omega) (by omega))]
      · obtain ⟨z1, z2⟩ := gSum_0 (g.resolve_right y)
        rw [if_neg (nI_ge (by omega) (by omega)), if_neg (fun z => z1 ((cK_n tkn_k (by omega) (by omega) (by omega)).mp z)), if_neg (fun z => z2 ((cK_n tkn_k (by omega) (by omega) (by omega)).mp z))]
    · show m_X4_readSum X (d + 4) (f + 2) 12 [(0, vP (some 38)), (1, vI (nI o)), (2, vI (nI n))] [] (SK (some t) tu gu tl, h) = bV _ fun H => m_X4_readSum X (d + 4) f 56 [(0, vP (some 38)), (1, vI (nI o)), (2, vI (nI n)), (3, vI (zI ((gSum (tkn B L) i : Nat) - (5 : Nat) : Int)))] [] H
      rw [e_X4_readSum_12 (ht := ht), H.2.2.1, show (300 : Int32) = nI 300 from rfl, show (43 : Int32) = nI 43 from rfl, show (45 : Int32) = nI 45 from rfl, if_neg (nI_ge (by omega) (by omega))]
      rcases gSum_n g with ⟨g1, g2⟩ | ⟨g1, g2⟩
      · rw [if_pos ((cK_n tkn_k (by omega) (by omega) (by omega)).mpr g1), e_X4_readSum_37 (ht := ht), H.2.2.1, show (43 : Int32) = nI 43 from rfl, if_pos ((cK_n tkn_k (by omega) (by omega) (by omega)).mpr g1), g2]
        rfl
      · rw [if_neg (fun z => by have := (cK_n tkn_k (by omega) (by omega) (by omega)).mp z; omega), if_pos ((cK_n tkn_k (by omega) (by omega) (by omega)).mpr g1), e_X4_readSum_37 (ht := ht), H.2.2.1, show (43 : Int32) = nI 43 from rfl, if_neg (fun z => by have := (cK_n tkn_k (by omega) (by omega) (by omega)).mp z; omega), g2]
        rfl
    · show m_X4_readSum X (d + 4) (f + 1) 56 [(0, vP (some 38)), (1, vI (nI o)), (2, vI (nI n)), (3, vI (zI ((gSum (tkn B L) i : Nat) - (5 : Nat) : Int)))] [] (SK (some t) tu gu tl, h) = _
      rw [e_X4_readSum_56 (ht := ht)]
    · show m_X4_readSum X (d + 4) (f + 1) 61 [(0, vP (some 38)), (1, vI (nI o)), (2, vI (nI n)), (3, vI (zI ((gSum (tkn B L) i : Nat) - (5 : Nat) : Int)))] [vI r] (SK (some t) tu gu tl, h) = _
      rw [e_X4_readSum_61 (ht := ht), nI_1]
    · exact VS_bin2 g1 g2 (by rcases gSum_n g with ⟨_, z⟩ | ⟨_, z⟩ <;> rw [z] <;> unfold bi4 <;> omega) g3
theorem x_bth (ht : isT4 t) {B : Nat → Nat} {L lw o w : Nat} {ask : Nat → PR} (hL : L ≤ 300) (h1 : Rdr X t tu gu tl B L lw (d + 4) 40 o ask (fun C a b e => BS C a b w e)) : Rdr X t tu gu tl B L lw (d + 5) 39 o (bthP (tkn B L) ask) (fun C a b e => BS C a b (w + 1) e) := by
  intro h i s C H hC hs h6
  rw [c_X4_readBoth, e_X4_readBoth_0 (ht := ht)]
  have hR := h1 h i s C H hC hs h6
  cases hr : ask i with
  | inl q =>
    rw [hr] at hR
    obtain ⟨h2, j1, j2, j3, j4⟩ := hR
    show RdO t tu gu tl B L _ h i s C (pB (ask i) _) _
    rw [hr, j1, bI_s, if_pos rfl]
    exact ⟨h2, rfl, j2, j3, j4⟩
  | inr q =>
    rw [hr] at hR
    obtain ⟨h2, s2, C2, j1, j2, j3, j4, j5, j6, j7, j8, j9⟩ := hR
    show RdO t tu gu tl B L _ h i s C (pB (ask i) _) _
    rw [hr, j1, bI_s, if_neg one0]
    refine x_chn X d t tu gu tl ht (κ := 6) (op := gAnd (tkn B L)) (G := fun C a b e => BS C a b w e) (G' := fun C a b e => BS C a b (w + 1) e) (M := fun f n H => m_X4_readBoth X (d + 4) f 12 [(0, vP (some 38)), (1, vI (nI o)), (2, vI (nI n))] [] H) (M1 := fun f n i H => m_X4_readBoth X (d + 4) f 32 [(0, vP (some 38)), (1, vI (nI o)), (2, vI (nI n))] [] H) (M2 := fun f n i r H => m_X4_readBoth X (d + 4) f 37 [(0, vP (some 38)), (1, vI (nI o)), (2, vI (nI n))] [vI r] H) (fun i g => ?_) (fun f n i h hn H g => ?_) (fun f n i h hn H g => ?_) (fun f n i h => ?_) (fun f n i r h g => ?_) h1 hL (BS_loc _) (BS_loc _) (fun C a s s' e0 e i g g1 g2 g3 => ?_) (fun _ _ _ _ => BS_lt) 300 0 999999 h2 q.1 s2 C2 q.2 rfl (by omega) j2 j7 j3 (by omega) (by rw [j9.2.2 6 (by omega)]; exact h6) j6 (by have := BS_lt j5; omega) j4 (j5.mo (by omega)) j8 j9
    · obtain ⟨g1, g2⟩ := gAnd_n g
      rw [(isW_c g1).1, g2]
      decide
    · show m_X4_readBoth X (d + 4) (f + 2) 12 [(0, vP (some 38)), (1, vI (nI o)), (2, vI (nI n))] [] (SK (some t) tu gu tl, h) = _
      rw [e_X4_readBoth_12 (ht := ht), show (300 : Int32) = nI 300 from rfl]
      by_cases y : n = 300
      · rw [if_pos (nI_le (by omega) (by omega))]
      · rw [if_neg (nI_ge (by omega) (by omega)), x_isW X (d + 3) t tu gu tl ht (by omega) h H, bI_s, gAnd_0 (g.resolve_right y), bz_f, e_X4_readBoth_25 (ht := ht), if_pos rfl]
    · show m_X4_readBoth X (d + 4) (f + 2) 12 [(0, vP (some 38)), (1, vI (nI o)), (2, vI (nI n))] [] (SK (some t) tu gu tl, h) = bV _ fun H => m_X4_readBoth X (d + 4) f 32 [(0, vP (some 38)), (1, vI (nI o)), (2, vI (nI n))] [] H
      rw [e_X4_readBoth_12 (ht := ht), show (300 : Int32) = nI 300 from rfl, if_neg (nI_ge (by omega) (by omega)), x_isW X (d + 3) t tu gu tl ht (by omega) h H, bI_s, (gAnd_n g).1, bz_t, e_X4_readBoth_25 (ht := ht), if_neg one0]
    · show m_X4_readBoth X (d + 4) (f + 1) 32 [(0, vP (some 38)), (1, vI (nI o)), (2, vI (nI n))] [] (SK (some t) tu gu tl, h) = _
      rw [e_X4_readBoth_32 (ht := ht)]
    · show m_X4_readBoth X (d + 4) (f + 1) 37 [(0, vP (some 38)), (1, vI (nI o)), (2, vI (nI n))] [vI r] (SK (some t) tu gu tl, h) = _
      rw [e_X4_readBoth_37 (ht := ht), nI_1, (gAnd_n g).2]
      rfl
    · exact BS_bin2 g1 g2 (by rw [(gAnd_n g).2]; omega) g3
theorem x_eit1 (ht : isT4 t) {B : Nat → Nat} {L lw o w : Nat} {bth : Nat → PR} (hL : L ≤ 300) (h1 : Rdr X t tu gu tl B L lw (d + 4) 39 o bth (fun C a b e => BS C a b w e)) : Rdr X t tu gu tl B L lw (d + 5) 38 o (fun i => pB (bth i) fun j c => chn bth (gOr (tkn B L)) 300 j c) (fun C a b e => BS C a b (w + 1) e) := by
  intro h i s C H hC hs h6
  rw [c_X4_readEither, e_X4_readEither_0 (ht := ht)]
  have hR := h1 h i s C H hC hs h6
  cases hr : bth i with
  | inl q =>
    rw [hr] at hR
    obtain ⟨h2, j1, j2, j3, j4⟩ := hR
    show RdO t tu gu tl B L _ h i s C (pB (bth i) _) _
    rw [hr, j1, bI_s, if_pos rfl]
    exact ⟨h2, rfl, j2, j3, j4⟩
  | inr q =>
    rw [hr] at hR
    obtain ⟨h2, s2, C2, j1, j2, j3, j4, j5, j6, j7, j8, j9⟩ := hR
    show RdO t tu gu tl B L _ h i s C (pB (bth i) _) _
    rw [hr, j1, bI_s, if_neg one0]
    refine x_chn X d t tu gu tl ht (κ := 6) (op := gOr (tkn B L)) (G := fun C a b e => BS C a b w e) (G' := fun C a b e => BS C a b (w + 1) e) (M := fun f n H => m_X4_readEither X (d + 4) f 12 [(0, vP (some 38)), (1, vI (nI o)), (2, vI (nI n))] [] H) (M1 := fun f n i H => m_X4_readEither X (d + 4) f 32 [(0, vP (some 38)), (1, vI (nI o)), (2, vI (nI n))] [] H) (M2 := fun f n i r H => m_X4_readEither X (d + 4) f 37 [(0, vP (some 38)), (1, vI (nI o)), (2, vI (nI n))] [vI r] H) (fun i g => ?_) (fun f n i h hn H g => ?_) (fun f n i h hn H g => ?_) (fun f n i h => ?_) (fun f n i r h g => ?_) h1 hL (BS_loc _) (BS_loc _) (fun C a s s' e0 e i g g1 g2 g3 => ?_) (fun _ _ _ _ => BS_lt) 300 0 999999 h2 q.1 s2 C2 q.2 rfl (by omega) j2 j7 j3 (by omega) (by rw [j9.2.2 6 (by omega)]; exact h6) j6 (by have := BS_lt j5; omega) j4 (j5.mo (by omega)) j8 j9
    · obtain ⟨g1, g2⟩ := gOr_n g
      rw [(isW_c g1).1, g2]
      decide
    · show m_X4_readEither X (d + 4) (f + 2) 12 [(0, vP (some 38)), (1, vI (nI o)), (2, vI (nI n))] [] (SK (some t) tu gu tl, h) = _
      rw [e_X4_readEither_12 (ht := ht), show (300 : Int32) = nI 300 from rfl]
      by_cases y : n = 300
      · rw [if_pos (nI_le (by omega) (by omega))]
      · rw [if_neg (nI_ge (by omega) (by omega)), x_isW X (d + 3) t tu gu tl ht (by omega) h H, bI_s, gOr_0 (g.resolve_right y), bz_f, e_X4_readEither_25 (ht := ht), if_pos rfl]
    · show m_X4_readEither X (d + 4) (f + 2) 12 [(0, vP (some 38)), (1, vI (nI o)), (2, vI (nI n))] [] (SK (some t) tu gu tl, h) = bV _ fun H => m_X4_readEither X (d + 4) f 32 [(0, vP (some 38)), (1, vI (nI o)), (2, vI (nI n))] [] H
      rw [e_X4_readEither_12 (ht := ht), show (300 : Int32) = nI 300 from rfl, if_neg (nI_ge (by omega) (by omega)), x_isW X (d + 3) t tu gu tl ht (by omega) h H, bI_s, (gOr_n g).1, bz_t, e_X4_readEither_25 (ht := ht), if_neg one0]
    · show m_X4_readEither X (d + 4) (f + 1) 32 [(0, vP (some 38)), (1, vI (nI o)), (2, vI (nI n))] [] (SK (some t) tu gu tl, h) = _
      rw [e_X4_readEither_32 (ht := ht)]
    · show m_X4_readEither X (d + 4) (f + 1) 37 [(0, vP (some 38)), (1, vI (nI o)), (2, vI (nI n))] [vI r] (SK (some t) tu gu tl, h) = _
      rw [e_X4_readEither_37 (ht := ht), nI_1, (gOr_n g).2]
      rfl
    · exact BS_bin2 g1 g2 (by rw [(gOr_n g).2]; omega) g3
theorem x_sum (ht : isT4 t) {B : Nat → Nat} {L lw o w : Nat} {one : Nat → PR} (hL : L ≤ 300) (h1 : Rdr X t tu gu tl B L lw (d + 4) 36 o one (fun C a b e => VS C a b w e)) : Rdr X t tu gu tl B L lw (d + 6) 34 o (sumP (tkn B L) one) (fun C a b e => VS C a b (w + 2) e) :=
  x_sum1 X (d + 1) t tu gu tl ht hL (x_prd X d t tu gu tl ht hL h1)
theorem x_eit (ht : isT4 t) {B : Nat → Nat} {L lw o w : Nat} {ask : Nat → PR} (hL : L ≤ 300) (h1 : Rdr X t tu gu tl B L lw (d + 4) 40 o ask (fun C a b e => BS C a b w e)) : Rdr X t tu gu tl B L lw (d + 6) 38 o (eitP (tkn B L) ask) (fun C a b e => BS C a b (w + 2) e) :=
  x_eit1 X (d + 1) t tu gu tl ht hL (x_bth X d t tu gu tl ht hL h1)
end LV
