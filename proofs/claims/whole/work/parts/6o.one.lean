/-! THE CLASS'S READING: one, a choice, what is asked -/
section ON
variable (X : XS) (d t : Nat) (tu gu : Option Nat) (tl : List SC)
def RdC (X : XS) (t : Nat) (tu gu : Option Nat) (tl : List SC) (B : Nat → Nat) (L lw dep y o : Nat) (it : Nat → PR) (G : (Nat → Int) → Nat → Nat → Cd → Prop) : Prop :=
  ∀ (h : DT) (i s : Nat) (C : Nat → Int), CT h B L (i + 1) → CC h t s C → s ≤ tS B L i → tS B L i + 2 ≤ tS B L (i + 1) → gF h 38 6 = nI (1 - lw) → RdO t tu gu tl B L (cal X dep y [vP (some 38), vI (nI o)] (SK (some t) tu gu tl, h)) h i s C (it i) G
theorem BS_cmp2 {C : Nat → Int} {a b b' w o : Nat} {e1 e2 : Cd} (h1 : VS C a b (w + 1) e1) (h2 : VS C b b' w e2) (ho : 10 ≤ o) (ho' : o < 16) (hC : C b' = (o : Int) - 2) : BS C a (b' + 1) (w + 1) (e1 ++ e2 ++ [(o, 0)]) := by
  obtain ⟨D1, v1, s1⟩ := h1
  obtain ⟨D2, v2, s2⟩ := h2
  refine ⟨_, BC_cmp v1 v2 ho ho', s1.j3 s2 fun C' E hE vs hb => ?_⟩
  rw [cSt_j (hb.trans hC) (by omega) (by omega) (by omega) (by omega)]
  obtain rfl | rfl | rfl | rfl | rfl | rfl : o = 10 ∨ o = 11 ∨ o = 12 ∨ o = 13 ∨ o = 14 ∨ o = 15 := by omega
  · show some (b' + 1, (if D1 E < D2 E then 1 else 0) :: vs) = some (b' + 1, bzI (decide (D1 E < D2 E)) :: vs)
    by_cases q : D1 E < D2 E <;> simp [q, bzI]
  · show some (b' + 1, (if D1 E ≤ D2 E then 1 else 0) :: vs) = some (b' + 1, bzI (decide (D1 E ≤ D2 E)) :: vs)
    by_cases q : D1 E ≤ D2 E <;> simp [q, bzI]
  · show some (b' + 1, (if D2 E < D1 E then 1 else 0) :: vs) = some (b' + 1, bzI (decide (D2 E < D1 E)) :: vs)
    by_cases q : D2 E < D1 E <;> simp [q, bzI]
  · show some (b' + 1, (if D2 E ≤ D1 E then 1 else 0) :: vs) = some (b' + 1, bzI (decide (D2 E ≤ D1 E)) :: vs)
    by_cases q : D2 E ≤ D1 E <;> simp [q, bzI]
  · show some (b' + 1, (if D1 E = D2 E then 1 else 0) :: vs) = some (b' + 1, bzI (decide (D1 E = D2 E)) :: vs)
    by_cases q : D1 E = D2 E <;> simp [q, bzI]
  · show some (b' + 1, (if D1 E = D2 E then 0 else 1) :: vs) = some (b' + 1, bzI (!decide (D1 E = D2 E)) :: vs)
    by_cases q : D1 E = D2 E <;> simp [q, bzI]
theorem CT.em {h h' : DT} {B : Nat → Nat} {L i : Nat} (H : CT h B L i) (e : gF h' 38 = gF h 38) (e2 : gA h' 39 = gA h 39) : CT h' B L i := H.cg (fun z _ => by rw [e]) e2
theorem x_cho (ht : isT4 t) {B : Nat → Nat} {L lw o w : Nat} {sv : Lv} (hL : L ≤ 300) (he : Rdr X t tu gu tl B L lw (d + 4) 38 o (eitP (tkn B L) sv.2) (fun C a b e => BS C a b w e)) (hs1 : Rdr X t tu gu tl B L lw (d + 4) 34 o (sumP (tkn B L) sv.1) (fun C a b e => VS C a b w e)) : RdC X t tu gu tl B L lw (d + 5) 37 o (choF (tkn B L) sv) (fun C a b e => VS C a b w e) := by
  intro h i s C H hC hs hif h6
  rw [c_X4_readChoice, e_X4_readChoice_0 (ht := ht)]
  unfold choF
  have hR := he h (i + 1) s C H hC (by omega) h6
  cases hr : eitP (tkn B L) sv.2 (i + 1) with
  | inl q =>
    rw [hr] at hR
    obtain ⟨h1, j1, j2, j3, j4⟩ := hR
    rw [j1, bI_s, e_X4_readChoice_5 (ht := ht), if_pos rfl]
    exact ⟨h1, rfl, j2, j3, j4⟩
  | inr q =>
    rw [hr] at hR
    obtain ⟨h1, s1, C1, j1, j2, j3, j4, j5, j6, j7, j8, j9⟩ := hR
    have b1 := BS_lt j5
    rw [j1, bI_s, e_X4_readChoice_5 (ht := ht), if_neg one0]
    show RdO t tu gu tl B L _ h i s C (if isW (tkn B L) q.1 16 = true then _ else _) _
    rcases x_tw X d t tu gu tl ht (e := 16) (by omega) h1 j2 with ⟨g, gi, h2, k1, k2, k3, k4⟩ | ⟨g, h2, k1, k2, k3, k4⟩
    · have tw1 := tS_w (by omega) g
      have tl1 : (txN 16).length = 4 := rfl
      have tL1 := tS_L B L (q.1 + 1)
      rw [k1, bI_s, e_X4_readChoice_14 (ht := ht), if_neg one0, if_pos g]
      have f2 : zFs t h h2 := j9.tr (zFs_38 ht k3 k4)
      obtain ⟨h3, a1, a2, a3, a4, a5⟩ := x_ejump X (d + 2) t tu gu tl ht h2 (j3.cg ht k3) (v := 18) (by omega) (by omega) (by omega)
      have f3 := f2.tr a3
      have H3 := k2.em a4 a5
      rw [show (18 : Int32) = zI 18 from rfl, a1, bI_s, e_X4_readChoice_28 (ht := ht)]
      have hR := hs1 h3 (q.1 + 1) (s1 + 2) _ H3 a2 (by omega) (by rw [f3.2.2 6 (by omega)]; exact h6)
      cases hr2 : sumP (tkn B L) sv.1 (q.1 + 1) with
      | inl q2 =>
        rw [hr2] at hR
        obtain ⟨h4, m1, m2, m3, m4⟩ := hR
        rw [m1, bI_s, e_X4_readChoice_34 (ht := ht), if_pos rfl]
        exact ⟨h4, rfl, m2, m3, f3.fr m4⟩
      | inr q2 =>
        rw [hr2] at hR
        obtain ⟨h4, s4, C4, m1, m2, m3, m4, m5, m6, m7, m8, m9⟩ := hR
        have b2 := VS_lt m5
        rw [m1, bI_s, e_X4_readChoice_34 (ht := ht), if_neg one0]
        show RdO t tu gu tl B L _ h i s C (if isW (tkn B L) q2.1 17 = true then _ else _) _
        rcases x_tw X d t tu gu tl ht (e := 17) (by omega) h4 m2 with ⟨g2, gi2, h5, n1, n2, n3, n4⟩ | ⟨g2, h5, n1, n2, n3, n4⟩
        · have tw2 := tS_w (by omega) g2
          have tl2 : (txN 17).length = 4 := rfl
          have tL2 := tS_L B L (q2.1 + 1)
          rw [n1, bI_s, e_X4_readChoice_43 (ht := ht), if_neg one0, if_pos g2]
          have f5 : zFs t h h5 := (f3.tr m9).tr (zFs_38 ht n3 n4)
          obtain ⟨h6', p1, p2, p3, p4, p5⟩ := x_ejump X (d + 2) t tu gu tl ht h5 (m3.cg ht n3) (v := 17) (by omega) (by omega) (by omega)
          obtain ⟨h7, q1, q2', q3, q4, q5⟩ := x_aim X (d + 3) t tu gu tl ht h6' p2 (x := s1 + 1) (by omega)
          have f7 := (f5.tr p3).tr q3
          have H7 := (n2.em p4 p5).em q4 q5
          rw [show (17 : Int32) = zI 17 from rfl, p1, bI_s, e_X4_readChoice_57 (ht := ht), q1, bV_s, e_X4_readChoice_66 (ht := ht)]
          have hR := hs1 h7 (q2.1 + 1) (s4 + 2) _ H7 q2' (by omega) (by rw [f7.2.2 6 (by omega)]; exact h6)
          cases hr3 : sumP (tkn B L) sv.1 (q2.1 + 1) with
          | inl r3 =>
            rw [hr3] at hR
            obtain ⟨h8, u1, u2, u3, u4⟩ := hR
            rw [u1, bI_s, e_X4_readChoice_71 (ht := ht), if_pos rfl]
            exact ⟨h8, rfl, u2, u3, f7.fr u4⟩
          | inr r3 =>
            rw [hr3] at hR
            obtain ⟨h8, s8, C8, u1, u2, u3, u4, u5, u6, u7, u8, u9⟩ := hR
            have b3 := VS_lt u5
            rw [u1, bI_s, e_X4_readChoice_71 (ht := ht), if_neg one0]
            show RdO t tu gu tl B L _ h i s C (if isW (tkn B L) r3.1 18 = true then _ else _) _
            rcases x_tw X d t tu gu tl ht (e := 18) (by omega) h8 u2 with ⟨g3, gi3, h9, v1, v2, v3, v4⟩ | ⟨g3, h9, v1, v2, v3, v4⟩
            · have tw3 := tS_w (by omega) g3
              obtain ⟨h10, w1, w2, w3, w4, w5⟩ := x_aim X (d + 3) t tu gu tl ht h9 (u3.cg ht v3) (x := s4 + 1) (by omega)
              rw [v1, bI_s, e_X4_readChoice_80 (ht := ht), if_neg one0, if_pos g3, w1, bV_s]
              have c8 : ∀ x, x < s4 + 2 → x ≠ s1 + 1 → x ≠ s4 → x ≠ s4 + 1 → C8 x = C4 x := fun x h1 h2 h3 h4 => by rw [u4 x h1, upC_n h2, upC_n h4, upC_n h3]
              have c4 : ∀ x, x < s1 + 2 → x ≠ s1 → x ≠ s1 + 1 → C4 x = C1 x := fun x h1 h2 h3 => by rw [m4 x h1, upC_n h3, upC_n h2]
              refine ⟨h10, s8, upC C8 (s4 + 1) (s8 : Int), rfl, v2.em w4 w5, w2, fun x hx => ?_, ?_, by show i < r3.1 + 1; omega, by show r3.1 + 1 ≤ L; omega, by show s8 + tS B L i ≤ s + tS B L (r3.1 + 1); omega, ((f7.tr u9).tr (zFs_38 ht v3 v4)).tr w3⟩
              · rw [upC_n (by omega), c8 x (by omega) (by omega) (by omega) (by omega), c4 x (by omega) (by omega) (by omega)]
                exact j4 x hx
              · refine VS_if (b := s1) (c := s4) (j5.cg fun x h1 h2 => ?_) ?_ ?_ (m5.cg fun x h1 h2 => ?_) ?_ ?_ (u5.cg fun x h1 h2 => ?_)
                · rw [upC_n (by omega), c8 x (by omega) (by omega) (by omega) (by omega), c4 x (by omega) (by omega) (by omega)]
                · rw [upC_n (by omega), c8 s1 (by omega) (by omega) (by omega) (by omega), m4 s1 (by omega), upC_n (by omega), upC_s]
                · rw [upC_n (by omega), u4 (s1 + 1) (by omega), upC_s]
                · rw [upC_n (by omega), c8 x (by omega) (by omega) (by omega) (by omega)]
                · rw [upC_n (by omega), u4 s4 (by omega), upC_n (by omega), upC_n (by omega), upC_s]
                · rw [upC_s]
                · rw [upC_n (by omega)]
            · rw [v1, bI_s, e_X4_readChoice_80 (ht := ht), if_pos rfl, if_neg g3]
              exact ⟨h9, rfl, v2, v3, (f7.tr u9).fr v4⟩
        · rw [n1, bI_s, e_X4_readChoice_43 (ht := ht), if_pos rfl, if_neg g2]
          exact ⟨h5, rfl, n2, n3, (f3.tr m9).fr n4⟩
    · rw [k1, bI_s, e_X4_readChoice_14 (ht := ht), if_pos rfl, if_neg g]
      exact ⟨h2, rfl, k2, k3, j9.fr k4⟩
/-- what lies one deeper -/
def SubC (X : XS) (t : Nat) (tu gu : Option Nat) (tl : List SC) (B : Nat → Nat) (L lw dep o w : Nat) (sub : Option Lv) : Prop := match sub with
  | none => 8 ≤ o
  | some sv => o < 8 ∧ Rdr X t tu gu tl B L lw dep 36 (o + 1) sv.1 (fun C a b e => VS C a b w e) ∧ Rdr X t tu gu tl B L lw dep 34 (o + 1) (sumP (tkn B L) sv.1) (fun C a b e => VS C a b (w + 2) e) ∧ Rdr X t tu gu tl B L lw dep 40 (o + 1) sv.2 (fun C a b e => BS C a b (w + 3) e) ∧ RdC X t tu gu tl B L lw dep 37 (o + 1) (choF (tkn B L) sv) (fun C a b e => VS C a b (w + 5) e)
/-- an opening: it fails at the ninth, or there is what lies deeper -/
theorem x_opn (ht : isT4 t) {B : Nat → Nat} {L lw o w i s dep : Nat} {C : Nat → Int} {sub : Option Lv} (ho : o < 100) (hS : SubC X t tu gu tl B L lw dep o w sub) (h0 : (tkn B L i).1 ≠ 0) (h : DT) (H : CT h B L i) {K : Int32 → HP → RR} {k : Lv → PR} {G : (Nat → Int) → Nat → Nat → Cd → Prop} (hK0 : ∀ h1, K 0 (SK (some t) tu gu tl, h1) = some (some (vI 0), (SK (some t) tu gu tl, h1)))
    (hK1 : ∀ (sv : Lv) (h1 : DT), sub = some sv → o < 8 → i < L → CT h1 B L (i + 1) → smX (fun c => c = 38) h h1 → (∀ z, z < 7 → gF h1 38 z = gF h 38 z) → RdO t tu gu tl B L (K 1 (SK (some t) tu gu tl, h1)) h i s C (k sv) G) :
    RdO t tu gu tl B L (bI (cal X (d + 4) 45 [vP (some 38), vI (nI o)] (SK (some t) tu gu tl, h)) K) h i s C (opF sub i k) G := by
  rcases x_to X d t tu gu tl ht ho h0 h H with ⟨g, gi, h2, k1, k2, k3, k4⟩ | ⟨g, h2, k1, k2, k3, k4⟩
  · rw [k1, bI_s]
    cases sub with
    | none => exact absurd (show 8 ≤ o from hS) (by omega)
    | some sv => exact hK1 sv h2 rfl g gi k2 k3 k4
  · rw [k1, bI_s, hK0]
    cases sub with
    | none => exact ⟨h2, rfl, k2, k3, k4⟩
    | some sv => exact absurd hS.1 g
theorem x_one (ht : isT4 t) {B : Nat → Nat} {L lw o w : Nat} {sub : Option Lv} (hlw : lw = 0 ∨ lw = 1) (hL : L ≤ 300) (ho : o < 100) (hS : SubC X t tu gu tl B L lw (d + 4) o w sub) : Rdr X t tu gu tl B L lw (d + 5) 36 o (oneF (tkn B L) lw sub) (fun C a b e => VS C a b (w + 5) e) := by
  intro h i s C H hC hs h6
  have hk : (tkn B L i).1 < 256 := tkn_k
  rw [c_X4_readOne, e_X4_readOne_0 (ht := ht), H.2.2.1, show (1 : Int32) = nI 1 from rfl, show (40 : Int32) = nI 40 from rfl, show (45 : Int32) = nI 45 from rfl]
  unfold oneF
  by_cases k1 : (tkn B L i).1 = 1
  · rw [if_pos ((cK_n hk (by omega) (by omega) (by omega)).mpr k1), if_pos k1, H.2.2.2 k1]
    have hv := tkn_v k1
    have hiL := tkn_i (B := B) (L := L) (i := i) (by rw [k1]; decide)
    have t1 := tS_st (B := B) (L := L) (i := i) (by rw [k1]; decide)
    have tL := tS_L B L (i + 1)
    have ev : (64 : Int32) + nI (tkn B L i).2.1 = zI (64 + ((tkn B L i).2.1 : Int)) := by rw [zI_nI, show (64 : Int32) = zI 64 from rfl, zI_add]
    by_cases g : 9999 < (tkn B L i).2.1
    · obtain ⟨h1, a1, a3, a4, a5⟩ := x_emit0 X (d + 3) t tu gu tl ht h hC (v := 64 + nI (tkn B L i).2.1) (by omega)
      rw [a1, bV_s, e_X4_readOne_22 (ht := ht), if_pos g, show (0 : Int32) = nI 0 from rfl, show (9999 : Int32) = nI 9999 from rfl]
      rcases x_tn X d t tu gu tl ht (lo := 0) (hi := 9999) (by omega) (by omega) h1 (H.em a4 a5) with ⟨y, gi, h2, e1, e2, e3, e4⟩ | ⟨y, h2, e1, e2, e3, e4⟩
      · omega
      · rw [e1, bI_s, if_pos (Or.inl (by rfl))]
        rw [if_pos k1] at e2
        exact ⟨h2, rfl, e2, e3, a3.fr e4⟩
    · obtain ⟨h1, a1, a2, a3, a4, a5⟩ := x_emit X (d + 3) t tu gu tl ht h hC (v := 64 + ((tkn B L i).2.1 : Int)) (by omega) (by omega) (by omega)
      rw [ev, a1, bV_s, e_X4_readOne_22 (ht := ht), if_neg g, show (0 : Int32) = nI 0 from rfl, show (9999 : Int32) = nI 9999 from rfl]
      rcases x_tn X d t tu gu tl ht (lo := 0) (hi := 9999) (by omega) (by omega) h1 (H.em a4 a5) with ⟨y, gi, h2, e1, e2, e3, e4⟩ | ⟨y, h2, e1, e2, e3, e4⟩
      · rw [e1, bI_s, if_pos (Or.inr (by rfl))]
        exact ⟨h2, s + 1, _, rfl, e2, a2.cg ht e3, fun x hx => upC_n (by omega), (VS_num (by omega) (by rw [upC_s])).mo (by omega), by show i < i + 1; omega, by show i + 1 ≤ L; omega, by show s + 1 + tS B L i ≤ s + tS B L (i + 1); omega, a3.tr (zFs_38 ht e3 e4)⟩
      · exact absurd ⟨k1, by omega, by omega⟩ y
  rw [if_neg (fun z => k1 ((cK_n hk (by omega) (by omega) (by omega)).mp z)), if_neg k1]
  by_cases k40 : (tkn B L i).1 = 40
  · rw [if_pos ((cK_n hk (by omega) (by omega) (by omega)).mpr k40), if_pos k40]
    refine x_opn X d t tu gu tl ht ho hS (by omega) h H (fun h1 => by rw [e_X4_readOne_45 (ht := ht), if_pos rfl]) (fun sv h1 hsb ho8 hi c1 c2 c3 => ?_)
    subst hsb
    have f1 := zFs_38 ht c2 c3
    have t1 := tS_st (B := B) (L := L) (i := i) (by rw [k40]; decide)
    rw [e_X4_readOne_45 (ht := ht), if_neg one0, nI_1]
    have hR := hS.2.2.1 h1 (i + 1) s C c1 (hC.cg ht c2) (by omega) (by rw [c3 6 (by omega)]; exact h6)
    unfold parF
    cases hr : sumP (tkn B L) sv.1 (i + 1) with
    | inl q =>
      rw [hr] at hR
      obtain ⟨h2, j1, j2, j3, j4⟩ := hR
      rw [j1, bI_s, e_X4_readOne_55 (ht := ht), if_pos rfl]
      exact ⟨h2, rfl, j2, j3, f1.fr j4⟩
    | inr q =>
      rw [hr] at hR
      obtain ⟨h2, s2, C2, j1, j2, j3, j4, j5, j6, j7, j8, j9⟩ := hR
      rw [j1, bI_s, e_X4_readOne_55 (ht := ht), if_neg one0, show (41 : Int32) = nI 41 from rfl]
      show RdO t tu gu tl B L _ h i s C (if (tkn B L q.1).1 = 41 then _ else _) _
      rcases x_ts X d t tu gu tl ht (m := 41) (by omega) (by omega) (by omega) (by omega) h2 j2 with ⟨g, gi, h3, e1, e2, e3, e4⟩ | ⟨g, h3, e1, e2, e3, e4⟩
      · rw [e1, bI_s, if_neg one0, if_pos g]
        have t2 := tS_st (B := B) (L := L) (i := q.1) (by rw [g]; decide)
        exact ⟨h3, s2, C2, rfl, e2, j3.cg ht e3, j4, j5.mo (by omega), by show i < q.1 + 1; omega, by show q.1 + 1 ≤ L; omega, by show s2 + tS B L i ≤ s + tS B L (q.1 + 1); omega, (f1.tr j9).tr (zFs_38 ht e3 e4)⟩
      · rw [e1, bI_s, if_pos rfl, if_neg g]
        exact ⟨h3, rfl, e2, e3, (f1.tr j9).fr e4⟩
  rw [if_neg (fun z => k40 ((cK_n hk (by omega) (by omega) (by omega)).mp z)), if_neg k40]
  by_cases k45 : (tkn B L i).1 = 45
  · rw [if_pos ((cK_n hk (by omega) (by omega) (by omega)).mpr k45), if_pos k45]
    refine x_opn X d t tu gu tl ht ho hS (by omega) h H (fun h1 => by rw [e_X4_readOne_87 (ht := ht), if_pos rfl]) (fun sv h1 hsb ho8 hi c1 c2 c3 => ?_)
    subst hsb
    have f1 := zFs_38 ht c2 c3
    have t1 := tS_st (B := B) (L := L) (i := i) (by rw [k45]; decide)
    rw [e_X4_readOne_87 (ht := ht), if_neg one0, nI_1]
    have hR := hS.2.1 h1 (i + 1) s C c1 (hC.cg ht c2) (by omega) (by rw [c3 6 (by omega)]; exact h6)
    unfold negF
    cases hr : sv.1 (i + 1) with
    | inl q =>
      rw [hr] at hR
      obtain ⟨h2, j1, j2, j3, j4⟩ := hR
      rw [j1, bI_s, e_X4_readOne_97 (ht := ht), if_pos rfl]
      exact ⟨h2, rfl, j2, j3, f1.fr j4⟩
    | inr q =>
      rw [hr] at hR
      obtain ⟨h2, s2, C2, j1, j2, j3, j4, j5, j6, j7, j8, j9⟩ := hR
      have b1 := VS_lt j5
      have tL := tS_L B L q.1
      obtain ⟨h3, a1, a2, a3, a4, a5⟩ := x_put X (d + 2) t tu gu tl ht h2 j3 (v := 5) (by omega) (by omega) (by omega)
      rw [j1, bI_s, e_X4_readOne_97 (ht := ht), if_neg one0, show (5 : Int32) = zI 5 from rfl, a1, bI_s, if_neg one0]
      exact ⟨h3, s2 + 1, _, rfl, j2.em a4 a5, a2, fun x hx => by rw [upC_n (by omega)]; exact j4 x hx, (VS_neg (j5.cg fun x _ h2 => upC_n (by omega)) (upC_s _ _ _)).mo (by omega), by show i < q.1; omega, j7, by show s2 + 1 + tS B L i ≤ s + tS B L q.1; omega, (f1.tr j9).tr a3⟩
  rw [if_neg (fun z => k45 ((cK_n hk (by omega) (by omega) (by omega)).mp z)), if_neg k45, x_isW X (d + 3) t tu gu tl ht (by omega) h H, bI_s, e_X4_readOne_120 (ht := ht)]
  by_cases w9 : isW (tkn B L) i 9 = true
  · rw [w9, bz_t, if_neg one0, if_pos rfl]
    refine x_opn X d t tu gu tl ht ho hS (by rw [(isW_c w9).1]; decide) h H (fun h1 => by rw [e_X4_readOne_128 (ht := ht), if_pos rfl]) (fun sv h1 hsb ho8 hi c1 c2 c3 => ?_)
    subst hsb
    have f1 := zFs_38 ht c2 c3
    have t1 := tS_st (B := B) (L := L) (i := i) (by rw [(isW_c w9).1]; decide)
    rw [e_X4_readOne_128 (ht := ht), if_neg one0, nI_1]
    have hR := hS.2.1 h1 (i + 1) s C c1 (hC.cg ht c2) (by omega) (by rw [c3 6 (by omega)]; exact h6)
    unfold stpF
    cases hr : sv.1 (i + 1) with
    | inl q =>
      rw [hr] at hR
      obtain ⟨h2, j1, j2, j3, j4⟩ := hR
      rw [j1, bI_s, e_X4_readOne_138 (ht := ht), if_pos rfl]
      exact ⟨h2, rfl, j2, j3, f1.fr j4⟩
    | inr q =>
      rw [hr] at hR
      obtain ⟨h2, s2, C2, j1, j2, j3, j4, j5, j6, j7, j8, j9⟩ := hR
      have b1 := VS_lt j5
      have tL := tS_L B L q.1
      rw [j1, bI_s, e_X4_readOne_138 (ht := ht), if_neg one0]
      show RdO t tu gu tl B L _ h i s C (if isW (tkn B L) q.1 10 = true then _ else _) _
      rcases x_tw X d t tu gu tl ht (e := 10) (by omega) h2 j2 with ⟨g, gi, h3, e1, e2, e3, e4⟩ | ⟨g, h3, e1, e2, e3, e4⟩
      · have t2 := tS_st (B := B) (L := L) (i := q.1) (by rw [(isW_c g).1]; decide)
        rw [e1, bI_s, e_X4_readOne_147 (ht := ht), if_neg one0, nI_1, if_pos g]
        have f3 := (f1.tr j9).tr (zFs_38 ht e3 e4)
        have hR := hS.2.1 h3 (q.1 + 1) s2 C2 e2 (j3.cg ht e3) (by omega) (by rw [f3.2.2 6 (by omega)]; exact h6)
        cases hr2 : sv.1 (q.1 + 1) with
        | inl q2 =>
          rw [hr2] at hR
          obtain ⟨h4, m1, m2, m3, m4⟩ := hR
          rw [m1, bI_s, e_X4_readOne_157 (ht := ht), if_pos rfl]
          exact ⟨h4, rfl, m2, m3, f3.fr m4⟩
        | inr q2 =>
          rw [hr2] at hR
          obtain ⟨h4, s4, C4, m1, m2, m3, m4, m5, m6, m7, m8, m9⟩ := hR
          have b2 := VS_lt m5
          have tL2 := tS_L B L q2.1
          obtain ⟨h5, a1, a2, a3, a4, a5⟩ := x_put X (d + 2) t tu gu tl ht h4 m3 (v := 6) (by omega) (by omega) (by omega)
          rw [m1, bI_s, e_X4_readOne_157 (ht := ht), if_neg one0, show (6 : Int32) = zI 6 from rfl, a1, bI_s, if_neg one0]
          refine ⟨h5, s4 + 1, _, rfl, m2.em a4 a5, a2, fun x hx => by rw [upC_n (by omega), m4 x (by omega)]; exact j4 x hx, ?_, by show i < q2.1; omega, m7, by show s4 + 1 + tS B L i ≤ s + tS B L q2.1; omega, (f3.tr m9).tr a3⟩
          exact (VS_stp2 ((j5.mo (Nat.le_succ w)).cg fun x _ h2 => by rw [upC_n (by omega), m4 x h2]) (m5.cg fun x _ h2 => upC_n (by omega)) (upC_s _ _ _)).mo (by omega)
      · rw [e1, bI_s, e_X4_readOne_147 (ht := ht), if_pos rfl, if_neg g]
        exact ⟨h3, rfl, e2, e3, (f1.tr j9).fr e4⟩
  rw [Bool.eq_false_iff.mpr w9, bz_f, if_pos rfl, if_neg (show ¬ (false = true) by decide), x_isW X (d + 3) t tu gu tl ht (by omega) h H, bI_s, e_X4_readOne_181 (ht := ht)]
  by_cases w11 : isW (tkn B L) i 11 = true
  · rw [w11, bz_t, if_neg one0, if_pos rfl]
    refine x_opn X d t tu gu tl ht ho hS (by rw [(isW_c w11).1]; decide) h H (fun h1 => by rw [e_X4_readOne_189 (ht := ht), if_pos rfl]) (fun sv h1 hsb ho8 hi c1 c2 c3 => ?_)
    subst hsb
    have f1 := zFs_38 ht c2 c3
    have t1 := tS_st (B := B) (L := L) (i := i) (by rw [(isW_c w11).1]; decide)
    rw [e_X4_readOne_189 (ht := ht), if_neg one0, nI_1]
    have hR := hS.2.1 h1 (i + 1) s C c1 (hC.cg ht c2) (by omega) (by rw [c3 6 (by omega)]; exact h6)
    unfold seaF
    cases hr : sv.1 (i + 1) with
    | inl q =>
      rw [hr] at hR
      obtain ⟨h2, j1, j2, j3, j4⟩ := hR
      rw [j1, bI_s, e_X4_readOne_199 (ht := ht), if_pos rfl]
      exact ⟨h2, rfl, j2, j3, f1.fr j4⟩
    | inr q =>
      rw [hr] at hR
      obtain ⟨h2, s2, C2, j1, j2, j3, j4, j5, j6, j7, j8, j9⟩ := hR
      have b1 := VS_lt j5
      have tL := tS_L B L q.1
      obtain ⟨h3, a1, a2, a3, a4, a5⟩ := x_put X (d + 2) t tu gu tl ht h2 j3 (v := 7) (by omega) (by omega) (by omega)
      rw [j1, bI_s, e_X4_readOne_199 (ht := ht), if_neg one0, show (7 : Int32) = zI 7 from rfl, a1, bI_s, if_neg one0]
      exact ⟨h3, s2 + 1, _, rfl, j2.em a4 a5, a2, fun x hx => by rw [upC_n (by omega)]; exact j4 x hx, (VS_sea (j5.cg fun x _ h2 => upC_n (by omega)) (upC_s _ _ _)).mo (by omega), by show i < q.1; omega, j7, by show s2 + 1 + tS B L i ≤ s + tS B L q.1; omega, (f1.tr j9).tr a3⟩
  rw [Bool.eq_false_iff.mpr w11, bz_f, if_pos rfl, if_neg (show ¬ (false = true) by decide), x_isW X (d + 3) t tu gu tl ht (by omega) h H, bI_s, e_X4_readOne_223 (ht := ht)]
  by_cases w12 : isW (tkn B L) i 12 = true
  · rw [w12, bz_t, if_neg one0, if_pos rfl]
    refine x_opn X d t tu gu tl ht ho hS (by rw [(isW_c w12).1]; decide) h H (fun h1 => by rw [e_X4_readOne_231 (ht := ht), if_pos rfl]) (fun sv h1 hsb ho8 hi c1 c2 c3 => ?_)
    subst hsb
    have f1 := zFs_38 ht c2 c3
    have t1 := tS_st (B := B) (L := L) (i := i) (by rw [(isW_c w12).1]; decide)
    rw [e_X4_readOne_231 (ht := ht), if_neg one0, nI_1]
    have hR := hS.2.2.2.2 h1 i s C c1 (hC.cg ht c2) hs (by have := tS_w (by omega) w12; have e2 : (txN 12).length = 2 := rfl; omega) (by rw [c3 6 (by omega)]; exact h6)
    cases hr : choF (tkn B L) sv i with
    | inl q =>
      rw [hr] at hR
      obtain ⟨h2, j1, j2, j3, j4⟩ := hR
      rw [j1, bI_s, if_pos rfl]
      exact ⟨h2, rfl, j2, j3, f1.fr j4⟩
    | inr q =>
      rw [hr] at hR
      obtain ⟨h2, s2, C2, j1, j2, j3, j4, j5, j6, j7, j8, j9⟩ := hR
      rw [j1, bI_s, if_neg one0]
      exact ⟨h2, s2, C2, rfl, j2, j3, j4, j5, j6, j7, j8, f1.tr j9⟩
  rw [Bool.eq_false_iff.mpr w12, bz_f, if_pos rfl, if_neg (show ¬ (false = true) by decide)]
  have hR := x_name X d t tu gu tl ht (w := w + 4) hlw hL h H hC hs h6
  revert hR
  generalize (if (tkn B L i).1 = 2 ∧ gNam (tkn B L i).2.1 < 9 then (if gOf lw (gNam (tkn B L i).2.1) = true then Sum.inr (i + 1, [(1, gNam (tkn B L i).2.1)]) else Sum.inl (5, i)) else Sum.inl (1, i) : PR) = pr
  intro hR
  cases pr with
  | inl q =>
    obtain ⟨h2, j1, j2, j3, j4⟩ := hR
    rw [j1, bI_s, if_pos (Or.inl rfl)]
    exact ⟨h2, rfl, j2, j3, j4⟩
  | inr q =>
    obtain ⟨h2, s2, C2, j1, j2⟩ := hR
    rw [j1, bI_s, if_pos (Or.inr rfl)]
    exact ⟨h2, s2, C2, rfl, j2⟩
end ON
