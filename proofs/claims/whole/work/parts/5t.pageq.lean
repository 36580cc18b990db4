theorem RA.wd {h : DT} {n t k : Nat} (H : RA h (gA h 73) n t k) : ∃ v w, w ≤ 10 ∧ gF h 9 3 = nI w ∧ XWd h v w ∧ KWd h v w ∧ ∀ j, j < w → 1 ≤ v j := by
  obtain ⟨w, w1, w2, w3⟩ := H.1.2.2.2.2.1
  have hv : ∀ j, j < w → gA h 73 (38 + j) = nI (gA h 73 (38 + j)).toNatClampNeg ∧ (gA h 73 (38 + j)).toNatClampNeg ≤ 20 ∧ 1 ≤ (gA h 73 (38 + j)).toNatClampNeg := fun j hj => by
    obtain ⟨u, u1, u2, u3⟩ := w3 j hj
    rw [u3, clI (by omega)]
    exact ⟨rfl, u2, u1⟩
  refine ⟨fun j => (gA h 73 (38 + j)).toNatClampNeg, w, w2, H.2.2.2.2.2.2.1.trans w1, fun j hj => ⟨?_, (hv j hj).2.1⟩, ⟨w1, fun j hj => ⟨(hv j hj).1, (hv j hj).2.1⟩⟩, fun j hj => (hv j hj).2.2⟩
  rw [H.2.2.2.2.2.2.2.2.2.2.1 j (by omega)]
  exact (hv j hj).1
theorem bel_t {n j : Nat} (hn : n ≤ 100) (hj : j < n) : (decide (0 ≤ nI j) && decide (nI j ≤ nI n - 1)) = true := by
  refine in_dec ⟨nI_nn (by omega), ?_⟩
  rw [show nI n - 1 = nI (n - 1) from subI (a := n) (b := 1) (by omega)]
  exact nI_le (by omega) (by omega)
theorem bel_f {x : Int32} {n : Nat} (hn : n ≤ 100) (hx : x < 0 ∨ nI n ≤ x) : (decide (0 ≤ x) && decide (x ≤ nI n - 1)) = false := by
  refine in_decf (fun ⟨h1, h2⟩ => ?_)
  rw [i32le] at h1 h2
  rw [nIm1 (by omega)] at h2
  rcases hx with hx | hx
  · rw [i32lt] at hx
    omega
  · rw [i32le, nIt (by omega)] at hx
    omega
theorem rg_cs (x : Int32) (lo hi : Nat) (hh : lo ≤ hi ∧ hi < 1000) : (∃ j, lo ≤ j ∧ j ≤ hi ∧ x = nI j ∧ (decide (nI lo ≤ x) && decide (x ≤ nI hi)) = true) ∨ (decide (nI lo ≤ x) && decide (x ≤ nI hi)) = false := by
  by_cases g : nI lo ≤ x ∧ x ≤ nI hi
  · have h0 : (0 : Int32) ≤ x := by
      have h1 := nI_nn (a := lo) (by omega)
      have h2 := g.1
      rw [i32le] at h1 h2 ⊢
      omega
    obtain ⟨j, hj, rfl⟩ := in_nI h0 g.2 (by omega)
    exact Or.inl ⟨j, (nI_leI (by omega) (by omega)).mp g.1, hj, rfl, in_dec g⟩
  · exact Or.inr (in_decf g)
def pgV (t : PT) (y : Nat) : Int32 := match t with
  | none => -1
  | some (c, l, _) => if y = 0 then nI c else nI l
def pth (T : Nat → PT) : Nat → Nat → Nat
  | 0, x => x
  | c + 1, x => match T x with
    | none => x
    | some (_, _, e) => pth T c e
section PQ
variable (X : XS) (d : Nat) (tx tu gu : Option Nat) (tl : List SC)
theorem k_page1 {v : Nat → Nat} {W w y : Nat} {T : Nat → PT} (hw : w ≤ 10) (hW : W ≤ 60) (hW1 : 1 ≤ W) (hy : y ≤ 1) (H : TOk v W w T) (h : DT) (hK : KWd h v w) : ∃ h', cal X (d + 3) 274 [vP (some 72), vI (nI W), vI (nI y)] (SK tx tu gu tl, h) = some (some (vI (pgV (T 0) y)), (SK tx tu gu tl, h')) ∧ KZ h h' ∧ KTb h' w T 0 := by
  obtain ⟨h1, k1, k2, k3⟩ := k_layPage X d tx tu gu tl hw hW H h hK
  refine ⟨h1, ?_, k2, k3⟩
  have dW : (decide (1 ≤ nI W) && decide (nI W ≤ 60)) = true := in_dec ⟨nI_le (a := 1) (by omega) (by omega), nI_le (b := 60) (by omega) (by omega)⟩
  have dy : (decide (0 ≤ nI y) && decide (nI y ≤ 1)) = true := in_dec ⟨nI_nn (by omega), nI_le (b := 1) (by omega) (by omega)⟩
  rw [c_X11_page, e_X11_page_0, k_isIn, dW, bz_t, bI_s, if_neg one0, k_isIn, dy, bz_t, bI_s, e_X11_page_16, if_neg one0, k1, bV_s, e_X11_page_26]
  have kc := k3 0 (by omega) (by omega)
  cases hT : T 0 with
  | none =>
    rw [hT] at kc
    rw [show gA h1 88 0 = nI 1000000 from kc, if_pos (show nI 1000000 = 1000000 from rfl)]
    rfl
  | some q =>
    obtain ⟨c, l, e⟩ := q
    rw [hT] at kc
    have hb := H.b hW w 0 (by omega) _ hT
    simp only at hb
    obtain ⟨x1, x2, -⟩ := kc
    rw [x1, x2, if_neg (show ¬ nI c = 1000000 from fun z => absurd ((nI_eq (a := c) (b := 1000000) (by omega) (by omega)).mp z) (by omega))]
    show (if nI y = 0 then _ else _) = some (some (vI (if y = 0 then nI c else nI l)), (SK tx tu gu tl, h1))
    by_cases g : y = 0
    · rw [if_pos (show nI y = 0 by rw [g]; rfl), if_pos g]
    · rw [if_neg (nI_ne0 (by omega) (by omega)), if_neg g]
theorem op_page {n t k : Nat} (h : DT) (H : RA h (gA h 73) n t k) (x1 x2 : Int32) : OpA X tx tu gu tl h n t k 125 [vP (some 0), vI x1, vI x2] 274 [vP (some 72), vI x1, vI x2] := by
  obtain ⟨v, w, hw, h9, xW, kW, -⟩ := H.wd
  rcases rg_cs x1 1 60 (by omega) with ⟨W, w1, w2, rfl, hd⟩ | hd
  · replace hd : (decide (1 ≤ nI W) && decide (nI W ≤ 60)) = true := hd
    have hT := tb_ok v W w
    obtain ⟨h1, a1, a2, a3⟩ := x_break X 97 tx tu gu tl hw w2 hT h h9 xW
    have kW1 : KWd h1 v w := by
      unfold KWd
      rw [smA a2 (by omega)]
      exact kW
    rcases rg_cs x2 0 1 (by omega) with ⟨y, y1, y2, rfl, hy⟩ | hy
    · obtain ⟨h2, b1, b2, b3⟩ := k_page1 X 97 tx tu gu tl hw w2 w1 y2 hT h1 kW1
      refine OpA_z (v := vI (pgV (tb v W w w 0) y)) H ?_ a2 b1 b2
      rw [c_X10_page, e_X10_page_0, x_within, hd, bz_t, bI_s, e_X10_page_7, if_neg one0, a1, bI_s, e_X10_page_22]
      cases hq : tb v W w w 0 with
      | none =>
        rw [show (none : PT).isSome = false from rfl, bz_f, if_pos rfl]
        rfl
      | some q =>
        rw [hq] at a3
        obtain ⟨z1, z2, -⟩ := a3 rfl 0 (by omega) (by omega) q.1 q.2.1 q.2.2 hq
        rw [show (some q).isSome = true from rfl, bz_t, if_neg one0, z1, z2]
        obtain rfl | rfl : y = 0 ∨ y = 1 := by omega
        · rw [if_pos (show nI 0 = 0 from rfl)]
          rfl
        · rw [if_neg (show ¬ nI 1 = 0 from one0), if_pos (show nI 1 = 1 from rfl)]
          rfl
    · replace hy : (decide (0 ≤ x2) && decide (x2 ≤ 1)) = false := hy
      have n0 : x2 ≠ 0 := fun z => by rw [z] at hy; exact absurd hy (by decide)
      have n1 : x2 ≠ 1 := fun z => by rw [z] at hy; exact absurd hy (by decide)
      refine OpA_z (v := vI (-1)) (h2 := h1) H ?_ a2 ?_ (smX.rf _ h1)
      · rw [c_X10_page, e_X10_page_0, x_within, hd, bz_t, bI_s, e_X10_page_7, if_neg one0, a1, bI_s, e_X10_page_22, if_neg n0, if_neg n1]
        cases (tb v W w w 0).isSome with
        | true => rw [bz_t, if_neg one0]
        | false => rw [bz_f, if_pos rfl]
      · rw [c_X11_page, e_X11_page_0, k_isIn, hd, bz_t, bI_s, if_neg one0, k_isIn, hy, bz_f, bI_s, e_X11_page_16, if_pos rfl]
  · replace hd : (decide (1 ≤ x1) && decide (x1 ≤ 60)) = false := hd
    refine OpA_id (v := vI (-1)) H ?_ ?_
    · rw [c_X10_page, e_X10_page_0, x_within, hd, bz_f, bI_s, e_X10_page_7, if_pos rfl]
    · rw [c_X11_page, e_X11_page_0, k_isIn, hd, bz_f, bI_s, if_pos rfl]
theorem x_pth {v : Nat → Nat} {W w k' : Nat} {T : Nat → PT} (hw : w ≤ 10) (hW : W ≤ 60) (H : TOk v W w T) (h : DT) (hX : XTb h w T 0) (hk : k' < 100) : ∀ (c j x f : Nat) (q : Nat × Nat × Nat), j + c = k' → x ≤ w → T x = some q → c ≤ q.2.1 → c + 1 ≤ f → m_X3_beginning X d f 22 [(0, vP (some 43)), (1, vI (nI k')), (2, vI (nI x)), (3, vI (nI j))] [] (SK tx tu gu tl, h) = some (some (vI (nI (pth T c x))), (SK tx tu gu tl, h))
  | 0, j, x, f, q, hj, hx, hq, hc, hf => by
    obtain ⟨f, rfl⟩ : ∃ g, f = g + 1 := ⟨f - 1, by omega⟩
    rw [e_X3_beginning_22, if_pos (nI_le (by omega) (by omega))]
    rfl
  | c + 1, j, x, f, q, hj, hx, hq, hc, hf => by
    obtain ⟨f, rfl⟩ : ∃ g, f = g + 1 := ⟨f - 1, by omega⟩
    have hne : x ≠ w := fun z => by
      rw [z, H.1] at hq
      cases hq
      simp only at hc
      omega
    obtain ⟨b1, b2, b3, b4, c', l', e', b5, b6⟩ := (H.b hW (w - x) x (by omega) q hq).2.2 (by omega)
    have := (hX x (by omega) hx q.1 q.2.1 q.2.2 hq).2.2 (by omega)
    rw [e_X3_beginning_22, if_neg (nI_ge (by omega) (by omega)), inbI (by omega) (by omega), this, nI_1, x_pth hw hW H h hX hk c (j + 1) q.2.2 f _ (by omega) b4 b5 (by simp only; omega) (by omega)]
    show _ = some (some (vI (nI (match T x with | none => x | some (_, _, e) => pth T c e))), (SK tx tu gu tl, h))
    rw [hq]
theorem k_pth {v : Nat → Nat} {W w k' : Nat} {T : Nat → PT} (hw : w ≤ 10) (hW : W ≤ 60) (H : TOk v W w T) (h : DT) (hX : KTb h w T 0) (hk : k' < 100) : ∀ (c j x f : Nat) (q : Nat × Nat × Nat), j + c = k' → x ≤ w → T x = some q → c ≤ q.2.1 → c + 1 ≤ f → m_X11_line X d f 33 [(0, vP (some 72)), (2, vI (nI k')), (3, vI (nI x)), (4, vI (nI j))] [] (SK tx tu gu tl, h) = some (some (vI (nI (pth T c x))), (SK tx tu gu tl, h))
  | 0, j, x, f, q, hj, hx, hq, hc, hf => by
    obtain ⟨f, rfl⟩ : ∃ g, f = g + 1 := ⟨f - 1, by omega⟩
    rw [e_X11_line_33, if_pos (nI_le (by omega) (by omega))]
    rfl
  | c + 1, j, x, f, q, hj, hx, hq, hc, hf => by
    obtain ⟨f, rfl⟩ : ∃ g, f = g + 1 := ⟨f - 1, by omega⟩
    have hne : x ≠ w := fun z => by
      rw [z, H.1] at hq
      cases hq
      simp only at hc
      omega
    obtain ⟨b1, b2, b3, b4, c', l', e', b5, b6⟩ := (H.b hW (w - x) x (by omega) q hq).2.2 (by omega)
    have kc := hX x (by omega) hx
    rw [hq] at kc
    have := kc.2.2 (by omega)
    rw [e_X11_line_33, if_neg (nI_ge (by omega) (by omega)), inbI (by omega) (by omega), this, addI, nI_1, show x + (q.2.2 - x) = q.2.2 by omega, k_pth hw hW H h hX hk c (j + 1) q.2.2 f _ (by omega) b4 b5 (by simp only; omega) (by omega)]
    show _ = some (some (vI (nI (match T x with | none => x | some (_, _, e) => pth T c e))), (SK tx tu gu tl, h))
    rw [hq]
theorem op_line {n t k : Nat} (h : DT) (H : RA h (gA h 73) n t k) (x1 x2 : Int32) : OpA X tx tu gu tl h n t k 126 [vP (some 0), vI x1, vI x2] 275 [vP (some 72), vI x1, vI x2] := by
  obtain ⟨v, w, hw, h9, xW, kW, -⟩ := H.wd
  rcases rg_cs x1 1 60 (by omega) with ⟨W, w1, w2, rfl, hd⟩ | hd
  · replace hd : (decide (1 ≤ nI W) && decide (nI W ≤ 60)) = true := hd
    have hT := tb_ok v W w
    obtain ⟨h1, a1, a2, a3⟩ := x_break X 97 tx tu gu tl hw w2 hT h h9 xW
    have kW1 : KWd h1 v w := by
      unfold KWd
      rw [smA a2 (by omega)]
      exact kW
    obtain ⟨h2, b1, b2, b3⟩ := k_page1 X 96 tx tu gu tl (y := 1) hw w2 w1 (by omega) hT h1 kW1
    replace b1 : cal X 99 274 [vP (some 72), vI (nI W), vI 1] (SK tx tu gu tl, h1) = some (some (vI (pgV (tb v W w w 0) 1)), (SK tx tu gu tl, h2)) := b1
    have kc := b3 0 (by omega) (by omega)
    cases hq : tb v W w w 0 with
    | none =>
      rw [hq] at a1 b1
      refine OpA_z (v := vI (-1)) H ?_ a2 ?_ b2
      · rw [c_X10_line, e_X10_line_0, x_within, hd, bz_t, bI_s, e_X10_line_7, if_neg one0, a1, bI_s, e_X10_line_22, show (none : PT).isSome = false from rfl, bz_f, if_pos rfl]
      · rw [c_X11_line, e_X11_line_0, b1, bI_s, e_X11_line_6, if_pos (show pgV none 1 = -1 from rfl)]
    | some q =>
      rw [hq] at a1 a3 b1 kc
      obtain ⟨z1, z2, -⟩ := a3 rfl 0 (by omega) (by omega) q.1 q.2.1 q.2.2 hq
      have hb := hT.b w2 w 0 (by omega) _ hq
      have e1 : pgV (some q) 1 = nI q.2.1 := rfl
      have k2 : gA h2 89 0 = nI q.2.1 := kc.2.1
      rcases per_cs x2 (n := q.2.1) (by omega) with ⟨j, hj, rfl⟩ | hx
      · have dj := bel_t (n := q.2.1) (j := j) (by omega) hj
        refine OpA_z (v := vI (nI (pth (tb v W w w) j 0))) H ?_ a2 ?_ b2
        · rw [c_X10_line, e_X10_line_0, x_within, hd, bz_t, bI_s, e_X10_line_7, if_neg one0, a1, bI_s, e_X10_line_22, show (some q).isSome = true from rfl, bz_t, if_neg one0, c_X3_beginning, e_X3_beginning_0, x_within, z2, dj, bz_t, bI_s, if_neg one0]
          rw [show (0 : Int32) = nI 0 from rfl, x_pth X 98 tx tu gu tl hw w2 hT h1 (a3 rfl) (k' := j) (by omega) j 0 0 999999 q (by omega) (by omega) hq (by omega) (by omega), bI_s]
        · rw [c_X11_line, e_X11_line_0, b1, bI_s, e_X11_line_6, e1, if_neg (nIneg (by omega)), k_isIn, k2, dj, bz_t, bI_s, if_neg one0]
          exact k_pth X 99 tx tu gu tl hw w2 hT h2 b3 (k' := j) (by omega) j 0 0 _ q (by omega) (by omega) hq (by omega) (by omega)
      · have dj := bel_f (n := q.2.1) (by omega) hx
        refine OpA_z (v := vI (-1)) H ?_ a2 ?_ b2
        · rw [c_X10_line, e_X10_line_0, x_within, hd, bz_t, bI_s, e_X10_line_7, if_neg one0, a1, bI_s, e_X10_line_22, show (some q).isSome = true from rfl, bz_t, if_neg one0, c_X3_beginning, e_X3_beginning_0, x_within, z2, dj, bz_f, bI_s, if_pos rfl, bI_s]
        · rw [c_X11_line, e_X11_line_0, b1, bI_s, e_X11_line_6, e1, if_neg (nIneg (by omega)), k_isIn, k2, dj, bz_f, bI_s, if_pos rfl]
  · replace hd : (decide (1 ≤ x1) && decide (x1 ≤ 60)) = false := hd
    refine OpA_id (v := vI (-1)) H ?_ ?_
    · rw [c_X10_line, e_X10_line_0, x_within, hd, bz_f, bI_s, e_X10_line_7, if_pos rfl]
    · rw [c_X11_line, e_X11_line_0, c_X11_page, e_X11_page_0, k_isIn, hd, bz_f, bI_s, if_pos rfl, bI_s, e_X11_line_6, if_pos rfl]
end PQ
