/-! THE WHOLE RELATION, with what is made late; each call of the law keeps it -/
def Ful (tu gu : Option Nat) (tl : List SC) (h : DT) : Prop := Rel h ∧ Late tu gu tl ∧ ∀ b, tu = some b → TuOk h b
def OpW (X : XS) (tx tu gu : Option Nat) (tl : List SC) (h : DT) (yx : Nat) (ax : List AV) (ym : Nat) (am : List AV) : Prop :=
  ∃ v tx' tu' gu' tl' h1 h2, cal X 100 yx ax (SK tx tu gu tl, h) = some (some v, (SK tx' tu' gu' tl', h1)) ∧ cal X 100 ym am (SK tx' tu' gu' tl', h1) = some (some v, (SK tx' tu' gu' tl', h2)) ∧ Ful tu' gu' tl' h2
theorem det {r : RR} {v v' : AV} {S S' : List SC} {h h' : DT} (a : r = some (some v, (S, h))) (b : r = some (some v', (S', h'))) : h = h' ∧ S = S' ∧ v = v' := by
  rw [a] at b
  injection b with b
  injection b with b1 b2
  injection b1 with b1
  injection b2 with b2 b3
  exact ⟨b3, b2, b1⟩
theorem TuOk.cg {h h2 : DT} {b : Nat} (H : TuOk h b) (e : ∀ c, b ≤ c → c ≤ b + 4 → gF h2 c = gF h c ∧ gA h2 c = gA h c) : TuOk h2 b := by
  unfold TuOk TbOk FaOk
  rw [(e b (by omega) (by omega)).1, (e (b + 2) (by omega) (by omega)).2, (e (b + 3) (by omega) (by omega)).2, (e (b + 4) (by omega) (by omega)).2]
  exact H
theorem Ful.kp {tu gu : Option Nat} {tl : List SC} {h h2 : DT} (H : Ful tu gu tl h) (R : Rel h2) (e : ∀ c, 95 ≤ c → gF h2 c = gF h c ∧ gA h2 c = gA h c) : Ful tu gu tl h2 := by
  refine ⟨R, H.2.1, fun b hb => (H.2.2 b hb).cg fun c c1 c2 => e c ?_⟩
  have L := H.2.1
  rw [hb] at L
  have := L.t.b95
  omega
section FU
variable (X : XS) (tx tu gu : Option Nat) (tl : List SC)
theorem w_op {h : DT} {yx ym : Nat} {ax am : List AV} (H : Ful tu gu tl h) (o : ∀ n t k TT, RA h (gA h 73) n t k → LR h t TT → gF h 38 0 = gF h 72 4 → OpA X tx tu gu tl h n t k yx ax ym am) : OpW X tx tu gu tl h yx ax ym am := by
  obtain ⟨n, t, k, n', t', k', L, TT, hA, hI, ht, hP, hF, hL⟩ := id H.1
  have o := o n t k TT hA hL (hP.1.trans hP.2.1.symm)
  obtain ⟨v, h1, h2, e1, e2, R⟩ := Rel.op hI ht hP hF hL o
  obtain ⟨v', h1', h2', n'', k'', f1, f2, f3, f4, _⟩ := o
  obtain ⟨d1, _, _⟩ := det e1 f1
  rw [← d1] at f2 f3 f4
  obtain ⟨d2, _, _⟩ := det e2 f2
  rw [← d2] at f4
  exact ⟨v, tx, tu, gu, tl, h1, h2, e1, e2, H.kp R fun c hc => ⟨(smF f4.1 (by omega)).trans (smF f3 (by unfold isXl isXa; omega)), (smA f4.1 (by omega)).trans (smA f3 (by unfold isXl isXa; omega))⟩⟩
theorem w_image {h : DT} (H : Ful tu gu tl h) : OpW X tx tu gu tl h 143 [vP (some 0)] 297 [vP (some 72)] := by
  obtain ⟨n, t, k, n', t', k', L, TT, hA, hI, ht, hP, hF, hL⟩ := id H.1
  obtain ⟨v, h1, h2, e1, e2, R⟩ := rel_image X tx tu gu tl h H.1
  obtain ⟨v', h1', h2', f1, f2, f3, f4, _⟩ := op_image X tx tu gu tl h hA
  obtain ⟨d1, _, _⟩ := det e1 f1
  rw [← d1] at f2 f3 f4
  obtain ⟨d2, _, _⟩ := det e2 f2
  rw [← d2] at f4
  exact ⟨v, tx, tu, gu, tl, h1, h2, e1, e2, H.kp R fun c hc => ⟨(smF f4 (by omega)).trans (smF f3 (by omega)), (smA f4 (by omega)).trans (smA f3 (by omega))⟩⟩
theorem w_back {h : DT} (H : Ful tu gu tl h) : OpW X tx tu gu tl h 144 [vP (some 0)] 298 [vP (some 72)] := by
  obtain ⟨n, t, k, n', t', k', L, TT, hA, hI, ht, hP, hF, hL⟩ := id H.1
  obtain ⟨v, h1, h2, e1, e2, R⟩ := rel_back X tx tu gu tl h H.1
  obtain ⟨v', h1', h2', f1, f2, f3, f4, _⟩ := op_back X tx tu gu tl h hI
  obtain ⟨d1, _, _⟩ := det e1 f1
  rw [← d1] at f2 f3 f4
  obtain ⟨d2, _, _⟩ := det e2 f2
  rw [← d2] at f4
  exact ⟨v, tx, tu, gu, tl, h1, h2, e1, e2, H.kp R fun c hc => ⟨(smF f4 (by omega)).trans (smF f3 (by omega)), (smA f4 (by omega)).trans (smA f3 (by omega))⟩⟩
theorem w_feed {h : DT} (H : Ful tu gu tl h) (x1 x2 x3 x4 x5 : Int32) : OpW X tx tu gu tl h 101 [vP (some 0), vI x1, vI x2, vI x3, vI x4, vI x5] 177 [vP (some 72), vI x1, vI x2, vI x3, vI x4, vI x5] := by
  obtain ⟨n, t, k, n', t', k', L, TT, hA, hI, ht, hP, hF, hL⟩ := id H.1
  obtain ⟨v, h1, h2, e1, e2, R⟩ := rel_feed X tx tu gu tl h H.1 x1 x2 x3 x4 x5
  obtain ⟨v', h1', h2', L', f1, f2, f3, _, f4, _⟩ := op_feed X tx tu gu tl h hP x1 x2 x3 x4 x5
  obtain ⟨d1, _, _⟩ := det e1 f1
  rw [← d1] at f2 f3 f4
  obtain ⟨d2, _, _⟩ := det e2 f2
  rw [← d2] at f4
  exact ⟨v, tx, tu, gu, tl, h1, h2, e1, e2, H.kp R fun c hc => ⟨(smF f4 (by omega)).trans (smF f3 (by omega)), (smA f4 (by omega)).trans (smA f3 (by omega))⟩⟩
theorem w_end {h : DT} (H : Ful tu gu tl h) (x : Int32) : OpW X tx tu gu tl h 102 [vP (some 0), vI x] 178 [vP (some 72), vI x] := by
  obtain ⟨n, t, k, n', t', k', L, TT, hA, hI, ht, hP, hF, hL⟩ := id H.1
  obtain ⟨v, h1, h2, e1, e2, R⟩ := rel_end X tx tu gu tl h H.1 x
  obtain ⟨v', h1', h2', L', f1, f2, f3, _, f4, _⟩ := op_end X tx tu gu tl h hP x
  obtain ⟨d1, _, _⟩ := det e1 f1
  rw [← d1] at f2 f3 f4
  obtain ⟨d2, _, _⟩ := det e2 f2
  rw [← d2] at f4
  exact ⟨v, tx, tu, gu, tl, h1, h2, e1, e2, H.kp R fun c hc => ⟨(smF f4 (by omega)).trans (smF f3 (by omega)), (smA f4 (by omega)).trans (smA f3 (by omega))⟩⟩
theorem w_fault {h : DT} (H : Ful tu gu tl h) (x : Int32) : OpW X tx tu gu tl h 104 [vP (some 0), vI x] 215 [vP (some 72), vI x] := by
  obtain ⟨n, t, k, n', t', k', L, TT, hA, hI, ht, hP, hF, hL⟩ := id H.1
  obtain ⟨v, f1, f2⟩ := op_fault X tx tu gu tl h hF x
  exact ⟨v, tx, tu, gu, tl, h, h, f1, f2, H⟩
theorem w_text {h : DT} (H : Ful tu gu tl h) : OpW X tx tu gu tl h 103 [vP (some 0)] 214 [vP (some 72)] := by
  obtain ⟨n, t, k, n', t', k', L, TT, hA, hI, ht, hP, hF, hL⟩ := id H.1
  obtain ⟨B, cB, kB⟩ := hP.cb
  obtain ⟨a1, a2, a3⟩ := hA.1.2.1
  have x9 : gF h 9 0 = nI t := hA.2.2.2.1.trans a1
  obtain ⟨v, tx', h1, h2, e1, e2, R⟩ := rel_text X tx tu gu tl h H.1
  refine ⟨v, tx', tu, gu, tl, h1, h2, e1, e2, H.kp R ?_⟩
  by_cases g : t = 4
  · have f1 : cal X 100 103 [vP (some 0)] (SK tx tu gu tl, h) = some (some (vI (-1)), (SK tx tu gu tl, h)) := by
      rw [c_X10_text, e_X10_text_0, x9, if_neg (show ¬ nI t < 4 from fun z => by have := (nI_ltI (a := t) (b := 4) (by omega) (by omega)).mp z; omega)]
    have f2 : cal X 100 214 [vP (some 72)] (SK tx tu gu tl, h) = some (some (vI (-1)), (SK tx tu gu tl, h)) := by
      rw [c_X11_text, e_X11_text_0, a1, if_pos (show nI t = 4 by rw [g]; rfl)]
    obtain ⟨d1, d2, _⟩ := det e1 f1
    rw [d1, d2] at e2
    obtain ⟨d3, _, _⟩ := det e2 f2
    rw [d3]
    exact fun c _ => ⟨rfl, rfl⟩
  have t4 : t < 4 := by omega
  have lt : txc t = 52 + 5 * t := rfl
  have hx := x_text0 X tx tu gu tl h cB x9 t4
  cases hr : txP (tkn B L) 25 0 T0 with
  | inl q =>
    rw [hr] at hx
    obtain ⟨g1, j1, j2, j3, j4, j5, j6⟩ := hx
    have hk := k_text0 X (some (txc t)) tu gu tl (B := B) (L := L) (j := t) t4 g1 (kB.cg (by rw [smF j6 (by omega)]) (smA j6 (by omega))) (by rw [smA j6 (by omega)]; exact a1)
    rw [hr] at hk
    obtain ⟨g2, f1, f2, f3, f4, f5, f6, f7⟩ := hk
    obtain ⟨d1, d2, _⟩ := det e1 j1
    rw [d1, d2] at e2
    obtain ⟨d3, _, _⟩ := det e2 f1
    rw [d3]
    exact fun c hc => ⟨(smF f6 (by omega)).trans (smF j6 (by omega)), (smA f6 (by omega)).trans (smA j6 (by omega))⟩
  | inr q =>
    rw [hr] at hx
    obtain ⟨g1, s, C, j1, j2, j3, j4, j5, j6, j7, j8, j9, j10⟩ := hx
    have hk := k_text0 X (some (txc t)) tu gu tl (B := B) (L := L) (j := t) t4 g1 (kB.cg (by rw [smF j7 (by omega)]) (smA j7 (by omega))) (by rw [smA j7 (by omega)]; exact a1)
    rw [hr] at hk
    obtain ⟨g2, n0, f1, f2, f3, f4, f5, f6, f7, f8, f9⟩ := hk
    obtain ⟨d1, d2, _⟩ := det e1 j1
    rw [d1, d2] at e2
    obtain ⟨d3, _, _⟩ := det e2 f1
    rw [d3]
    exact fun c hc => ⟨(smF f7 (by omega)).trans (smF j7 (by omega)), (smA f7 (by omega)).trans (smA j7 (by omega))⟩
theorem w_g {h : DT} {yx ym : Nat} {ax am : List AV} (H : Ful tu gu tl h) (o : OpG X tx tu gu tl h yx ax ym am) : OpW X tx tu gu tl h yx ax ym am := by
  obtain ⟨v, gu', tl', h1, h2, e1, e2, e3, e4, e5⟩ := o
  exact ⟨v, tx, tu, gu', tl', h1, h2, e1, e2, e4, e3, fun b hb => (H.2.2 b hb).cg (e5 b hb)⟩
theorem w_byTurns {h : DT} (H : Ful tu gu tl h) (x : Int32) : OpW X tx tu gu tl h 121 [vP (some 0), vI x] 265 [vP (some 72), vI x] := by
  obtain ⟨v, b, tl', h1, h2, e1, e2, e3, e4, e5⟩ := op_byTurns X tx tu gu tl H.2.1 h H.1 H.2.2 x
  refine ⟨v, tx, some b, gu, tl', h1, h2, e1, e2, e4, e3, fun b' hb => ?_⟩
  injection hb with hb
  rw [← hb]
  exact e5
end FU
