/-! THE LAW: a step of each kind -/
def LwN (X : XS) (i P : Nat) (tx tu gu : Option Nat) (tl : List SC) (h : DT) : Prop := ∃ tx' tu' gu' tl' h2, Ful tu' gu' tl' h2 ∧ ∀ f, m_L_law X 100 (f + 2) P [(0, vE 101), (1, vP (some 0)), (2, vP (some 72)), (3, vI (nI i))] [] (SK tx tu gu tl, h) = m_L_law X 100 f 18 [(0, vE 101), (1, vP (some 0)), (2, vP (some 72)), (3, vI (nI (i + 6)))] [] (SK tx' tu' gu' tl', h2)
def LwD (X : XS) (i Q y : Nat) (tx tu gu : Option Nat) (tl : List SC) (h : DT) : Prop := ∃ tx' tu' gu' tl' h2, Ful tu' gu' tl' h2 ∧ ∀ f, (bI (cal X 100 y [vP (some 0)] (SK tx tu gu tl, h)) fun r H => m_L_law X 100 (f + 1) Q [(0, vE 101), (1, vP (some 0)), (2, vP (some 72)), (3, vI (nI i))] [vI r] H) = m_L_law X 100 f 18 [(0, vE 101), (1, vP (some 0)), (2, vP (some 72)), (3, vI (nI (i + 6)))] [] (SK tx' tu' gu' tl', h2)
theorem lg_self (z : Int64) : lg_cmp z z = 0 := by
  unfold lg_cmp
  simp
section LS
variable (X : XS) (tx tu gu : Option Nat) (tl : List SC)
theorem ls_0 {h : DT} (H : Ful tu gu tl h) {i : Nat} (hi : i + 6 ≤ X.1) (hX : X.1 ≤ 3072) : LwN X i 236 tx tu gu tl h := by
  have q1 : nI i + 1 = nI (i + 1) := addI i 1
  have q2 : nI i + 2 = nI (i + 2) := addI i 2
  have b1 : ∀ K : Nat → RR, inb (nI i + 1) X.1 K = K (i + 1) := fun K => by rw [q1]; exact inbI (by omega) (by omega)
  have b2 : ∀ K : Nat → RR, inb (nI i + 2) X.1 K = K (i + 2) := fun K => by rw [q2]; exact inbI (by omega) (by omega)
  have o : OpW X tx tu gu tl h 99 [vP (some 0), vI (X.2 (i + 1)), vI (X.2 (i + 2))] 172 [vP (some 72), vI (X.2 (i + 1)), vI (X.2 (i + 2))] := w_op X tx tu gu tl H (fun n t k TT hA hL hl => by apply op_person <;> assumption)
  obtain ⟨v, tx', tu', gu', tl', h1, h2, e1, e2, F⟩ := o
  obtain ⟨z, rfl⟩ := cal_vI t_X10_person (by decide) e1
  refine ⟨tx', tu', gu', tl', h2, F, fun f => ?_⟩
  rw [e_L_law_236]
  simp only [b1, b2, e1, bI_s]
  rw [e_L_law_250]
  simp only [b1, b2, e2, bI_s, if_pos]
  rw [show nI i + 6 = nI (i + 6) from addI i 6]
theorem ls_1 {h : DT} (H : Ful tu gu tl h) {i : Nat} (hi : i + 6 ≤ X.1) (hX : X.1 ≤ 3072) : LwN X i 269 tx tu gu tl h := by
  have q1 : nI i + 1 = nI (i + 1) := addI i 1
  have q2 : nI i + 2 = nI (i + 2) := addI i 2
  have b1 : ∀ K : Nat → RR, inb (nI i + 1) X.1 K = K (i + 1) := fun K => by rw [q1]; exact inbI (by omega) (by omega)
  have b2 : ∀ K : Nat → RR, inb (nI i + 2) X.1 K = K (i + 2) := fun K => by rw [q2]; exact inbI (by omega) (by omega)
  have o : OpW X tx tu gu tl h 100 [vP (some 0), vI (X.2 (i + 1)), vI (X.2 (i + 2))] 174 [vP (some 72), vI (X.2 (i + 1)), vI (X.2 (i + 2))] := w_op X tx tu gu tl H (fun n t k TT hA hL hl => by apply op_rack <;> assumption)
  obtain ⟨v, tx', tu', gu', tl', h1, h2, e1, e2, F⟩ := o
  obtain ⟨z, rfl⟩ := cal_vI t_X10_rack (by decide) e1
  refine ⟨tx', tu', gu', tl', h2, F, fun f => ?_⟩
  rw [e_L_law_269]
  simp only [b1, b2, e1, bI_s]
  rw [e_L_law_283]
  simp only [b1, b2, e2, bI_s, if_pos]
  rw [show nI i + 6 = nI (i + 6) from addI i 6]
theorem ls_2 {h : DT} (H : Ful tu gu tl h) {i : Nat} (hi : i + 6 ≤ X.1) (hX : X.1 ≤ 3072) : LwN X i 302 tx tu gu tl h := by
  have q1 : nI i + 1 = nI (i + 1) := addI i 1
  have q2 : nI i + 2 = nI (i + 2) := addI i 2
  have q3 : nI i + 3 = nI (i + 3) := addI i 3
  have q4 : nI i + 4 = nI (i + 4) := addI i 4
  have q5 : nI i + 5 = nI (i + 5) := addI i 5
  have b1 : ∀ K : Nat → RR, inb (nI i + 1) X.1 K = K (i + 1) := fun K => by rw [q1]; exact inbI (by omega) (by omega)
  have b2 : ∀ K : Nat → RR, inb (nI i + 2) X.1 K = K (i + 2) := fun K => by rw [q2]; exact inbI (by omega) (by omega)
  have b3 : ∀ K : Nat → RR, inb (nI i + 3) X.1 K = K (i + 3) := fun K => by rw [q3]; exact inbI (by omega) (by omega)
  have b4 : ∀ K : Nat → RR, inb (nI i + 4) X.1 K = K (i + 4) := fun K => by rw [q4]; exact inbI (by omega) (by omega)
  have b5 : ∀ K : Nat → RR, inb (nI i + 5) X.1 K = K (i + 5) := fun K => by rw [q5]; exact inbI (by omega) (by omega)
  have o : OpW X tx tu gu tl h 101 [vP (some 0), vI (X.2 (i + 1)), vI (X.2 (i + 2)), vI (X.2 (i + 3)), vI (X.2 (i + 4)), vI (X.2 (i + 5))] 177 [vP (some 72), vI (X.2 (i + 1)), vI (X.2 (i + 2)), vI (X.2 (i + 3)), vI (X.2 (i + 4)), vI (X.2 (i + 5))] := w_feed X tx tu gu tl H _ _ _ _ _
  obtain ⟨v, tx', tu', gu', tl', h1, h2, e1, e2, F⟩ := o
  obtain ⟨z, rfl⟩ := cal_vI t_X10_feed (by decide) e1
  refine ⟨tx', tu', gu', tl', h2, F, fun f => ?_⟩
  rw [e_L_law_302]
  simp only [b1, b2, b3, b4, b5, e1, bI_s]
  rw [e_L_law_331]
  simp only [b1, b2, b3, b4, b5, e2, bI_s, if_pos]
  rw [show nI i + 6 = nI (i + 6) from addI i 6]
theorem ls_3 {h : DT} (H : Ful tu gu tl h) {i : Nat} (hi : i + 6 ≤ X.1) (hX : X.1 ≤ 3072) : LwN X i 365 tx tu gu tl h := by
  have q1 : nI i + 1 = nI (i + 1) := addI i 1
  have b1 : ∀ K : Nat → RR, inb (nI i + 1) X.1 K = K (i + 1) := fun K => by rw [q1]; exact inbI (by omega) (by omega)
  have o : OpW X tx tu gu tl h 102 [vP (some 0), vI (X.2 (i + 1))] 178 [vP (some 72), vI (X.2 (i + 1))] := w_end X tx tu gu tl H _
  obtain ⟨v, tx', tu', gu', tl', h1, h2, e1, e2, F⟩ := o
  obtain ⟨z, rfl⟩ := cal_vI t_X10_end (by decide) e1
  refine ⟨tx', tu', gu', tl', h2, F, fun f => ?_⟩
  rw [e_L_law_365]
  simp only [b1, e1, bI_s]
  rw [e_L_law_374]
  simp only [b1, e2, bI_s, if_pos]
  rw [show nI i + 6 = nI (i + 6) from addI i 6]
theorem ls_4 {h : DT} (H : Ful tu gu tl h) (i : Nat) : LwD X i 392 103 tx tu gu tl h := by
  have o : OpW X tx tu gu tl h 103 [vP (some 0)] 214 [vP (some 72)] := w_text X tx tu gu tl H
  obtain ⟨v, tx', tu', gu', tl', h1, h2, e1, e2, F⟩ := o
  obtain ⟨z, rfl⟩ := cal_vI t_X10_text (by decide) e1
  refine ⟨tx', tu', gu', tl', h2, F, fun f => ?_⟩
  rw [e1, bI_s, e_L_law_392, e2, bI_s, if_pos rfl]
  rw [show nI i + 6 = nI (i + 6) from addI i 6]
theorem ls_5 {h : DT} (H : Ful tu gu tl h) {i : Nat} (hi : i + 6 ≤ X.1) (hX : X.1 ≤ 3072) : LwN X i 401 tx tu gu tl h := by
  have q1 : nI i + 1 = nI (i + 1) := addI i 1
  have b1 : ∀ K : Nat → RR, inb (nI i + 1) X.1 K = K (i + 1) := fun K => by rw [q1]; exact inbI (by omega) (by omega)
  have o : OpW X tx tu gu tl h 104 [vP (some 0), vI (X.2 (i + 1))] 215 [vP (some 72), vI (X.2 (i + 1))] := w_fault X tx tu gu tl H _
  obtain ⟨v, tx', tu', gu', tl', h1, h2, e1, e2, F⟩ := o
  obtain ⟨z, rfl⟩ := cal_vI t_X10_fault (by decide) e1
  refine ⟨tx', tu', gu', tl', h2, F, fun f => ?_⟩
  rw [e_L_law_401]
  simp only [b1, e1, bI_s]
  rw [e_L_law_410]
  simp only [b1, e2, bI_s, if_pos]
  rw [show nI i + 6 = nI (i + 6) from addI i 6]
theorem ls_6 {h : DT} (H : Ful tu gu tl h) {i : Nat} (hi : i + 6 ≤ X.1) (hX : X.1 ≤ 3072) : LwN X i 424 tx tu gu tl h := by
  have q1 : nI i + 1 = nI (i + 1) := addI i 1
  have b1 : ∀ K : Nat → RR, inb (nI i + 1) X.1 K = K (i + 1) := fun K => by rw [q1]; exact inbI (by omega) (by omega)
  have o : OpW X tx tu gu tl h 105 [vP (some 0), vI (X.2 (i + 1))] 216 [vP (some 72), vI (X.2 (i + 1))] := w_op X tx tu gu tl H (fun n t k TT hA hL hl => by apply op_by <;> assumption)
  obtain ⟨v, tx', tu', gu', tl', h1, h2, e1, e2, F⟩ := o
  obtain ⟨z, rfl⟩ := cal_vI t_X10_by (by decide) e1
  refine ⟨tx', tu', gu', tl', h2, F, fun f => ?_⟩
  rw [e_L_law_424]
  simp only [b1, e1, bI_s]
  rw [e_L_law_433]
  simp only [b1, e2, bI_s, if_pos]
  rw [show nI i + 6 = nI (i + 6) from addI i 6]
theorem ls_7 {h : DT} (H : Ful tu gu tl h) {i : Nat} (hi : i + 6 ≤ X.1) (hX : X.1 ≤ 3072) : LwN X i 447 tx tu gu tl h := by
  have q1 : nI i + 1 = nI (i + 1) := addI i 1
  have q2 : nI i + 2 = nI (i + 2) := addI i 2
  have b1 : ∀ K : Nat → RR, inb (nI i + 1) X.1 K = K (i + 1) := fun K => by rw [q1]; exact inbI (by omega) (by omega)
  have b2 : ∀ K : Nat → RR, inb (nI i + 2) X.1 K = K (i + 2) := fun K => by rw [q2]; exact inbI (by omega) (by omega)
  have o : OpW X tx tu gu tl h 106 [vP (some 0), vI (X.2 (i + 1)), vI (X.2 (i + 2))] 236 [vP (some 72), vI (X.2 (i + 1)), vI (X.2 (i + 2))] := w_op X tx tu gu tl H (fun n t k TT hA hL hl => by apply op_swap <;> assumption)
  obtain ⟨v, tx', tu', gu', tl', h1, h2, e1, e2, F⟩ := o
  obtain ⟨z, rfl⟩ := cal_vI t_X10_swap (by decide) e1
  refine ⟨tx', tu', gu', tl', h2, F, fun f => ?_⟩
  rw [e_L_law_447]
  simp only [b1, b2, e1, bI_s]
  rw [e_L_law_461]
  simp only [b1, b2, e2, bI_s, if_pos]
  rw [show nI i + 6 = nI (i + 6) from addI i 6]
theorem ls_8 {h : DT} (H : Ful tu gu tl h) {i : Nat} (hi : i + 6 ≤ X.1) (hX : X.1 ≤ 3072) : LwN X i 480 tx tu gu tl h := by
  have q1 : nI i + 1 = nI (i + 1) := addI i 1
  have b1 : ∀ K : Nat → RR, inb (nI i + 1) X.1 K = K (i + 1) := fun K => by rw [q1]; exact inbI (by omega) (by omega)
  have o : OpW X tx tu gu tl h 107 [vP (some 0), vI (X.2 (i + 1))] 238 [vP (some 72), vI (X.2 (i + 1))] := w_op X tx tu gu tl H (fun n t k TT hA hL hl => by apply op_turn <;> assumption)
  obtain ⟨v, tx', tu', gu', tl', h1, h2, e1, e2, F⟩ := o
  obtain ⟨z, rfl⟩ := cal_vI t_X10_turn (by decide) e1
  refine ⟨tx', tu', gu', tl', h2, F, fun f => ?_⟩
  rw [e_L_law_480]
  simp only [b1, e1, bI_s]
  rw [e_L_law_489]
  simp only [b1, e2, bI_s, if_pos]
  rw [show nI i + 6 = nI (i + 6) from addI i 6]
theorem ls_9 {h : DT} (H : Ful tu gu tl h) {i : Nat} (hi : i + 6 ≤ X.1) (hX : X.1 ≤ 3072) : LwN X i 503 tx tu gu tl h := by
  have q1 : nI i + 1 = nI (i + 1) := addI i 1
  have q2 : nI i + 2 = nI (i + 2) := addI i 2
  have b1 : ∀ K : Nat → RR, inb (nI i + 1) X.1 K = K (i + 1) := fun K => by rw [q1]; exact inbI (by omega) (by omega)
  have b2 : ∀ K : Nat → RR, inb (nI i + 2) X.1 K = K (i + 2) := fun K => by rw [q2]; exact inbI (by omega) (by omega)
  by_cases z0 : X.2 (i + 2) = 0
  · have o : OpW X tx tu gu tl h 108 [vP (some 0), vI (X.2 (i + 1)), vI 0] 240 [vP (some 72), vI (X.2 (i + 1)), vI 0] := w_op X tx tu gu tl H (fun n t k TT hA hL hl => op_prop X tx tu gu tl h hA _ false)
    obtain ⟨v, tx', tu', gu', tl', h1, h2, e1, e2, F⟩ := o
    obtain ⟨z, rfl⟩ := cal_vI t_X10_prop (by decide) e1
    refine ⟨tx', tu', gu', tl', h2, F, fun f => ?_⟩
    rw [e_L_law_503]
    simp only [b1, b2, z0, if_pos, e1, bI_s]
    rw [e_L_law_525]
    simp only [b1, b2, z0, if_pos, e2, bI_s, if_pos]
    rw [show nI i + 6 = nI (i + 6) from addI i 6]
  · have o : OpW X tx tu gu tl h 108 [vP (some 0), vI (X.2 (i + 1)), vI 1] 240 [vP (some 72), vI (X.2 (i + 1)), vI 1] := w_op X tx tu gu tl H (fun n t k TT hA hL hl => op_prop X tx tu gu tl h hA _ true)
    obtain ⟨v, tx', tu', gu', tl', h1, h2, e1, e2, F⟩ := o
    obtain ⟨z, rfl⟩ := cal_vI t_X10_prop (by decide) e1
    refine ⟨tx', tu', gu', tl', h2, F, fun f => ?_⟩
    rw [e_L_law_503]
    simp only [b1, b2, z0, if_neg, not_false_eq_true, if_false, e1, bI_s]
    rw [e_L_law_525]
    simp only [b1, b2, z0, if_neg, not_false_eq_true, if_false, e2, bI_s, if_pos]
    rw [show nI i + 6 = nI (i + 6) from addI i 6]
theorem ls_10 {h : DT} (H : Ful tu gu tl h) {i : Nat} (hi : i + 6 ≤ X.1) (hX : X.1 ≤ 3072) : LwN X i 552 tx tu gu tl h := by
  have q1 : nI i + 1 = nI (i + 1) := addI i 1
  have b1 : ∀ K : Nat → RR, inb (nI i + 1) X.1 K = K (i + 1) := fun K => by rw [q1]; exact inbI (by omega) (by omega)
  have o : OpW X tx tu gu tl h 109 [vP (some 0), vI (X.2 (i + 1))] 242 [vP (some 72), vI (X.2 (i + 1))] := w_op X tx tu gu tl H (fun n t k TT hA hL hl => by apply op_year <;> assumption)
  obtain ⟨v, tx', tu', gu', tl', h1, h2, e1, e2, F⟩ := o
  obtain ⟨z, rfl⟩ := cal_vI t_X10_year (by decide) e1
  refine ⟨tx', tu', gu', tl', h2, F, fun f => ?_⟩
  rw [e_L_law_552]
  simp only [b1, e1, bI_s]
  rw [e_L_law_561]
  simp only [b1, e2, bI_s, if_pos]
  rw [show nI i + 6 = nI (i + 6) from addI i 6]
theorem ls_11 {h : DT} (H : Ful tu gu tl h) {i : Nat} (hi : i + 6 ≤ X.1) (hX : X.1 ≤ 3072) : LwN X i 575 tx tu gu tl h := by
  have q1 : nI i + 1 = nI (i + 1) := addI i 1
  have b1 : ∀ K : Nat → RR, inb (nI i + 1) X.1 K = K (i + 1) := fun K => by rw [q1]; exact inbI (by omega) (by omega)
  have o : OpW X tx tu gu tl h 110 [vP (some 0), vI (X.2 (i + 1))] 244 [vP (some 72), vI (X.2 (i + 1))] := w_op X tx tu gu tl H (fun n t k TT hA hL hl => by apply op_played <;> assumption)
  obtain ⟨v, tx', tu', gu', tl', h1, h2, e1, e2, F⟩ := o
  obtain ⟨z, rfl⟩ := cal_vI t_X10_played (by decide) e1
  refine ⟨tx', tu', gu', tl', h2, F, fun f => ?_⟩
  rw [e_L_law_575]
  simp only [b1, e1, bI_s]
  rw [e_L_law_584]
  simp only [b1, e2, bI_s, if_pos]
  rw [show nI i + 6 = nI (i + 6) from addI i 6]
theorem ls_12 {h : DT} (H : Ful tu gu tl h) {i : Nat} (hi : i + 6 ≤ X.1) (hX : X.1 ≤ 3072) : LwN X i 598 tx tu gu tl h := by
  have q1 : nI i + 1 = nI (i + 1) := addI i 1
  have q2 : nI i + 2 = nI (i + 2) := addI i 2
  have b1 : ∀ K : Nat → RR, inb (nI i + 1) X.1 K = K (i + 1) := fun K => by rw [q1]; exact inbI (by omega) (by omega)
  have b2 : ∀ K : Nat → RR, inb (nI i + 2) X.1 K = K (i + 2) := fun K => by rw [q2]; exact inbI (by omega) (by omega)
  have o : OpW X tx tu gu tl h 111 [vP (some 0), vI (X.2 (i + 1)), vI (X.2 (i + 2))] 246 [vP (some 72), vI (X.2 (i + 1)), vI (X.2 (i + 2))] := w_op X tx tu gu tl H (fun n t k TT hA hL hl => by apply op_ages <;> assumption)
  obtain ⟨v, tx', tu', gu', tl', h1, h2, e1, e2, F⟩ := o
  obtain ⟨z, rfl⟩ := cal_vI t_X10_ages (by decide) e1
  refine ⟨tx', tu', gu', tl', h2, F, fun f => ?_⟩
  rw [e_L_law_598]
  simp only [b1, b2, e1, bI_s]
  rw [e_L_law_612]
  simp only [b1, b2, e2, bI_s, if_pos]
  rw [show nI i + 6 = nI (i + 6) from addI i 6]
theorem ls_13 {h : DT} (H : Ful tu gu tl h) (i : Nat) : LwD X i 635 112 tx tu gu tl h := by
  have o : OpW X tx tu gu tl h 112 [vP (some 0)] 233 [vP (some 72)] := w_op X tx tu gu tl H (fun n t k TT hA hL hl => by apply op_undo <;> assumption)
  obtain ⟨v, tx', tu', gu', tl', h1, h2, e1, e2, F⟩ := o
  obtain ⟨z, rfl⟩ := cal_vI t_X10_undo (by decide) e1
  refine ⟨tx', tu', gu', tl', h2, F, fun f => ?_⟩
  rw [e1, bI_s, e_L_law_635, e2, bI_s, if_pos rfl]
  rw [show nI i + 6 = nI (i + 6) from addI i 6]
theorem ls_14 {h : DT} (H : Ful tu gu tl h) {i : Nat} (hi : i + 6 ≤ X.1) (hX : X.1 ≤ 3072) : LwN X i 644 tx tu gu tl h := by
  have q1 : nI i + 1 = nI (i + 1) := addI i 1
  have q2 : nI i + 2 = nI (i + 2) := addI i 2
  have b1 : ∀ K : Nat → RR, inb (nI i + 1) X.1 K = K (i + 1) := fun K => by rw [q1]; exact inbI (by omega) (by omega)
  have b2 : ∀ K : Nat → RR, inb (nI i + 2) X.1 K = K (i + 2) := fun K => by rw [q2]; exact inbI (by omega) (by omega)
  have o : OpW X tx tu gu tl h 113 [vP (some 0), vI (X.2 (i + 1)), vI (X.2 (i + 2))] 247 [vP (some 72), vI (X.2 (i + 1)), vI (X.2 (i + 2))] := w_op X tx tu gu tl H (fun n t k TT hA hL hl => by apply op_of <;> assumption)
  obtain ⟨v, tx', tu', gu', tl', h1, h2, e1, e2, F⟩ := o
  obtain ⟨z, rfl⟩ := cal_vI t_X10_of (by decide) e1
  refine ⟨tx', tu', gu', tl', h2, F, fun f => ?_⟩
  rw [e_L_law_644]
  simp only [b1, b2, e1, bI_s]
  rw [e_L_law_658]
  simp only [b1, b2, e2, bI_s, if_pos]
  rw [show nI i + 6 = nI (i + 6) from addI i 6]
theorem ls_15 {h : DT} (H : Ful tu gu tl h) {i : Nat} (hi : i + 6 ≤ X.1) (hX : X.1 ≤ 3072) : LwN X i 677 tx tu gu tl h := by
  have q1 : nI i + 1 = nI (i + 1) := addI i 1
  have q2 : nI i + 2 = nI (i + 2) := addI i 2
  have b1 : ∀ K : Nat → RR, inb (nI i + 1) X.1 K = K (i + 1) := fun K => by rw [q1]; exact inbI (by omega) (by omega)
  have b2 : ∀ K : Nat → RR, inb (nI i + 2) X.1 K = K (i + 2) := fun K => by rw [q2]; exact inbI (by omega) (by omega)
  have o : OpW X tx tu gu tl h 114 [vP (some 0), vI (X.2 (i + 1)), vI (X.2 (i + 2))] 248 [vP (some 72), vI (X.2 (i + 1)), vI (X.2 (i + 2))] := w_op X tx tu gu tl H (fun n t k TT hA hL hl => by apply op_seat <;> assumption)
  obtain ⟨v, tx', tu', gu', tl', h1, h2, e1, e2, F⟩ := o
  obtain ⟨z, rfl⟩ := cal_vI t_X10_seat (by decide) e1
  refine ⟨tx', tu', gu', tl', h2, F, fun f => ?_⟩
  rw [e_L_law_677]
  simp only [b1, b2, e1, bI_s]
  rw [e_L_law_691]
  simp only [b1, b2, e2, bI_s, if_pos]
  rw [show nI i + 6 = nI (i + 6) from addI i 6]
theorem ls_16 {h : DT} (H : Ful tu gu tl h) {i : Nat} (hi : i + 6 ≤ X.1) (hX : X.1 ≤ 3072) : LwN X i 710 tx tu gu tl h := by
  have q1 : nI i + 1 = nI (i + 1) := addI i 1
  have q2 : nI i + 2 = nI (i + 2) := addI i 2
  have q3 : nI i + 3 = nI (i + 3) := addI i 3
  have b1 : ∀ K : Nat → RR, inb (nI i + 1) X.1 K = K (i + 1) := fun K => by rw [q1]; exact inbI (by omega) (by omega)
  have b2 : ∀ K : Nat → RR, inb (nI i + 2) X.1 K = K (i + 2) := fun K => by rw [q2]; exact inbI (by omega) (by omega)
  have b3 : ∀ K : Nat → RR, inb (nI i + 3) X.1 K = K (i + 3) := fun K => by rw [q3]; exact inbI (by omega) (by omega)
  have o : OpW X tx tu gu tl h 115 [vP (some 0), vI (X.2 (i + 1)), vI (X.2 (i + 2)), vI (X.2 (i + 3))] 249 [vP (some 72), vI (X.2 (i + 1)), vI (X.2 (i + 2)), vI (X.2 (i + 3))] := w_op X tx tu gu tl H (fun n t k TT hA hL hl => by apply op_hears <;> assumption)
  obtain ⟨v, tx', tu', gu', tl', h1, h2, e1, e2, F⟩ := o
  obtain ⟨z, rfl⟩ := cal_vI t_X10_hears (by decide) e1
  refine ⟨tx', tu', gu', tl', h2, F, fun f => ?_⟩
  rw [e_L_law_710]
  simp only [b1, b2, b3, e1, bI_s]
  rw [e_L_law_729]
  simp only [b1, b2, b3, e2, bI_s, if_pos]
  rw [show nI i + 6 = nI (i + 6) from addI i 6]
theorem ls_17 {h : DT} (H : Ful tu gu tl h) {i : Nat} (hi : i + 6 ≤ X.1) (hX : X.1 ≤ 3072) : LwN X i 753 tx tu gu tl h := by
  have q1 : nI i + 1 = nI (i + 1) := addI i 1
  have b1 : ∀ K : Nat → RR, inb (nI i + 1) X.1 K = K (i + 1) := fun K => by rw [q1]; exact inbI (by omega) (by omega)
  have o : OpW X tx tu gu tl h 116 [vP (some 0), vI (X.2 (i + 1))] 250 [vP (some 72), vI (X.2 (i + 1))] := w_op X tx tu gu tl H (fun n t k TT hA hL hl => by apply op_is <;> assumption)
  obtain ⟨v, tx', tu', gu', tl', h1, h2, e1, e2, F⟩ := o
  obtain ⟨z, rfl⟩ := cal_vI t_X10_is (by decide) e1
  refine ⟨tx', tu', gu', tl', h2, F, fun f => ?_⟩
  rw [e_L_law_753]
  simp only [b1, e1, bI_s]
  rw [e_L_law_762]
  simp only [b1, e2, bI_s, if_pos]
  rw [show nI i + 6 = nI (i + 6) from addI i 6]
theorem ls_18 {h : DT} (H : Ful tu gu tl h) {i : Nat} (hi : i + 6 ≤ X.1) (hX : X.1 ≤ 3072) : LwN X i 776 tx tu gu tl h := by
  have q1 : nI i + 1 = nI (i + 1) := addI i 1
  have q2 : nI i + 2 = nI (i + 2) := addI i 2
  have b1 : ∀ K : Nat → RR, inb (nI i + 1) X.1 K = K (i + 1) := fun K => by rw [q1]; exact inbI (by omega) (by omega)
  have b2 : ∀ K : Nat → RR, inb (nI i + 2) X.1 K = K (i + 2) := fun K => by rw [q2]; exact inbI (by omega) (by omega)
  have o : OpW X tx tu gu tl h 117 [vP (some 0), vI (X.2 (i + 1)), vI (X.2 (i + 2))] 252 [vP (some 72), vI (X.2 (i + 1)), vI (X.2 (i + 2))] := w_op X tx tu gu tl H (fun n t k TT hA hL hl => by apply op_book <;> assumption)
  obtain ⟨v, tx', tu', gu', tl', h1, h2, e1, e2, F⟩ := o
  obtain ⟨z, rfl⟩ := cal_vI t_X10_book (by decide) e1
  refine ⟨tx', tu', gu', tl', h2, F, fun f => ?_⟩
  rw [e_L_law_776]
  simp only [b1, b2, e1, bI_s]
  rw [e_L_law_790]
  simp only [b1, b2, e2, bI_s, if_pos]
  rw [show nI i + 6 = nI (i + 6) from addI i 6]
theorem ls_19 {h : DT} (H : Ful tu gu tl h) {i : Nat} (hi : i + 6 ≤ X.1) (hX : X.1 ≤ 3072) : LwN X i 809 tx tu gu tl h := by
  have q1 : nI i + 1 = nI (i + 1) := addI i 1
  have q2 : nI i + 2 = nI (i + 2) := addI i 2
  have b1 : ∀ K : Nat → RR, inb (nI i + 1) X.1 K = K (i + 1) := fun K => by rw [q1]; exact inbI (by omega) (by omega)
  have b2 : ∀ K : Nat → RR, inb (nI i + 2) X.1 K = K (i + 2) := fun K => by rw [q2]; exact inbI (by omega) (by omega)
  have o : OpW X tx tu gu tl h 118 [vP (some 0), vI (X.2 (i + 1)), vI (X.2 (i + 2))] 258 [vP (some 72), vI (X.2 (i + 1)), vI (X.2 (i + 2))] := w_op X tx tu gu tl H (fun n t k TT hA hL hl => by apply op_foretold <;> assumption)
  obtain ⟨v, tx', tu', gu', tl', h1, h2, e1, e2, F⟩ := o
  obtain ⟨z, rfl⟩ := cal_vI t_X10_foretold (by decide) e1
  refine ⟨tx', tu', gu', tl', h2, F, fun f => ?_⟩
  rw [e_L_law_809]
  simp only [b1, b2, e1, bI_s]
  rw [e_L_law_823]
  simp only [b1, b2, e2, bI_s, if_pos]
  rw [show nI i + 6 = nI (i + 6) from addI i 6]
theorem ls_20 {h : DT} (H : Ful tu gu tl h) {i : Nat} (hi : i + 6 ≤ X.1) (hX : X.1 ≤ 3072) : LwN X i 842 tx tu gu tl h := by
  have q1 : nI i + 1 = nI (i + 1) := addI i 1
  have q2 : nI i + 2 = nI (i + 2) := addI i 2
  have b1 : ∀ K : Nat → RR, inb (nI i + 1) X.1 K = K (i + 1) := fun K => by rw [q1]; exact inbI (by omega) (by omega)
  have b2 : ∀ K : Nat → RR, inb (nI i + 2) X.1 K = K (i + 2) := fun K => by rw [q2]; exact inbI (by omega) (by omega)
  by_cases z0 : X.2 (i + 2) = 0
  · have o : OpW X tx tu gu tl h 119 [vP (some 0), vI (X.2 (i + 1)), vI 0] 260 [vP (some 72), vI (X.2 (i + 1)), vI 0] := w_op X tx tu gu tl H (fun n t k TT hA hL hl => by apply op_still <;> assumption)
    obtain ⟨v, tx', tu', gu', tl', h1, h2, e1, e2, F⟩ := o
    obtain ⟨z, rfl⟩ := cal_vI t_X10_still (by decide) e1
    refine ⟨tx', tu', gu', tl', h2, F, fun f => ?_⟩
    rw [e_L_law_842]
    simp only [b1, b2, z0, if_pos, e1, bI_s]
    rw [e_L_law_864]
    simp only [b1, b2, z0, if_pos, e2, bI_s, if_pos]
    rw [show nI i + 6 = nI (i + 6) from addI i 6]
  · have o : OpW X tx tu gu tl h 119 [vP (some 0), vI (X.2 (i + 1)), vI 1] 260 [vP (some 72), vI (X.2 (i + 1)), vI 1] := w_op X tx tu gu tl H (fun n t k TT hA hL hl => by apply op_still <;> assumption)
    obtain ⟨v, tx', tu', gu', tl', h1, h2, e1, e2, F⟩ := o
    obtain ⟨z, rfl⟩ := cal_vI t_X10_still (by decide) e1
    refine ⟨tx', tu', gu', tl', h2, F, fun f => ?_⟩
    rw [e_L_law_842]
    simp only [b1, b2, z0, if_neg, not_false_eq_true, if_false, e1, bI_s]
    rw [e_L_law_864]
    simp only [b1, b2, z0, if_neg, not_false_eq_true, if_false, e2, bI_s, if_pos]
    rw [show nI i + 6 = nI (i + 6) from addI i 6]
theorem ls_21 {h : DT} (H : Ful tu gu tl h) {i : Nat} (hi : i + 6 ≤ X.1) (hX : X.1 ≤ 3072) : LwN X i 891 tx tu gu tl h := by
  have q1 : nI i + 1 = nI (i + 1) := addI i 1
  have q2 : nI i + 2 = nI (i + 2) := addI i 2
  have b1 : ∀ K : Nat → RR, inb (nI i + 1) X.1 K = K (i + 1) := fun K => by rw [q1]; exact inbI (by omega) (by omega)
  have b2 : ∀ K : Nat → RR, inb (nI i + 2) X.1 K = K (i + 2) := fun K => by rw [q2]; exact inbI (by omega) (by omega)
  have o : OpW X tx tu gu tl h 120 [vP (some 0), vI (X.2 (i + 1)), vI (X.2 (i + 2))] 261 [vP (some 72), vI (X.2 (i + 1)), vI (X.2 (i + 2))] := w_op X tx tu gu tl H (fun n t k TT hA hL hl => by apply op_upright <;> assumption)
  obtain ⟨v, tx', tu', gu', tl', h1, h2, e1, e2, F⟩ := o
  obtain ⟨z, rfl⟩ := cal_vI t_X10_upright (by decide) e1
  refine ⟨tx', tu', gu', tl', h2, F, fun f => ?_⟩
  rw [e_L_law_891]
  simp only [b1, b2, e1, bI_s]
  rw [e_L_law_905]
  simp only [b1, b2, e2, bI_s, if_pos]
  rw [show nI i + 6 = nI (i + 6) from addI i 6]
theorem ls_22 {h : DT} (H : Ful tu gu tl h) {i : Nat} (hi : i + 6 ≤ X.1) (hX : X.1 ≤ 3072) : LwN X i 924 tx tu gu tl h := by
  have q1 : nI i + 1 = nI (i + 1) := addI i 1
  have b1 : ∀ K : Nat → RR, inb (nI i + 1) X.1 K = K (i + 1) := fun K => by rw [q1]; exact inbI (by omega) (by omega)
  have o : OpW X tx tu gu tl h 121 [vP (some 0), vI (X.2 (i + 1))] 265 [vP (some 72), vI (X.2 (i + 1))] := w_byTurns X tx tu gu tl H _
  obtain ⟨v, tx', tu', gu', tl', h1, h2, e1, e2, F⟩ := o
  obtain ⟨z, rfl⟩ := cal_vI t_X10_byTurns (by decide) e1
  refine ⟨tx', tu', gu', tl', h2, F, fun f => ?_⟩
  rw [e_L_law_924]
  simp only [b1, e1, bI_s]
  rw [e_L_law_933]
  simp only [b1, e2, bI_s, if_pos]
  rw [show nI i + 6 = nI (i + 6) from addI i 6]
theorem ls_23 {h : DT} (H : Ful tu gu tl h) {i : Nat} (hi : i + 6 ≤ X.1) (hX : X.1 ≤ 3072) : LwN X i 947 tx tu gu tl h := by
  have q1 : nI i + 1 = nI (i + 1) := addI i 1
  have q2 : nI i + 2 = nI (i + 2) := addI i 2
  have b1 : ∀ K : Nat → RR, inb (nI i + 1) X.1 K = K (i + 1) := fun K => by rw [q1]; exact inbI (by omega) (by omega)
  have b2 : ∀ K : Nat → RR, inb (nI i + 2) X.1 K = K (i + 2) := fun K => by rw [q2]; exact inbI (by omega) (by omega)
  by_cases z0 : X.2 (i + 1) = 0
  · have o : OpW X tx tu gu tl h 122 [vP (some 0), vI 0, vI (X.2 (i + 2))] 269 [vP (some 72), vI 0, vI (X.2 (i + 2))] := w_op X tx tu gu tl H (fun n t k TT hA hL hl => by apply op_seats <;> assumption)
    obtain ⟨v, tx', tu', gu', tl', h1, h2, e1, e2, F⟩ := o
    obtain ⟨z, rfl⟩ := cal_vI t_X10_seats (by decide) e1
    refine ⟨tx', tu', gu', tl', h2, F, fun f => ?_⟩
    rw [e_L_law_947]
    simp only [b1, b2, z0, if_pos, e1, bI_s]
    rw [e_L_law_969]
    simp only [b1, b2, z0, if_pos, e2, bI_s, if_pos]
    rw [show nI i + 6 = nI (i + 6) from addI i 6]
  · have o : OpW X tx tu gu tl h 122 [vP (some 0), vI 1, vI (X.2 (i + 2))] 269 [vP (some 72), vI 1, vI (X.2 (i + 2))] := w_op X tx tu gu tl H (fun n t k TT hA hL hl => by apply op_seats <;> assumption)
    obtain ⟨v, tx', tu', gu', tl', h1, h2, e1, e2, F⟩ := o
    obtain ⟨z, rfl⟩ := cal_vI t_X10_seats (by decide) e1
    refine ⟨tx', tu', gu', tl', h2, F, fun f => ?_⟩
    rw [e_L_law_947]
    simp only [b1, b2, z0, if_neg, not_false_eq_true, if_false, e1, bI_s]
    rw [e_L_law_969]
    simp only [b1, b2, z0, if_neg, not_false_eq_true, if_false, e2, bI_s, if_pos]
    rw [show nI i + 6 = nI (i + 6) from addI i 6]
theorem ls_24 {h : DT} (H : Ful tu gu tl h) {i : Nat} (hi : i + 6 ≤ X.1) (hX : X.1 ≤ 3072) : LwN X i 996 tx tu gu tl h := by
  have q1 : nI i + 1 = nI (i + 1) := addI i 1
  have b1 : ∀ K : Nat → RR, inb (nI i + 1) X.1 K = K (i + 1) := fun K => by rw [q1]; exact inbI (by omega) (by omega)
  have o : OpW X tx tu gu tl h 123 [vP (some 0), vI (X.2 (i + 1))] 270 [vP (some 72), vI (X.2 (i + 1))] := w_op X tx tu gu tl H (fun n t k TT hA hL hl => by apply op_ragged <;> assumption)
  obtain ⟨v, tx', tu', gu', tl', h1, h2, e1, e2, F⟩ := o
  obtain ⟨z, rfl⟩ := cal_vI t_X10_ragged (by decide) e1
  refine ⟨tx', tu', gu', tl', h2, F, fun f => ?_⟩
  rw [e_L_law_996]
  simp only [b1, e1, bI_s]
  rw [e_L_law_1005]
  simp only [b1, e2, bI_s, if_pos]
  rw [show nI i + 6 = nI (i + 6) from addI i 6]
theorem ls_25 {h : DT} (H : Ful tu gu tl h) {i : Nat} (hi : i + 6 ≤ X.1) (hX : X.1 ≤ 3072) : LwN X i 1019 tx tu gu tl h := by
  have q1 : nI i + 1 = nI (i + 1) := addI i 1
  have b1 : ∀ K : Nat → RR, inb (nI i + 1) X.1 K = K (i + 1) := fun K => by rw [q1]; exact inbI (by omega) (by omega)
  have o : OpW X tx tu gu tl h 124 [vP (some 0), vI (X.2 (i + 1))] 271 [vP (some 72), vI (X.2 (i + 1))] := w_op X tx tu gu tl H (fun n t k TT hA hL hl => by apply op_word <;> assumption)
  obtain ⟨v, tx', tu', gu', tl', h1, h2, e1, e2, F⟩ := o
  obtain ⟨z, rfl⟩ := cal_vI t_X10_word (by decide) e1
  refine ⟨tx', tu', gu', tl', h2, F, fun f => ?_⟩
  rw [e_L_law_1019]
  simp only [b1, e1, bI_s]
  rw [e_L_law_1028]
  simp only [b1, e2, bI_s, if_pos]
  rw [show nI i + 6 = nI (i + 6) from addI i 6]
theorem ls_26 {h : DT} (H : Ful tu gu tl h) {i : Nat} (hi : i + 6 ≤ X.1) (hX : X.1 ≤ 3072) : LwN X i 1042 tx tu gu tl h := by
  have q1 : nI i + 1 = nI (i + 1) := addI i 1
  have q2 : nI i + 2 = nI (i + 2) := addI i 2
  have b1 : ∀ K : Nat → RR, inb (nI i + 1) X.1 K = K (i + 1) := fun K => by rw [q1]; exact inbI (by omega) (by omega)
  have b2 : ∀ K : Nat → RR, inb (nI i + 2) X.1 K = K (i + 2) := fun K => by rw [q2]; exact inbI (by omega) (by omega)
  have o : OpW X tx tu gu tl h 125 [vP (some 0), vI (X.2 (i + 1)), vI (X.2 (i + 2))] 274 [vP (some 72), vI (X.2 (i + 1)), vI (X.2 (i + 2))] := w_op X tx tu gu tl H (fun n t k TT hA hL hl => by apply op_page <;> assumption)
  obtain ⟨v, tx', tu', gu', tl', h1, h2, e1, e2, F⟩ := o
  obtain ⟨z, rfl⟩ := cal_vI t_X10_page (by decide) e1
  refine ⟨tx', tu', gu', tl', h2, F, fun f => ?_⟩
  rw [e_L_law_1042]
  simp only [b1, b2, e1, bI_s]
  rw [e_L_law_1056]
  simp only [b1, b2, e2, bI_s, if_pos]
  rw [show nI i + 6 = nI (i + 6) from addI i 6]
theorem ls_27 {h : DT} (H : Ful tu gu tl h) {i : Nat} (hi : i + 6 ≤ X.1) (hX : X.1 ≤ 3072) : LwN X i 1075 tx tu gu tl h := by
  have q1 : nI i + 1 = nI (i + 1) := addI i 1
  have q2 : nI i + 2 = nI (i + 2) := addI i 2
  have b1 : ∀ K : Nat → RR, inb (nI i + 1) X.1 K = K (i + 1) := fun K => by rw [q1]; exact inbI (by omega) (by omega)
  have b2 : ∀ K : Nat → RR, inb (nI i + 2) X.1 K = K (i + 2) := fun K => by rw [q2]; exact inbI (by omega) (by omega)
  have o : OpW X tx tu gu tl h 126 [vP (some 0), vI (X.2 (i + 1)), vI (X.2 (i + 2))] 275 [vP (some 72), vI (X.2 (i + 1)), vI (X.2 (i + 2))] := w_op X tx tu gu tl H (fun n t k TT hA hL hl => by apply op_line <;> assumption)
  obtain ⟨v, tx', tu', gu', tl', h1, h2, e1, e2, F⟩ := o
  obtain ⟨z, rfl⟩ := cal_vI t_X10_line (by decide) e1
  refine ⟨tx', tu', gu', tl', h2, F, fun f => ?_⟩
  rw [e_L_law_1075]
  simp only [b1, b2, e1, bI_s]
  rw [e_L_law_1089]
  simp only [b1, b2, e2, bI_s, if_pos]
  rw [show nI i + 6 = nI (i + 6) from addI i 6]
theorem ls_28 {h : DT} (H : Ful tu gu tl h) {i : Nat} (hi : i + 6 ≤ X.1) (hX : X.1 ≤ 3072) : LwN X i 1108 tx tu gu tl h := by
  have q1 : nI i + 1 = nI (i + 1) := addI i 1
  have b1 : ∀ K : Nat → RR, inb (nI i + 1) X.1 K = K (i + 1) := fun K => by rw [q1]; exact inbI (by omega) (by omega)
  have o : OpW X tx tu gu tl h 127 [vP (some 0), vI (X.2 (i + 1))] 277 [vP (some 72), vI (X.2 (i + 1))] := w_op X tx tu gu tl H (fun n t k TT hA hL hl => by apply op_narrowest <;> assumption)
  obtain ⟨v, tx', tu', gu', tl', h1, h2, e1, e2, F⟩ := o
  obtain ⟨z, rfl⟩ := cal_vI t_X10_narrowest (by decide) e1
  refine ⟨tx', tu', gu', tl', h2, F, fun f => ?_⟩
  rw [e_L_law_1108]
  simp only [b1, e1, bI_s]
  rw [e_L_law_1117]
  simp only [b1, e2, bI_s, if_pos]
  rw [show nI i + 6 = nI (i + 6) from addI i 6]
theorem ls_29 {h : DT} (H : Ful tu gu tl h) {i : Nat} (hi : i + 6 ≤ X.1) (hX : X.1 ≤ 3072) : LwN X i 1131 tx tu gu tl h := by
  have q1 : nI i + 1 = nI (i + 1) := addI i 1
  have q2 : nI i + 2 = nI (i + 2) := addI i 2
  have b1 : ∀ K : Nat → RR, inb (nI i + 1) X.1 K = K (i + 1) := fun K => by rw [q1]; exact inbI (by omega) (by omega)
  have b2 : ∀ K : Nat → RR, inb (nI i + 2) X.1 K = K (i + 2) := fun K => by rw [q2]; exact inbI (by omega) (by omega)
  have o : OpW X tx tu gu tl h 128 [vP (some 0), vI (X.2 (i + 1)), vI (X.2 (i + 2))] 278 [vP (some 72), vI (X.2 (i + 1)), vI (X.2 (i + 2))] := w_op X tx tu gu tl H (fun n t k TT hA hL hl => by apply op_heard <;> assumption)
  obtain ⟨v, tx', tu', gu', tl', h1, h2, e1, e2, F⟩ := o
  obtain ⟨z, rfl⟩ := cal_vI t_X10_heard (by decide) e1
  refine ⟨tx', tu', gu', tl', h2, F, fun f => ?_⟩
  rw [e_L_law_1131]
  simp only [b1, b2, e1, bI_s]
  rw [e_L_law_1145]
  simp only [b1, b2, e2, bI_s, if_pos]
  rw [show nI i + 6 = nI (i + 6) from addI i 6]
theorem ls_30 {h : DT} (H : Ful tu gu tl h) {i : Nat} (hi : i + 6 ≤ X.1) (hX : X.1 ≤ 3072) : LwN X i 1164 tx tu gu tl h := by
  have q1 : nI i + 1 = nI (i + 1) := addI i 1
  have q2 : nI i + 2 = nI (i + 2) := addI i 2
  have b1 : ∀ K : Nat → RR, inb (nI i + 1) X.1 K = K (i + 1) := fun K => by rw [q1]; exact inbI (by omega) (by omega)
  have b2 : ∀ K : Nat → RR, inb (nI i + 2) X.1 K = K (i + 2) := fun K => by rw [q2]; exact inbI (by omega) (by omega)
  have o : OpW X tx tu gu tl h 129 [vP (some 0), vI (X.2 (i + 1)), vI (X.2 (i + 2))] 280 [vP (some 72), vI (X.2 (i + 1)), vI (X.2 (i + 2))] := w_g X tx tu gu tl H (op_meant X tx tu gu tl H.2.1 h H.1 _ _)
  obtain ⟨v, tx', tu', gu', tl', h1, h2, e1, e2, F⟩ := o
  obtain ⟨z, rfl⟩ := cal_vI t_X10_meant (by decide) e1
  refine ⟨tx', tu', gu', tl', h2, F, fun f => ?_⟩
  rw [e_L_law_1164]
  simp only [b1, b2, e1, bI_s]
  rw [e_L_law_1178]
  simp only [b1, b2, e2, bI_s, if_pos]
  rw [show nI i + 6 = nI (i + 6) from addI i 6]
theorem ls_31 {h : DT} (H : Ful tu gu tl h) {i : Nat} (hi : i + 6 ≤ X.1) (hX : X.1 ≤ 3072) : LwN X i 1197 tx tu gu tl h := by
  have q1 : nI i + 1 = nI (i + 1) := addI i 1
  have b1 : ∀ K : Nat → RR, inb (nI i + 1) X.1 K = K (i + 1) := fun K => by rw [q1]; exact inbI (by omega) (by omega)
  have o : OpW X tx tu gu tl h 130 [vP (some 0), vI (X.2 (i + 1))] 282 [vP (some 72), vI (X.2 (i + 1))] := w_g X tx tu gu tl H (op_listen X tx tu gu tl H.2.1 h H.1 _)
  obtain ⟨v, tx', tu', gu', tl', h1, h2, e1, e2, F⟩ := o
  obtain ⟨z, rfl⟩ := cal_vI t_X10_listen (by decide) e1
  refine ⟨tx', tu', gu', tl', h2, F, fun f => ?_⟩
  rw [e_L_law_1197]
  simp only [b1, e1, bI_s]
  rw [e_L_law_1206]
  simp only [b1, e2, bI_s, if_pos]
  rw [show nI i + 6 = nI (i + 6) from addI i 6]
theorem ls_32 {h : DT} (H : Ful tu gu tl h) {i : Nat} (hi : i + 6 ≤ X.1) (hX : X.1 ≤ 3072) : LwN X i 1220 tx tu gu tl h := by
  have q1 : nI i + 1 = nI (i + 1) := addI i 1
  have q2 : nI i + 2 = nI (i + 2) := addI i 2
  have b1 : ∀ K : Nat → RR, inb (nI i + 1) X.1 K = K (i + 1) := fun K => by rw [q1]; exact inbI (by omega) (by omega)
  have b2 : ∀ K : Nat → RR, inb (nI i + 2) X.1 K = K (i + 2) := fun K => by rw [q2]; exact inbI (by omega) (by omega)
  by_cases z0 : X.2 (i + 2) = 0
  · have o : OpW X tx tu gu tl h 131 [vP (some 0), vI (X.2 (i + 1)), vI 0] 175 [vP (some 72), vI (X.2 (i + 1)), vI 0] := w_op X tx tu gu tl H (fun n t k TT hA hL hl => by apply op_bar <;> assumption)
    obtain ⟨v, tx', tu', gu', tl', h1, h2, e1, e2, F⟩ := o
    obtain ⟨z, rfl⟩ := cal_vI t_X10_bar (by decide) e1
    refine ⟨tx', tu', gu', tl', h2, F, fun f => ?_⟩
    rw [e_L_law_1220]
    simp only [b1, b2, z0, if_pos, e1, bI_s]
    rw [e_L_law_1242]
    simp only [b1, b2, z0, if_pos, e2, bI_s, if_pos]
    rw [show nI i + 6 = nI (i + 6) from addI i 6]
  · have o : OpW X tx tu gu tl h 131 [vP (some 0), vI (X.2 (i + 1)), vI 1] 175 [vP (some 72), vI (X.2 (i + 1)), vI 1] := w_op X tx tu gu tl H (fun n t k TT hA hL hl => by apply op_bar <;> assumption)
    obtain ⟨v, tx', tu', gu', tl', h1, h2, e1, e2, F⟩ := o
    obtain ⟨z, rfl⟩ := cal_vI t_X10_bar (by decide) e1
    refine ⟨tx', tu', gu', tl', h2, F, fun f => ?_⟩
    rw [e_L_law_1220]
    simp only [b1, b2, z0, if_neg, not_false_eq_true, if_false, e1, bI_s]
    rw [e_L_law_1242]
    simp only [b1, b2, z0, if_neg, not_false_eq_true, if_false, e2, bI_s, if_pos]
    rw [show nI i + 6 = nI (i + 6) from addI i 6]
theorem ls_33 {h : DT} (H : Ful tu gu tl h) {i : Nat} (hi : i + 6 ≤ X.1) (hX : X.1 ≤ 3072) : LwN X i 1269 tx tu gu tl h := by
  have q1 : nI i + 1 = nI (i + 1) := addI i 1
  have b1 : ∀ K : Nat → RR, inb (nI i + 1) X.1 K = K (i + 1) := fun K => by rw [q1]; exact inbI (by omega) (by omega)
  by_cases z0 : X.2 (i + 1) = 0
  · have o : OpW X tx tu gu tl h 132 [vP (some 0), vI 0] 284 [vP (some 72), vI 0] := w_op X tx tu gu tl H (fun n t k TT hA hL hl => by apply op_props <;> assumption)
    obtain ⟨v, tx', tu', gu', tl', h1, h2, e1, e2, F⟩ := o
    obtain ⟨z, rfl⟩ := cal_vI t_X10_props (by decide) e1
    refine ⟨tx', tu', gu', tl', h2, F, fun f => ?_⟩
    rw [e_L_law_1269]
    simp only [b1, z0, if_pos, e1, bI_s]
    rw [e_L_law_1286]
    simp only [b1, z0, if_pos, e2, bI_s, if_pos]
    rw [show nI i + 6 = nI (i + 6) from addI i 6]
  · have o : OpW X tx tu gu tl h 132 [vP (some 0), vI 1] 284 [vP (some 72), vI 1] := w_op X tx tu gu tl H (fun n t k TT hA hL hl => by apply op_props <;> assumption)
    obtain ⟨v, tx', tu', gu', tl', h1, h2, e1, e2, F⟩ := o
    obtain ⟨z, rfl⟩ := cal_vI t_X10_props (by decide) e1
    refine ⟨tx', tu', gu', tl', h2, F, fun f => ?_⟩
    rw [e_L_law_1269]
    simp only [b1, z0, if_neg, not_false_eq_true, if_false, e1, bI_s]
    rw [e_L_law_1286]
    simp only [b1, z0, if_neg, not_false_eq_true, if_false, e2, bI_s, if_pos]
    rw [show nI i + 6 = nI (i + 6) from addI i 6]
theorem ls_34 {h : DT} (H : Ful tu gu tl h) {i : Nat} (hi : i + 6 ≤ X.1) (hX : X.1 ≤ 3072) : LwN X i 1308 tx tu gu tl h := by
  have q1 : nI i + 1 = nI (i + 1) := addI i 1
  have q2 : nI i + 2 = nI (i + 2) := addI i 2
  have q3 : nI i + 3 = nI (i + 3) := addI i 3
  have q4 : nI i + 4 = nI (i + 4) := addI i 4
  have b1 : ∀ K : Nat → RR, inb (nI i + 1) X.1 K = K (i + 1) := fun K => by rw [q1]; exact inbI (by omega) (by omega)
  have b2 : ∀ K : Nat → RR, inb (nI i + 2) X.1 K = K (i + 2) := fun K => by rw [q2]; exact inbI (by omega) (by omega)
  have b3 : ∀ K : Nat → RR, inb (nI i + 3) X.1 K = K (i + 3) := fun K => by rw [q3]; exact inbI (by omega) (by omega)
  have b4 : ∀ K : Nat → RR, inb (nI i + 4) X.1 K = K (i + 4) := fun K => by rw [q4]; exact inbI (by omega) (by omega)
  by_cases z0 : X.2 (i + 4) = 0
  · have o : OpW X tx tu gu tl h 133 [vP (some 0), vI (X.2 (i + 1)), vI (X.2 (i + 2)), vI (X.2 (i + 3)), vI 0] 289 [vP (some 72), vI (X.2 (i + 1)), vI (X.2 (i + 2)), vI (X.2 (i + 3)), vI 0] := w_op X tx tu gu tl H (fun n t k TT hA hL hl => by apply op_likely <;> assumption)
    obtain ⟨v, tx', tu', gu', tl', h1, h2, e1, e2, F⟩ := o
    obtain ⟨z, rfl⟩ := cal_vL t_X10_likely e1
    refine ⟨tx', tu', gu', tl', h2, F, fun f => ?_⟩
    rw [e_L_law_1308]
    simp only [b1, b2, b3, b4, z0, if_pos, e1, bL_s]
    rw [e_L_law_1340]
    simp only [b1, b2, b3, b4, z0, if_pos, e2, bL_s, if_pos]
    rw [if_pos (lg_self z), show nI i + 6 = nI (i + 6) from addI i 6]
  · have o : OpW X tx tu gu tl h 133 [vP (some 0), vI (X.2 (i + 1)), vI (X.2 (i + 2)), vI (X.2 (i + 3)), vI 1] 289 [vP (some 72), vI (X.2 (i + 1)), vI (X.2 (i + 2)), vI (X.2 (i + 3)), vI 1] := w_op X tx tu gu tl H (fun n t k TT hA hL hl => by apply op_likely <;> assumption)
    obtain ⟨v, tx', tu', gu', tl', h1, h2, e1, e2, F⟩ := o
    obtain ⟨z, rfl⟩ := cal_vL t_X10_likely e1
    refine ⟨tx', tu', gu', tl', h2, F, fun f => ?_⟩
    rw [e_L_law_1308]
    simp only [b1, b2, b3, b4, z0, if_neg, not_false_eq_true, if_false, e1, bL_s]
    rw [e_L_law_1340]
    simp only [b1, b2, b3, b4, z0, if_neg, not_false_eq_true, if_false, e2, bL_s, if_pos]
    rw [if_pos (lg_self z), show nI i + 6 = nI (i + 6) from addI i 6]
theorem ls_35 {h : DT} (H : Ful tu gu tl h) {i : Nat} (hi : i + 6 ≤ X.1) (hX : X.1 ≤ 3072) : LwN X i 1378 tx tu gu tl h := by
  have q1 : nI i + 1 = nI (i + 1) := addI i 1
  have q2 : nI i + 2 = nI (i + 2) := addI i 2
  have q3 : nI i + 3 = nI (i + 3) := addI i 3
  have b1 : ∀ K : Nat → RR, inb (nI i + 1) X.1 K = K (i + 1) := fun K => by rw [q1]; exact inbI (by omega) (by omega)
  have b2 : ∀ K : Nat → RR, inb (nI i + 2) X.1 K = K (i + 2) := fun K => by rw [q2]; exact inbI (by omega) (by omega)
  have b3 : ∀ K : Nat → RR, inb (nI i + 3) X.1 K = K (i + 3) := fun K => by rw [q3]; exact inbI (by omega) (by omega)
  by_cases z0 : X.2 (i + 3) = 0
  · have o : OpW X tx tu gu tl h 134 [vP (some 0), vI (X.2 (i + 1)), vI (X.2 (i + 2)), vI 0] 290 [vP (some 72), vI (X.2 (i + 1)), vI (X.2 (i + 2)), vI 0] := w_op X tx tu gu tl H (fun n t k TT hA hL hl => by apply op_first <;> assumption)
    obtain ⟨v, tx', tu', gu', tl', h1, h2, e1, e2, F⟩ := o
    obtain ⟨z, rfl⟩ := cal_vL t_X10_first e1
    refine ⟨tx', tu', gu', tl', h2, F, fun f => ?_⟩
    rw [e_L_law_1378]
    simp only [b1, b2, b3, z0, if_pos, e1, bL_s]
    rw [e_L_law_1405]
    simp only [b1, b2, b3, z0, if_pos, e2, bL_s, if_pos]
    rw [if_pos (lg_self z), show nI i + 6 = nI (i + 6) from addI i 6]
  · have o : OpW X tx tu gu tl h 134 [vP (some 0), vI (X.2 (i + 1)), vI (X.2 (i + 2)), vI 1] 290 [vP (some 72), vI (X.2 (i + 1)), vI (X.2 (i + 2)), vI 1] := w_op X tx tu gu tl H (fun n t k TT hA hL hl => by apply op_first <;> assumption)
    obtain ⟨v, tx', tu', gu', tl', h1, h2, e1, e2, F⟩ := o
    obtain ⟨z, rfl⟩ := cal_vL t_X10_first e1
    refine ⟨tx', tu', gu', tl', h2, F, fun f => ?_⟩
    rw [e_L_law_1378]
    simp only [b1, b2, b3, z0, if_neg, not_false_eq_true, if_false, e1, bL_s]
    rw [e_L_law_1405]
    simp only [b1, b2, b3, z0, if_neg, not_false_eq_true, if_false, e2, bL_s, if_pos]
    rw [if_pos (lg_self z), show nI i + 6 = nI (i + 6) from addI i 6]
theorem ls_36 {h : DT} (H : Ful tu gu tl h) (i : Nat) : LwD X i 1442 135 tx tu gu tl h := by
  have o : OpW X tx tu gu tl h 135 [vP (some 0)] 291 [vP (some 72)] := w_op X tx tu gu tl H (fun n t k TT hA hL hl => by apply op_median <;> assumption)
  obtain ⟨v, tx', tu', gu', tl', h1, h2, e1, e2, F⟩ := o
  obtain ⟨z, rfl⟩ := cal_vI t_X10_median (by decide) e1
  refine ⟨tx', tu', gu', tl', h2, F, fun f => ?_⟩
  rw [e1, bI_s, e_L_law_1442, e2, bI_s, if_pos rfl]
  rw [show nI i + 6 = nI (i + 6) from addI i 6]
theorem ls_37 {h : DT} (H : Ful tu gu tl h) (i : Nat) : LwD X i 1455 136 tx tu gu tl h := by
  have o : OpW X tx tu gu tl h 136 [vP (some 0)] 292 [vP (some 72)] := w_op X tx tu gu tl H (fun n t k TT hA hL hl => by apply op_spread <;> assumption)
  obtain ⟨v, tx', tu', gu', tl', h1, h2, e1, e2, F⟩ := o
  obtain ⟨z, rfl⟩ := cal_vI t_X10_spread (by decide) e1
  refine ⟨tx', tu', gu', tl', h2, F, fun f => ?_⟩
  rw [e1, bI_s, e_L_law_1455, e2, bI_s, if_pos rfl]
  rw [show nI i + 6 = nI (i + 6) from addI i 6]
theorem ls_38 {h : DT} (H : Ful tu gu tl h) {i : Nat} (hi : i + 6 ≤ X.1) (hX : X.1 ≤ 3072) : LwN X i 1464 tx tu gu tl h := by
  have q1 : nI i + 1 = nI (i + 1) := addI i 1
  have q2 : nI i + 2 = nI (i + 2) := addI i 2
  have b1 : ∀ K : Nat → RR, inb (nI i + 1) X.1 K = K (i + 1) := fun K => by rw [q1]; exact inbI (by omega) (by omega)
  have b2 : ∀ K : Nat → RR, inb (nI i + 2) X.1 K = K (i + 2) := fun K => by rw [q2]; exact inbI (by omega) (by omega)
  have o : OpW X tx tu gu tl h 137 [vP (some 0), vI (X.2 (i + 1)), vI (X.2 (i + 2))] 294 [vP (some 72), vI (X.2 (i + 1)), vI (X.2 (i + 2))] := w_op X tx tu gu tl H (fun n t k TT hA hL hl => by apply op_quarrel <;> assumption)
  obtain ⟨v, tx', tu', gu', tl', h1, h2, e1, e2, F⟩ := o
  obtain ⟨z, rfl⟩ := cal_vI t_X10_quarrel (by decide) e1
  refine ⟨tx', tu', gu', tl', h2, F, fun f => ?_⟩
  rw [e_L_law_1464]
  simp only [b1, b2, e1, bI_s]
  rw [e_L_law_1478]
  simp only [b1, b2, e2, bI_s, if_pos]
  rw [show nI i + 6 = nI (i + 6) from addI i 6]
theorem ls_39 {h : DT} (H : Ful tu gu tl h) {i : Nat} (hi : i + 6 ≤ X.1) (hX : X.1 ≤ 3072) : LwN X i 1497 tx tu gu tl h := by
  have q1 : nI i + 1 = nI (i + 1) := addI i 1
  have q2 : nI i + 2 = nI (i + 2) := addI i 2
  have b1 : ∀ K : Nat → RR, inb (nI i + 1) X.1 K = K (i + 1) := fun K => by rw [q1]; exact inbI (by omega) (by omega)
  have b2 : ∀ K : Nat → RR, inb (nI i + 2) X.1 K = K (i + 2) := fun K => by rw [q2]; exact inbI (by omega) (by omega)
  have o : OpW X tx tu gu tl h 138 [vP (some 0), vI (X.2 (i + 1)), vI (X.2 (i + 2))] 295 [vP (some 72), vI (X.2 (i + 1)), vI (X.2 (i + 2))] := w_op X tx tu gu tl H (fun n t k TT hA hL hl => by apply op_said <;> assumption)
  obtain ⟨v, tx', tu', gu', tl', h1, h2, e1, e2, F⟩ := o
  obtain ⟨z, rfl⟩ := cal_vI t_X10_said (by decide) e1
  refine ⟨tx', tu', gu', tl', h2, F, fun f => ?_⟩
  rw [e_L_law_1497]
  simp only [b1, b2, e1, bI_s]
  rw [e_L_law_1511]
  simp only [b1, b2, e2, bI_s, if_pos]
  rw [show nI i + 6 = nI (i + 6) from addI i 6]
theorem ls_40 {h : DT} (H : Ful tu gu tl h) (i : Nat) : LwD X i 1534 139 tx tu gu tl h := by
  have o : OpW X tx tu gu tl h 139 [vP (some 0)] 296 [vP (some 72)] := w_op X tx tu gu tl H (fun n t k TT hA hL hl => by apply op_whose <;> assumption)
  obtain ⟨v, tx', tu', gu', tl', h1, h2, e1, e2, F⟩ := o
  obtain ⟨z, rfl⟩ := cal_vI t_X10_whose (by decide) e1
  refine ⟨tx', tu', gu', tl', h2, F, fun f => ?_⟩
  rw [e1, bI_s, e_L_law_1534, e2, bI_s, if_pos rfl]
  rw [show nI i + 6 = nI (i + 6) from addI i 6]
theorem ls_41 {h : DT} (H : Ful tu gu tl h) (i : Nat) : LwD X i 1547 140 tx tu gu tl h := by
  have o : OpW X tx tu gu tl h 140 [vP (some 0)] 254 [vP (some 72)] := w_op X tx tu gu tl H (fun n t k TT hA hL hl => by apply op_straight <;> assumption)
  obtain ⟨v, tx', tu', gu', tl', h1, h2, e1, e2, F⟩ := o
  obtain ⟨z, rfl⟩ := cal_vI t_X10_straight (by decide) e1
  refine ⟨tx', tu', gu', tl', h2, F, fun f => ?_⟩
  rw [e1, bI_s, e_L_law_1547, e2, bI_s, if_pos rfl]
  rw [show nI i + 6 = nI (i + 6) from addI i 6]
theorem ls_42 {h : DT} (H : Ful tu gu tl h) (i : Nat) : LwD X i 1560 141 tx tu gu tl h := by
  have o : OpW X tx tu gu tl h 141 [vP (some 0)] 255 [vP (some 72)] := w_op X tx tu gu tl H (fun n t k TT hA hL hl => by apply op_steepest <;> assumption)
  obtain ⟨v, tx', tu', gu', tl', h1, h2, e1, e2, F⟩ := o
  obtain ⟨z, rfl⟩ := cal_vI t_X10_steepest (by decide) e1
  refine ⟨tx', tu', gu', tl', h2, F, fun f => ?_⟩
  rw [e1, bI_s, e_L_law_1560, e2, bI_s, if_pos rfl]
  rw [show nI i + 6 = nI (i + 6) from addI i 6]
theorem ls_43 {h : DT} (H : Ful tu gu tl h) {i : Nat} (hi : i + 6 ≤ X.1) (hX : X.1 ≤ 3072) : LwN X i 1569 tx tu gu tl h := by
  have q1 : nI i + 1 = nI (i + 1) := addI i 1
  have b1 : ∀ K : Nat → RR, inb (nI i + 1) X.1 K = K (i + 1) := fun K => by rw [q1]; exact inbI (by omega) (by omega)
  have o : OpW X tx tu gu tl h 142 [vP (some 0), vI (X.2 (i + 1))] 253 [vP (some 72), vI (X.2 (i + 1))] := w_op X tx tu gu tl H (fun n t k TT hA hL hl => by apply op_ledger <;> assumption)
  obtain ⟨v, tx', tu', gu', tl', h1, h2, e1, e2, F⟩ := o
  obtain ⟨z, rfl⟩ := cal_vI t_X10_ledger (by decide) e1
  refine ⟨tx', tu', gu', tl', h2, F, fun f => ?_⟩
  rw [e_L_law_1569]
  simp only [b1, e1, bI_s]
  rw [e_L_law_1578]
  simp only [b1, e2, bI_s, if_pos]
  rw [show nI i + 6 = nI (i + 6) from addI i 6]
theorem ls_44 {h : DT} (H : Ful tu gu tl h) (i : Nat) : LwD X i 1596 143 tx tu gu tl h := by
  have o : OpW X tx tu gu tl h 143 [vP (some 0)] 297 [vP (some 72)] := w_image X tx tu gu tl H
  obtain ⟨v, tx', tu', gu', tl', h1, h2, e1, e2, F⟩ := o
  obtain ⟨z, rfl⟩ := cal_vI t_X10_image (by decide) e1
  refine ⟨tx', tu', gu', tl', h2, F, fun f => ?_⟩
  rw [e1, bI_s, e_L_law_1596, e2, bI_s, if_pos rfl]
  rw [show nI i + 6 = nI (i + 6) from addI i 6]
theorem ls_45 {h : DT} (H : Ful tu gu tl h) (i : Nat) : LwD X i 1609 144 tx tu gu tl h := by
  have o : OpW X tx tu gu tl h 144 [vP (some 0)] 298 [vP (some 72)] := w_back X tx tu gu tl H
  obtain ⟨v, tx', tu', gu', tl', h1, h2, e1, e2, F⟩ := o
  obtain ⟨z, rfl⟩ := cal_vI t_X10_back (by decide) e1
  refine ⟨tx', tu', gu', tl', h2, F, fun f => ?_⟩
  rw [e1, bI_s, e_L_law_1609, e2, bI_s, if_pos rfl]
  rw [show nI i + 6 = nI (i + 6) from addI i 6]
theorem ls_46 {h : DT} (H : Ful tu gu tl h) {i : Nat} (hi : i + 6 ≤ X.1) (hX : X.1 ≤ 3072) : LwN X i 1618 tx tu gu tl h := by
  have q1 : nI i + 1 = nI (i + 1) := addI i 1
  have b1 : ∀ K : Nat → RR, inb (nI i + 1) X.1 K = K (i + 1) := fun K => by rw [q1]; exact inbI (by omega) (by omega)
  have o : OpW X tx tu gu tl h 145 [vP (some 0), vI (X.2 (i + 1))] 299 [vP (some 72), vI (X.2 (i + 1))] := w_op X tx tu gu tl H (fun n t k TT hA hL hl => by apply op_about <;> assumption)
  obtain ⟨v, tx', tu', gu', tl', h1, h2, e1, e2, F⟩ := o
  obtain ⟨z, rfl⟩ := cal_vI t_X10_about (by decide) e1
  refine ⟨tx', tu', gu', tl', h2, F, fun f => ?_⟩
  rw [e_L_law_1618]
  simp only [b1, e1, bI_s]
  rw [e_L_law_1627]
  simp only [b1, e2, bI_s, if_pos]
  rw [show nI i + 6 = nI (i + 6) from addI i 6]
end LS
