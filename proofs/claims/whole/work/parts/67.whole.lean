/-! WHAT HOLDS OF THE WHOLE between two calls -/
def FT (h : DT) : Prop := (gF h 38 1 = 0 ∧ gF h 72 5 = -1 ∧ gF h 72 6 = -1) ∨ (gF h 38 1 ≠ 0 ∧ gF h 38 2 = gF h 72 5 ∧ gF h 38 3 = gF h 72 6)
def Rel (h : DT) : Prop := ∃ n t k n' t' k' L TT, RA h (gA h 73) n t k ∧ IM h n' t' k' ∧ t' ≤ t ∧ TP h L ∧ FT h ∧ LR h t TT
theorem TP.op {h h1 h2 : DT} {L : Nat} (H : TP h L) (s : smX isXl h h1) (m : mSame h1 h2) : TP h2 L := by
  obtain ⟨t1, t2, t3, t4⟩ := H
  have e38 : gF h2 38 = gF h 38 := (smF m.1 (by omega)).trans (smF s (by unfold isXl isXa; omega))
  have e39 : gA h2 39 = gA h 39 := (smA m.1 (by omega)).trans (smA s (by unfold isXl isXa; omega))
  have e76 : gA h2 76 = gA h 76 := m.2.2.2.1.trans (smA s (by unfold isXl isXa; omega))
  have e4 : gF h2 72 4 = gF h 72 4 := m.2.2.2.2.1.trans (congrFun (sl72 s) 4)
  unfold TP
  rw [e38, e39, e76, e4]
  exact ⟨t1, t2, t3, t4⟩
theorem FT.op {h h1 h2 : DT} (H : FT h) (s : smX isXl h h1) (m : mSame h1 h2) : FT h2 := by
  have e38 : gF h2 38 = gF h 38 := (smF m.1 (by omega)).trans (smF s (by unfold isXl isXa; omega))
  have e5 : gF h2 72 5 = gF h 72 5 := m.2.2.2.2.2.1.trans (congrFun (sl72 s) 5)
  have e6 : gF h2 72 6 = gF h 72 6 := m.2.2.2.2.2.2.1.trans (congrFun (sl72 s) 6)
  unfold FT
  rw [e38, e5, e6]
  exact H
theorem IM.cg {h h2 : DT} {n t k : Nat} (H : IM h n t k) (e : ∀ c, 16 ≤ c → c ≤ 30 → gF h2 c = gF h c ∧ gA h2 c = gA h c) (e74 : gA h2 74 = gA h 74) : IM h2 n t k := by
  obtain ⟨hI, hR, hS, hT⟩ := H
  unfold IM
  rw [e74]
  exact ⟨hI, hR.cg fun c g1 g2 => e c (by omega) (by omega), hS.cg fun c g1 g2 => e c (by omega) (by omega), hT.cg fun c g1 g2 => e c (by omega) (by omega)⟩
theorem IM.op {h h1 h2 : DT} {n t k : Nat} (H : IM h n t k) (s : smX isXl h h1) (m : mSame h1 h2) : IM h2 n t k :=
  H.cg (fun c g1 g2 => ⟨(smF m.1 (by omega)).trans (smF s (by unfold isXl isXa; omega)), (smA m.1 (by omega)).trans (smA s (by unfold isXl isXa; omega))⟩) (m.2.1.trans (smA s (by unfold isXl isXa; omega)))
theorem RA.mo {h1 h2 : DT} {A : Nat → Int32} {n t k : Nat} (H : RA h1 A n t k) (m : mSame h1 h2) : RA h2 A n t k :=
  ⟨H.1, XA.cg H.2 fun c _ _ => ⟨smF m.1 (by omega), smA m.1 (by omega)⟩⟩
theorem Rel.op {X : XS} {tx tu gu : Option Nat} {tl : List SC} {h : DT} {n t k n' t' k' L : Nat} {TT : Nat → TXT} {yx ym : Nat} {ax am : List AV} (hI : IM h n' t' k') (ht : t' ≤ t) (hP : TP h L) (hF : FT h) (hL : LR h t TT) (H : OpA X tx tu gu tl h n t k yx ax ym am) : ∃ v h1 h2, cal X 100 yx ax (SK tx tu gu tl, h) = some (some v, (SK tx tu gu tl, h1)) ∧ cal X 100 ym am (SK tx tu gu tl, h1) = some (some v, (SK tx tu gu tl, h2)) ∧ Rel h2 := by
  obtain ⟨v, h1, h2, m, q, e1, e2, s, mm, hA, n1, n2⟩ := H
  obtain ⟨l1, l2, l3, l4⟩ := hL
  refine ⟨v, h1, h2, e1, e2, m, t, q, n', t', k', L, TT, hA.mo mm, hI.op s mm, ht, hP.op s mm, hF.op s mm, fun j hj => ?_, fun k hk => ?_, n2 (sl78 s l3), ?_⟩
  · exact ((l1 j hj).cg (by have := hA.1.t.2.1; omega) (xl_T s)).cg (by have := hA.1.t.2.1; omega) mm.st
  · rw [smA mm.1 (by omega)]
    exact n1 l2 k hk
  · rw [mm.2.2.2.2.2.2.2, sl72 s]
    exact l4
section WH
variable (X : XS) (tx tu gu : Option Nat) (tl : List SC)
theorem op_fault (h : DT) (H : FT h) (x : Int32) : ∃ v, cal X 100 104 [vP (some 0), vI x] (SK tx tu gu tl, h) = some (some v, (SK tx tu gu tl, h)) ∧ cal X 100 215 [vP (some 72), vI x] (SK tx tu gu tl, h) = some (some v, (SK tx tu gu tl, h)) := by
  rcases H with ⟨a1, a2, a3⟩ | ⟨a1, a2, a3⟩
  · refine ⟨vI (-1), ?_, ?_⟩
    · rw [c_X10_fault, e_X10_fault_0, a1, if_pos rfl]
    · rw [c_X11_fault, e_X11_fault_0, a2, a3]
      by_cases z : x = 0
      · rw [if_pos z]
      · rw [if_neg z]
        by_cases y : x = 1
        · rw [if_pos y]
        · rw [if_neg y]
  · refine ⟨vI (if x = 0 then gF h 72 5 else if x = 1 then gF h 72 6 else -1), ?_, ?_⟩
    · rw [c_X10_fault, e_X10_fault_0, if_neg a1, a2, a3]
      by_cases z : x = 0
      · rw [if_pos z, if_pos z]
      · rw [if_neg z, if_neg z]
        by_cases y : x = 1
        · rw [if_pos y, if_pos y]
        · rw [if_neg y, if_neg y]
    · rw [c_X11_fault, e_X11_fault_0]
      by_cases z : x = 0
      · rw [if_pos z, if_pos z]
      · rw [if_neg z, if_neg z]
        by_cases y : x = 1
        · rw [if_pos y, if_pos y]
        · rw [if_neg y, if_neg y]
end WH
