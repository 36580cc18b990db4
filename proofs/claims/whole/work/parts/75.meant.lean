/-! WHAT MAY HAVE BEEN MEANT: the reference; meant -/
theorem fL_mem (P : Nat → Bool) : ∀ (c p x : Nat), x ∈ fL P c p → p ≤ x ∧ x < p + c
  | 0, p, x, h => by cases h
  | c + 1, p, x, h => by
    unfold fL at h
    cases hp : P p with
    | true =>
      rw [hp, cond_true] at h
      rcases List.mem_cons.mp h with rfl | h
      · omega
      · have := fL_mem P c (p + 1) x h
        omega
    | false =>
      rw [hp, cond_false] at h
      have := fL_mem P c (p + 1) x h
      omega
def isK3 (c : Nat) : Prop := c = 78 ∨ c = 79 ∨ c = 80
theorem isK3_H {c : Nat} (h : isK3 c) : isH c := by unfold isK3 at h; unfold isH; omega
section ME
variable (X : XS) (d : Nat) (tx tu gu : Option Nat) (tl : List SC)
theorem k_hof {A : Nat → Int32} {n t k p sp w : Nat} {TT : Nat → TXT} (h : DT) (H : KX A n t k TT h) (hp : p < n) (hs : sp < n) (hw : w < 100) : ∃ h', cal X (d + 7) 227 [vP (some 72), vI (nI p), vI (nI sp), vI (nI w)] (SK tx tu gu tl, h) = some (some (vI (zI (hrV (rulH (A 2) TT) A n p sp (w : Int)))), (SK tx tu gu tl, h')) ∧ smX isK3 h h' ∧ NmA h' 78 := by
  obtain ⟨a1, a2, a3, a4⟩ := H
  obtain ⟨h', e1, e2, e3⟩ := k_hear X d tx tu gu tl h (n := n) (t := t) (k := k) (TT := TT) (p := p) (q := sp) (w := w) (by rw [a2]; exact a1) a3 a4 hp hs hw
  rw [a2] at e1
  exact ⟨h', e1, e2.mo (fun c hc => by unfold isK3; omega), e3⟩
theorem k_isM {A : Nat → Int32} {n t k q err sp w : Nat} {TT : Nat → TXT} (hQ : HrdOk A n q) (hn : n ≤ 5) (he : err ≤ 9) (hs : sp < n) (hw : w < 100) : ∀ (c i : Nat) (h : DT), i + c = q → KX A n t k TT h → ∃ h', (∀ f, 2 * c + 1 ≤ f → m_X11_isMeant X (d + 7) f 4 [(0, vP (some 72)), (1, vI (nI sp)), (2, vI (nI w)), (3, vI (nI err)), (4, vI (nI (48 + 2 * i)))] [] (SK tx tu gu tl, h) = some (some (vI (bzB (ftB (fiQ (rulH (A 2) TT) A n err (100 * sp + w)) c i))), (SK tx tu gu tl, h'))) ∧ smX isK3 h h' ∧ NmA h' 78
  | 0, i, h, hi, H => by
    have q6 := hQ.2.1
    refine ⟨h, fun f hf => ?_, smX.rf _ h, H.2.2.2⟩
    obtain ⟨f, rfl⟩ : ∃ g, f = g + 1 := ⟨f - 1, by omega⟩
    rw [e_X11_isMeant_4, H.2.1, hQ.1, show (48 : Int32) = nI 48 from rfl, show (2 : Int32) = nI 2 from rfl, mulI, addI, if_pos (nI_le (by omega) (by omega))]
    rfl
  | c + 1, i, h, hi, H => by
    have q6 := hQ.2.1
    obtain ⟨w1, w2, w3, w4, w5⟩ := hrd_q hQ hn (i := i) (by omega)
    obtain ⟨h1, e1, e2, e3⟩ := k_hof X d tx tu gu tl h H (p := whN A i) (sp := sp) (w := w) w2 hs hw
    have H1 := H.cg (e2.mo fun c => isK3_H) e3
    obtain ⟨h2, k1, k2, k3⟩ := k_isM hQ hn he hs hw c (i + 1) h1 (by omega) H1
    obtain ⟨b1, b2⟩ := hrV_b (o := rulH (A 2) TT) H.1 (p := whN A i) (q := sp) (w := w) (by omega) (by omega) hw
    have pd : (100 * sp + w) / 100 = sp := by omega
    have pm : (100 * sp + w) % 100 = w := by omega
    have fq : fiQ (rulH (A 2) TT) A n err (100 * sp + w) i = decide ((hrV (rulH (A 2) TT) A n (whN A i) sp (w : Int) - asZ A i).natAbs ≤ err) := by
      unfold fiQ
      rw [pd, pm]
    have st : ∀ f, m_X11_isMeant X (d + 7) (f + 2) 4 [(0, vP (some 72)), (1, vI (nI sp)), (2, vI (nI w)), (3, vI (nI err)), (4, vI (nI (48 + 2 * i)))] [] (SK tx tu gu tl, h) = if (if (0 : Int32) ≤ zI (hrV (rulH (A 2) TT) A n (whN A i) sp (w : Int) - asZ A i) then zI (hrV (rulH (A 2) TT) A n (whN A i) sp (w : Int) - asZ A i) else -zI (hrV (rulH (A 2) TT) A n (whN A i) sp (w : Int) - asZ A i)) ≤ nI err then m_X11_isMeant X (d + 7) f 4 [(0, vP (some 72)), (1, vI (nI sp)), (2, vI (nI w)), (3, vI (nI err)), (4, vI (nI (48 + 2 * (i + 1))))] [] (SK tx tu gu tl, h1) else some (some (vI (0)), (SK tx tu gu tl, h1)) := fun f => by
      rw [e_X11_isMeant_4, H.2.1, hQ.1, show (48 : Int32) = nI 48 from rfl, show (2 : Int32) = nI 2 from rfl, mulI, addI, if_neg (nI_ge (by omega) (by omega)), inbI (by omega) (by omega), w1, e1, bI_s, e_X11_isMeant_33, nI_1, inbI (by omega) (by omega), H1.2.1, show 48 + 2 * i + 1 = 49 + 2 * i by omega, w3, zI_sub, k_size X (d + 6) tx tu gu tl, bI_s, show (2 : Int32) = nI 2 from rfl, addI, show 48 + 2 * i + 2 = 48 + 2 * (i + 1) by omega]
    unfold ftB
    by_cases g : fiQ (rulH (A 2) TT) A n err (100 * sp + w) i = true
    · rw [g, Bool.true_and]
      rw [fq] at g
      refine ⟨h2, fun f hf => ?_, e2.tr k2, k3⟩
      obtain ⟨f, rfl⟩ : ∃ g, f = g + 2 := ⟨f - 2, by omega⟩
      rw [st, if_pos ((abs_k (by omega) (by omega) he).mpr (of_decide_eq_true g))]
      exact k1 f (by omega)
    · rw [Bool.eq_false_iff.mpr g, Bool.false_and]
      rw [fq] at g
      refine ⟨h1, fun f hf => ?_, e2, e3⟩
      obtain ⟨f, rfl⟩ : ∃ g, f = g + 2 := ⟨f - 2, by omega⟩
      rw [st, if_neg (fun y => g (decide_eq_true ((abs_k (by omega) (by omega) he).mp y)))]
      rfl
theorem k_isMt {A : Nat → Int32} {n t k q err sp w : Nat} {TT : Nat → TXT} (hQ : HrdOk A n q) (he : err ≤ 9) (hs : sp < n) (hw : w < 100) (h : DT) (H : KX A n t k TT h) : ∃ h', cal X (d + 8) 279 [vP (some 72), vI (nI sp), vI (nI w), vI (nI err)] (SK tx tu gu tl, h) = some (some (vI (bzB (fit (rulH (A 2) TT) A n err q (100 * sp + w)))), (SK tx tu gu tl, h')) ∧ KX A n t k TT h' ∧ smX isK3 h h' := by
  have q6 := hQ.2.1
  obtain ⟨h', k1, k2, k3⟩ := k_isM X d tx tu gu tl hQ H.1.1.2.1 he hs hw q 0 h (by omega) H
  refine ⟨h', ?_, H.cg (k2.mo fun c => isK3_H) k3, k2⟩
  rw [c_X11_isMeant, e_X11_isMeant_0]
  exact k1 999999 (by omega)
/-- the rest of the places: how many fit, or the first one -/
theorem k_min {A : Nat → Int32} {n t k q err : Nat} {wh : Bool} {TT : Nat → TXT} (hQ : HrdOk A n q) (he : err ≤ 9) {sp : Nat} (hs : sp < n) : ∀ (c w m : Nat) (h : DT), w + c = 100 → m ≤ 100 * sp + w → KX A n t k TT h → ∃ h', KX A n t k TT h' ∧ smX isK3 h h' ∧ ((wh = true ∧ fL (fit (rulH (A 2) TT) A n err q) c (100 * sp + w) ≠ [] ∧ ∀ f, 2 * c + 1 ≤ f → m_X11_meant X (d + 8) f 40 [(0, vP (some 72)), (1, vI (nI err)), (2, vI (bzB wh)), (3, vI (nI m)), (4, vI (nI sp)), (5, vI (nI w))] [] (SK tx tu gu tl, h) = some (some (vI (nI ((fL (fit (rulH (A 2) TT) A n err q) c (100 * sp + w)).headD 0))), (SK tx tu gu tl, h'))) ∨ ((wh = true → fL (fit (rulH (A 2) TT) A n err q) c (100 * sp + w) = []) ∧ ∀ F f, F + (2 * c + 1) ≤ f → ∃ f', F ≤ f' ∧ m_X11_meant X (d + 8) f 40 [(0, vP (some 72)), (1, vI (nI err)), (2, vI (bzB wh)), (3, vI (nI m)), (4, vI (nI sp)), (5, vI (nI w))] [] (SK tx tu gu tl, h) = m_X11_meant X (d + 8) f' 26 [(0, vP (some 72)), (1, vI (nI err)), (2, vI (bzB wh)), (3, vI (nI (m + (fL (fit (rulH (A 2) TT) A n err q) c (100 * sp + w)).length))), (4, vI (nI (sp + 1)))] [] (SK tx tu gu tl, h')))
  | 0, w, m, h, hw, hm, H => by
    refine ⟨h, H, smX.rf _ h, Or.inr ⟨fun _ => rfl, fun F f hf => ?_⟩⟩
    obtain ⟨f, rfl⟩ : ∃ g, f = g + 1 := ⟨f - 1, by omega⟩
    refine ⟨f, by omega, ?_⟩
    have hn := H.1.1.2.1
    rw [e_X11_meant_40, show (100 : Int32) = nI 100 from rfl, if_pos (nI_le (by omega) (by omega)), nI_1]
    rfl
  | c + 1, w, m, h, hw, hm, H => by
    have hn := H.1.1.2.1
    obtain ⟨h1, e1, e2, e3⟩ := k_isMt X d tx tu gu tl hQ he hs (w := w) (by omega) h H
    have fe : fL (fit (rulH (A 2) TT) A n err q) (c + 1) (100 * sp + w) = bif fit (rulH (A 2) TT) A n err q (100 * sp + w) then (100 * sp + w) :: fL (fit (rulH (A 2) TT) A n err q) c (100 * sp + (w + 1)) else fL (fit (rulH (A 2) TT) A n err q) c (100 * sp + (w + 1)) := rfl
    have st : ∀ f, m_X11_meant X (d + 8) (f + 1) 40 [(0, vP (some 72)), (1, vI (nI err)), (2, vI (bzB wh)), (3, vI (nI m)), (4, vI (nI sp)), (5, vI (nI w))] [] (SK tx tu gu tl, h) = if bzB (fit (rulH (A 2) TT) A n err q (100 * sp + w)) = 0 then m_X11_meant X (d + 8) f 40 [(0, vP (some 72)), (1, vI (nI err)), (2, vI (bzB wh)), (3, vI (nI m)), (4, vI (nI sp)), (5, vI (nI (w + 1)))] [] (SK tx tu gu tl, h1) else if bzB wh = 1 then some (some (vI (nI (100 * sp + w))), (SK tx tu gu tl, h1)) else m_X11_meant X (d + 8) f 40 [(0, vP (some 72)), (1, vI (nI err)), (2, vI (bzB wh)), (3, vI (nI (m + 1))), (4, vI (nI sp)), (5, vI (nI (w + 1)))] [] (SK tx tu gu tl, h1) := fun f => by
      rw [e_X11_meant_40, show (100 : Int32) = nI 100 from rfl, if_neg (nI_ge (by omega) (by omega)), e1, bI_s, mulI, addI, nI_1, nI_1]
    cases hF : fit (rulH (A 2) TT) A n err q (100 * sp + w) with
    | false =>
      rw [hF, cond_false] at fe
      obtain ⟨h2, j1, j2, j3⟩ := k_min (wh := wh) hQ he hs c (w + 1) m h1 (by omega) (by omega) e2
      rw [fe]
      refine ⟨h2, j1, e3.tr j2, ?_⟩
      rcases j3 with ⟨z1, z2, z3⟩ | ⟨z1, z2⟩
      · refine Or.inl ⟨z1, z2, fun f hf => ?_⟩
        obtain ⟨f, rfl⟩ : ∃ g, f = g + 1 := ⟨f - 1, by omega⟩
        rw [st, hF, bz_f, if_pos rfl]
        exact z3 f (by omega)
      · refine Or.inr ⟨z1, fun F f hf => ?_⟩
        obtain ⟨f, rfl⟩ : ∃ g, f = g + 1 := ⟨f - 1, by omega⟩
        rw [st, hF, bz_f, if_pos rfl]
        exact z2 F f (by omega)
    | true =>
      rw [hF, cond_true] at fe
      rw [fe]
      cases hwh : wh with
      | true =>
        refine ⟨h1, e2, e3, Or.inl ⟨rfl, by simp, fun f hf => ?_⟩⟩
        obtain ⟨f, rfl⟩ : ∃ g, f = g + 1 := ⟨f - 1, by omega⟩
        rw [hwh] at st
        rw [st, hF, bz_t, if_neg one0, if_pos rfl]
        rfl
      | false =>
        obtain ⟨h2, j1, j2, j3⟩ := k_min (wh := false) hQ he hs c (w + 1) (m + 1) h1 (by omega) (by omega) e2
        refine ⟨h2, j1, e3.tr j2, ?_⟩
        rcases j3 with ⟨z1, _⟩ | ⟨z1, z2⟩
        · cases z1
        · refine Or.inr ⟨(fun z => by cases z), fun F f hf => ?_⟩
          obtain ⟨f, rfl⟩ : ∃ g, f = g + 1 := ⟨f - 1, by omega⟩
          rw [hwh] at st
          rw [st, hF, bz_t, if_neg one0, bz_f, if_neg (by decide), List.length_cons]
          obtain ⟨f', f1, f2⟩ := z2 F f (by omega)
          rw [bz_f] at f2
          exact ⟨f', f1, by rw [f2, show m + 1 + (fL (fit (rulH (A 2) TT) A n err q) c (100 * sp + (w + 1))).length = m + ((fL (fit (rulH (A 2) TT) A n err q) c (100 * sp + (w + 1))).length + 1) by omega]⟩
/-- what meant answers -/
def mnI (wh : Bool) (m : Nat) (l : List Nat) : Int32 := bif wh then (if l = [] then -1 else nI (l.headD 0)) else nI (m + l.length)
theorem k_mout {A : Nat → Int32} {n t k q err : Nat} {wh : Bool} {TT : Nat → TXT} (hQ : HrdOk A n q) (he : err ≤ 9) : ∀ (c sp m : Nat) (h : DT), sp + c = n → m ≤ 100 * sp → KX A n t k TT h → ∃ h', KX A n t k TT h' ∧ smX isK3 h h' ∧ ∀ f, 203 * c + 1 ≤ f → m_X11_meant X (d + 8) f 26 [(0, vP (some 72)), (1, vI (nI err)), (2, vI (bzB wh)), (3, vI (nI m)), (4, vI (nI sp))] [] (SK tx tu gu tl, h) = some (some (vI (mnI wh m (fL (fit (rulH (A 2) TT) A n err q) (100 * c) (100 * sp)))), (SK tx tu gu tl, h'))
  | 0, sp, m, h, hs, hm, H => by
    have hn := H.1.1.2.1
    refine ⟨h, H, smX.rf _ h, fun f hf => ?_⟩
    obtain ⟨f, rfl⟩ : ∃ g, f = g + 1 := ⟨f - 1, by omega⟩
    rw [e_X11_meant_26, H.2.1, H.1.1.1, if_pos (nI_le (by omega) (by omega))]
    cases wh with
    | true => rw [bz_t, if_pos rfl]; rfl
    | false => rw [bz_f, if_neg (by decide)]; rfl
  | c + 1, sp, m, h, hs, hm, H => by
    have hn := H.1.1.2.1
    obtain ⟨h1, k1, k2, k3⟩ := k_min X d tx tu gu tl (wh := wh) hQ he (sp := sp) (by omega) 100 0 m h rfl (by omega) H
    have ll := fL_len (fit (rulH (A 2) TT) A n err q) 100 (100 * sp + 0)
    have st : ∀ f, m_X11_meant X (d + 8) (f + 1) 26 [(0, vP (some 72)), (1, vI (nI err)), (2, vI (bzB wh)), (3, vI (nI m)), (4, vI (nI sp))] [] (SK tx tu gu tl, h) = m_X11_meant X (d + 8) f 40 [(0, vP (some 72)), (1, vI (nI err)), (2, vI (bzB wh)), (3, vI (nI m)), (4, vI (nI sp)), (5, vI (nI 0))] [] (SK tx tu gu tl, h) := fun f => by
      rw [e_X11_meant_26, H.2.1, H.1.1.1, if_neg (nI_ge (by omega) (by omega))]
      rfl
    rw [show 100 * (c + 1) = 100 + 100 * c by omega, fL_add]
    rcases k3 with ⟨z1, z2, z3⟩ | ⟨z1, z2⟩
    · refine ⟨h1, k1, k2, fun f hf => ?_⟩
      obtain ⟨f, rfl⟩ : ∃ g, f = g + 1 := ⟨f - 1, by omega⟩
      rw [st, z3 f (by omega), z1]
      refine rI ?_
      unfold mnI
      rw [Nat.add_zero] at z2 ⊢
      cases hl : fL (fit (rulH (A 2) TT) A n err q) 100 (100 * sp) with
      | nil => exact absurd hl z2
      | cons x l => rw [cond_true, if_neg (by simp)]; rfl
    · obtain ⟨h2, j1, j2, j3⟩ := k_mout (wh := wh) hQ he c (sp + 1) (m + (fL (fit (rulH (A 2) TT) A n err q) 100 (100 * sp + 0)).length) h1 (by omega) (by omega) k1
      refine ⟨h2, j1, k2.tr j2, fun f hf => ?_⟩
      obtain ⟨f, rfl⟩ : ∃ g, f = g + 1 := ⟨f - 1, by omega⟩
      obtain ⟨f', f1, f2⟩ := z2 (203 * c + 1) f (by omega)
      rw [st, f2, j3 f' f1]
      refine rI ?_
      rw [Nat.add_zero] at z1 ⊢
      unfold mnI
      cases hwh : wh with
      | true => rw [z1 hwh]; rfl
      | false => rw [cond_false, cond_false, List.length_append, Nat.add_assoc, show 100 * (sp + 1) = 100 * sp + 100 by omega]
theorem k_meant0 {A : Nat → Int32} {n t k q err : Nat} {wh : Bool} {TT : Nat → TXT} (hQ : HrdOk A n q) (he : err ≤ 9) (h : DT) (H : KX A n t k TT h) : ∃ h', KX A n t k TT h' ∧ smX isK3 h h' ∧ cal X (d + 9) 280 [vP (some 72), vI (nI err), vI (bzB wh)] (SK tx tu gu tl, h) = some (some (vI (mnI wh 0 (fL (fit (rulH (A 2) TT) A n err q) (100 * n) 0))), (SK tx tu gu tl, h')) := by
  have hn := H.1.1.2.1
  obtain ⟨h', k1, k2, k3⟩ := k_mout X d tx tu gu tl (wh := wh) hQ he n 0 0 h (by omega) (by omega) H
  refine ⟨h', k1, k2, ?_⟩
  have d1 : (decide ((0 : Int32) ≤ nI err) && decide (nI err ≤ 9)) = true := in_dec ⟨z0le (by omega), nI_le (b := 9) he (by omega)⟩
  have d2 : (decide ((0 : Int32) ≤ bzB wh) && decide (bzB wh ≤ 1)) = true := by cases wh <;> decide
  rw [c_X11_meant, e_X11_meant_0, k_isIn X (d + 7) tx tu gu tl, d1, bz_t, bI_s, if_neg one0, k_isIn X (d + 7) tx tu gu tl, d2, bz_t, bI_s, if_neg one0]
  exact k3 999999 (by omega)
end ME
