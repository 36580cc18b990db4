/-! A LAW IN THE REFERENCE: its machine does what rRun says -/
def vsB (h : DT) : List Int → Prop
  | [] => True
  | v :: vs => gB h 79 vs.length = lI v ∧ vsB h vs
def tsA (h : DT) : List Bool → Prop
  | [] => True
  | b :: ts => gA h 80 ts.length = bzB b ∧ tsA h ts
theorem vsB_up {h : DT} {k : Nat} {x : Int64} : ∀ (vs : List Int), vs.length ≤ k → vsB h vs → vsB (sB h 79 k x) vs
  | [], _, _ => trivial
  | v :: vs, hl, H => by
    have hl' : vs.length + 1 ≤ k := hl
    refine ⟨?_, vsB_up vs (by omega) H.2⟩
    rw [gB_sB, if_neg (by omega)]
    exact H.1
theorem vsB_A {h : DT} {c k : Nat} {x : Int32} : ∀ (vs : List Int), vsB h vs → vsB (sA h c k x) vs
  | [], _ => trivial
  | v :: vs, H => ⟨H.1, vsB_A vs H.2⟩
theorem tsA_up {h : DT} {k : Nat} {x : Int32} : ∀ (ts : List Bool), ts.length ≤ k → tsA h ts → tsA (sA h 80 k x) ts
  | [], _, _ => trivial
  | v :: ts, hl, H => by
    have hl' : ts.length + 1 ≤ k := hl
    refine ⟨?_, tsA_up ts (by omega) H.2⟩
    rw [gA_sA, if_neg (by omega)]
    exact H.1
theorem tsA_B {h : DT} {c k : Nat} {x : Int64} : ∀ (ts : List Bool), tsA h ts → tsA (sB h c k x) ts
  | [], _ => trivial
  | v :: ts, H => ⟨H.1, tsA_B ts H.2⟩
def RSt (h : DT) (s : RS) : Prop := vsB h s.1 ∧ tsA h s.2 ∧ ∀ v ∈ s.1, b6 v
theorem RSt_v {h : DT} {vs : List Int} {ts : List Bool} {v : Int} (H1 : vsB h vs) (H2 : tsA h ts) (H3 : ∀ u ∈ vs, b6 u) (hv : b6 v) : RSt (sB h 79 vs.length (lI v)) (v :: vs, ts) := by
  refine ⟨⟨?_, vsB_up vs (Nat.le_refl _) H1⟩, tsA_B ts H2, fun u hu => ?_⟩
  · rw [gB_sB, if_pos ⟨rfl, rfl⟩]
  · rcases List.mem_cons.mp hu with e | e
    · rw [e]; exact hv
    · exact H3 u e
theorem RSt_t {h : DT} {vs : List Int} {ts : List Bool} {b : Bool} (H1 : vsB h vs) (H2 : tsA h ts) (H3 : ∀ u ∈ vs, b6 u) : RSt (sA h 80 ts.length (bzB b)) (vs, b :: ts) :=
  ⟨vsB_A vs H1, ⟨by rw [gA_sA, if_pos ⟨rfl, rfl⟩], tsA_up ts (Nat.le_refl _) H2⟩, H3⟩
def cdA (h : DT) (c0 : Nat) : Nat → Cd → Prop
  | _, [] => True
  | w, q :: e => gA h 75 (c0 + 2 * w) = nI q.1 ∧ gA h 75 (c0 + 2 * w + 1) = nI q.2 ∧ cdA h c0 (w + 1) e
theorem cdA_cg {h h' : DT} (eq : gA h' 75 = gA h 75) (c0 : Nat) : ∀ (e : Cd) (w : Nat), cdA h c0 w e → cdA h' c0 w e
  | [], _, _ => trivial
  | q :: e, w, H => ⟨by rw [eq]; exact H.1, by rw [eq]; exact H.2.1, cdA_cg eq c0 e (w + 1) H.2.2⟩
def okQ (q : Nat × Nat) : Prop := q.1 < 1000 ∧ q.2 ≤ 9999 ∧ (q.1 = 1 → q.2 < 9)
theorem nar1 : vp_nar .boolean 1 = 1 := rfl
theorem nar0 : vp_nar .boolean 0 = 0 := rfl
theorem narb (b : Bool) : vp_nar .boolean (bzB b) = bzB b := by cases b <;> rfl
section SU
variable (X : XS) (d : Nat) (tx tu gu : Option Nat) (tl : List SC)
theorem k_clip (h : DT) {z : Int} (hz : -4611686018427387904 ≤ z ∧ z < 4611686018427387904) : cal X (d + 1) 217 [vL (lI z)] (SK tx tu gu tl, h) = some (some (vL (lI (clp z))), (SK tx tu gu tl, h)) := by
  rw [c_X11_clip, e_X11_clip_0, show (1000000 : Int64) = lI 1000000 from rfl, lI_neg]
  unfold clp
  by_cases h1 : 1000000 < z
  · rw [if_neg (fun q => nlle (by omega) (by omega) (show ¬ z ≤ 1000000 by omega) ((lg_cmp_le _ _).mp q)), if_pos h1]
  · rw [if_pos ((lg_cmp_le _ _).mpr (lle (by omega) (by omega) (show z ≤ 1000000 by omega))), if_neg h1]
    by_cases h2 : z < -1000000
    · rw [if_neg (fun q => nlle (by omega) (by omega) (show ¬ -1000000 ≤ z by omega) ((lg_cmp_ge _ _).mp q)), if_pos h2]
    · rw [if_pos ((lg_cmp_ge _ _).mpr (lle (by omega) (by omega) (show -1000000 ≤ z by omega))), if_neg h2]
theorem k_stepOf (h : DT) {x y : Int} (hx : -4611686018427387904 ≤ x ∧ x < 4611686018427387904) (hy : -4611686018427387904 ≤ y ∧ y < 4611686018427387904) : cal X (d + 1) 221 [vL (lI x), vL (lI y)] (SK tx tu gu tl, h) = some (some (vL (lI (stI x y))), (SK tx tu gu tl, h)) := by
  rw [c_X11_stepOf, e_X11_stepOf_0, show (1 : Int64) = lI 1 from rfl, lI_sub, lI_add]
  unfold stI
  by_cases h1 : x < y
  · rw [if_neg (fun q => nlle (by omega) (by omega) (show ¬ y ≤ x by omega) ((lg_cmp_ge _ _).mp q)), if_pos h1]
  · rw [if_pos ((lg_cmp_ge _ _).mpr (lle (by omega) (by omega) (show y ≤ x by omega))), if_neg h1]
    by_cases h2 : y < x
    · rw [if_neg (fun q => nlle (by omega) (by omega) (show ¬ x ≤ y by omega) ((lg_cmp_le _ _).mp q)), if_pos h2]
    · rw [if_pos ((lg_cmp_le _ _).mpr (lle (by omega) (by omega) (show x ≤ y by omega))), if_neg h2]
theorem lI_div {l r : Int} (hl : -2000000 ≤ l ∧ l ≤ 2000000) (hr : -2000000 ≤ r ∧ r ≤ 2000000) : lI l / lI r = lI (l.tdiv r) := by
  refine Int64.toInt_inj.mp ?_
  have hb : (l.tdiv r).natAbs ≤ l.natAbs := by
    rw [Int.natAbs_tdiv]
    exact Nat.div_le_self _ _
  rw [Int64.toInt_div_of_ne_left _ _ (by intro e; have := congrArg Int64.toInt e; rw [lt6 (by omega) (by omega)] at this; have e2 : Int64.minValue.toInt = -9223372036854775808 := by decide
                                         omega), lt6 (by omega) (by omega), lt6 (by omega) (by omega), lt6 (by omega) (by omega)]
theorem b6w {x : Int} (h : b6 x) : -2000000 ≤ x ∧ x ≤ 2000000 := by unfold b6 at h; omega
theorem k_two (h : DT) {o : Nat} {x y : Int} (ho : o < 1000) (hx : b6 x) (hy : b6 y) : cal X (d + 2) 218 [vI (nI o), vL (lI x), vL (lI y)] (SK tx tu gu tl, h) = some (some (vL (lI (twoI o x y))), (SK tx tu gu tl, h)) := by
  have hx' := b6w hx
  have hy' := b6w hy
  have hm := mul_b hx' hy'
  have ht := b6w (tdiv_b y hx)
  rw [c_X11_two, e_X11_two_0]
  unfold twoI
  by_cases h6 : o = 6
  · subst h6
    rw [if_pos (by decide), if_pos rfl, lI_add, k_clip X d tx tu gu tl h (by omega)]
    rfl
  rw [if_neg (by rw [litI 6, eqI (by omega) (by omega)]; exact h6), if_neg h6]
  by_cases h7 : o = 7
  · subst h7
    rw [if_pos (by decide), if_pos rfl, lI_sub, k_clip X d tx tu gu tl h (by omega)]
    rfl
  rw [if_neg (by rw [litI 7, eqI (by omega) (by omega)]; exact h7), if_neg h7]
  by_cases h8 : o = 8
  · subst h8
    rw [if_pos (by decide), if_pos rfl, lI_mul, k_clip X d tx tu gu tl h (by omega)]
    rfl
  rw [if_neg (by rw [litI 8, eqI (by omega) (by omega)]; exact h8), if_neg h8, show (0 : Int64) = lI 0 from rfl]
  by_cases h0 : y = 0
  · rw [if_pos ((lg_cmp_eq _ _).mpr (by rw [h0])), if_pos h0]
  · have n0 : ¬ lI y = lI 0 := lne (by omega) (by omega) h0
    rw [if_neg (fun q => n0 ((lg_cmp_eq _ _).mp q)), if_neg n0, if_neg h0, lI_div hx' hy', k_clip X d tx tu gu tl h (by omega)]
    rfl
theorem k_isAsked (h : DT) {o : Nat} {x y : Int} (ho : o < 1000) (hx : b6 x) (hy : b6 y) : cal X (d + 1) 219 [vI (nI o), vL (lI x), vL (lI y)] (SK tx tu gu tl, h) = some (some (vI (bzB (askI o x y))), (SK tx tu gu tl, h)) := by
  have hx' := b6w hx
  have hy' := b6w hy
  rw [c_X11_isAsked, e_X11_isAsked_0]
  unfold askI
  by_cases h1 : o = 10
  · subst h1
    rw [if_pos (by decide), if_pos rfl]
    by_cases q : x < y
    · rw [if_neg (fun g => nlle (by omega) (by omega) (show ¬ y ≤ x by omega) ((lg_cmp_ge _ _).mp g))]; simp [q, bzB]
    · rw [if_pos ((lg_cmp_ge _ _).mpr (lle (by omega) (by omega) (show y ≤ x by omega)))]; simp [q, bzB]
  rw [if_neg (by rw [litI 10, eqI (by omega) (by omega)]; exact h1), if_neg h1]
  by_cases h2 : o = 11
  · subst h2
    rw [if_pos (by decide), if_pos rfl]
    by_cases q : x ≤ y
    · rw [if_neg (fun g => nllt (by omega) (by omega) (show ¬ y < x by omega) ((lg_cmp_gt _ _).mp g))]; simp [q, bzB]
    · rw [if_pos ((lg_cmp_gt _ _).mpr (llt (by omega) (by omega) (show y < x by omega)))]; simp [q, bzB]
  rw [if_neg (by rw [litI 11, eqI (by omega) (by omega)]; exact h2), if_neg h2]
  by_cases h3 : o = 12
  · subst h3
    rw [if_pos (by decide), if_pos rfl]
    by_cases q : y < x
    · rw [if_neg (fun g => nlle (by omega) (by omega) (show ¬ x ≤ y by omega) ((lg_cmp_le _ _).mp g))]; simp [q, bzB]
    · rw [if_pos ((lg_cmp_le _ _).mpr (lle (by omega) (by omega) (show x ≤ y by omega)))]; simp [q, bzB]
  rw [if_neg (by rw [litI 12, eqI (by omega) (by omega)]; exact h3), if_neg h3]
  by_cases h4 : o = 13
  · subst h4
    rw [if_pos (by decide), if_pos rfl]
    by_cases q : y ≤ x
    · rw [if_neg (fun g => nllt (by omega) (by omega) (show ¬ x < y by omega) ((lg_cmp_lt _ _).mp g))]; simp [q, bzB]
    · rw [if_pos ((lg_cmp_lt _ _).mpr (llt (by omega) (by omega) (show x < y by omega)))]; simp [q, bzB]
  rw [if_neg (by rw [litI 13, eqI (by omega) (by omega)]; exact h4), if_neg h4]
  by_cases h5 : o = 14
  · subst h5
    rw [if_pos (by decide), if_pos rfl]
    by_cases q : x = y
    · rw [if_pos ((lg_cmp_eq _ _).mpr (by rw [q]))]; simp [q, bzB]
    · rw [if_neg (fun g => lne (by omega) (by omega) q ((lg_cmp_eq _ _).mp g))]; simp [q, bzB]
  rw [if_neg (by rw [litI 14, eqI (by omega) (by omega)]; exact h5), if_neg h5]
  by_cases q : x = y
  · rw [if_pos ((lg_cmp_eq _ _).mpr (by rw [q]))]; simp [q, bzB]
  · rw [if_neg (fun g => lne (by omega) (by omega) q ((lg_cmp_eq _ _).mp g))]; simp [q, bzB]
theorem k_joinedR (h : DT) {o : Nat} (ho : o < 1000) (b1 b2 : Bool) : cal X (d + 1) 222 [vI (nI o), vI (bzB b1), vI (bzB b2)] (SK tx tu gu tl, h) = some (some (vI (bzB (if o = 21 then b1 && b2 else b1 || b2))), (SK tx tu gu tl, h)) := by
  rw [c_X11_joined, e_X11_joined_0]
  by_cases h1 : o = 21
  · subst h1
    rw [if_pos (by decide), if_pos rfl]
    cases b1 <;> cases b2 <;> rfl
  · rw [if_neg (by rw [litI 21, eqI (by omega) (by omega)]; exact h1), if_neg h1]
    cases b1 <;> cases b2 <;> rfl
/-- what laws look up in the reference -/
def EnvK (h : DT) (E : EV) : Prop := (∀ k, k < 9 → gA h 78 k = zI (E.1 k)) ∧ EB E ∧ ∀ (d : Nat) (h' : DT) (x : Int), smX (fun c => c = 79 ∨ c = 80) h h' → b6 x → cal X (d + 4) 220 [vP (some 72), vL (lI x)] (SK tx tu gu tl, h') = some (some (vL (lI (E.2 x))), (SK tx tu gu tl, h'))
theorem EnvK.cg {h h' : DT} {E : EV} (H : EnvK X tx tu gu tl h E) (s : smX (fun c => c = 79 ∨ c = 80) h h') : EnvK X tx tu gu tl h' E :=
  ⟨fun k hk => by rw [smA s (by omega)]; exact H.1 k hk, H.2.1, fun d h2 x hs hx => H.2.2 d h2 x (s.tr hs) hx⟩
theorem su_step {x c0 n1 n2 i w1 f : Nat} {E : EV} {q : Nat × Nat} {s s' : RS} (h : DT) (HE : EnvK X tx tu gu tl h E) (HS : RSt h s) (hx : x + 2 < 2724) (hc : c0 + 2 * i + 1 < 2724) (hw : gA h 75 (x + 2) = nI w1) (hi : i < w1) (hw1 : w1 ≤ 400) (hq1 : gA h 75 (c0 + 2 * i) = nI q.1) (hq2 : gA h 75 (c0 + 2 * i + 1) = nI q.2) (ok : okQ q) (e1 : n1 = s.1.length) (e2 : n2 = s.2.length) (l1 : s.1.length < 325) (l2 : s.2.length < 325) (e : rOp E q s = some s') :
    ∃ f' h', f ≤ f' ∧ m_X11_summedUp X (d + 4) (f + 6) 38 [(0, vP (some 72)), (3, vI (nI x)), (4, vI (nI c0)), (5, vI (nI n1)), (6, vI (nI n2)), (7, vI (nI i))] [] (SK tx tu gu tl, h) = m_X11_summedUp X (d + 4) f' 38 [(0, vP (some 72)), (3, vI (nI x)), (4, vI (nI c0)), (5, vI (nI s'.1.length)), (6, vI (nI s'.2.length)), (7, vI (nI (i + 1)))] [] (SK tx tu gu tl, h') ∧ smX (fun c => c = 79 ∨ c = 80) h h' ∧ RSt h' s' ∧ s'.1.length ≤ s.1.length + 1 ∧ s'.2.length ≤ s.2.length + 1 := by
  obtain ⟨o, v⟩ := q
  obtain ⟨vs, ts⟩ := s
  obtain ⟨ho, hv9, hv1⟩ := ok
  obtain ⟨H1, H2, H3⟩ := HS
  subst e1
  subst e2
  have ho' : o < 1000 := ho
  have hv9' : v ≤ 9999 := hv9
  have q1 : gA h 75 (c0 + 2 * i) = nI o := hq1
  have q2 : gA h 75 (c0 + 2 * i + 1) = nI v := hq2
  have H1' : vsB h vs := H1
  have H2' : tsA h ts := H2
  have H3' : ∀ u ∈ vs, b6 u := H3
  have l1' : vs.length < 325 := l1
  have l2' : ts.length < 325 := l2
  have st : m_X11_summedUp X (d + 4) (f + 6) 38 [(0, vP (some 72)), (3, vI (nI x)), (4, vI (nI c0)), (5, vI (nI vs.length)), (6, vI (nI ts.length)), (7, vI (nI i))] [] (SK tx tu gu tl, h) = (if 1 < nI o then m_X11_summedUp X (d + 4) (f + 5) 119 [(0, vP (some 72)), (3, vI (nI x)), (4, vI (nI c0)), (5, vI (nI vs.length)), (6, vI (nI ts.length)), (7, vI (nI i)), (8, vI (nI o))] [] (SK tx tu gu tl, h) else if nI o = 0 then (inb (nI vs.length) 330 fun j6 => m_X11_summedUp X (d + 4) (f + 5) 38 [(0, vP (some 72)), (3, vI (nI x)), (4, vI (nI c0)), (5, vI (nI vs.length + 1)), (6, vI (nI ts.length)), (7, vI (nI i + 1))] [] (SK tx tu gu tl, sB h 79 j6 ((nI v).toInt64))) else inb (nI v) 9 fun j4 => inb (nI vs.length) 330 fun j5 => m_X11_summedUp X (d + 4) (f + 5) 38 [(0, vP (some 72)), (3, vI (nI x)), (4, vI (nI c0)), (5, vI (nI vs.length + 1)), (6, vI (nI ts.length)), (7, vI (nI i + 1))] [] (SK tx tu gu tl, sB h 79 j5 ((gA h 78 j4).toInt64))) := by
    rw [e_X11_summedUp_38, litI 2, addI, inbI hx (by omega), hw, if_neg (nI_ge hi (by omega)), mulI, addI, inbI (by omega) (by omega), nI_1, inbI (by omega) (by omega), q1, q2]
  show ∃ f' h', f ≤ f' ∧ m_X11_summedUp X (d + 4) (f + 6) 38 [(0, vP (some 72)), (3, vI (nI x)), (4, vI (nI c0)), (5, vI (nI vs.length)), (6, vI (nI ts.length)), (7, vI (nI i))] [] (SK tx tu gu tl, h) = _ ∧ _
  rw [st]
  unfold rOp at e
  by_cases o0 : o = 0
  · subst o0
    rw [if_pos rfl] at e
    cases e
    refine ⟨f + 5, sB h 79 vs.length (lI v), by omega, ?_, smX_sB (Or.inl rfl), RSt_v H1' H2' H3' (by unfold b6; omega), by simp <;> omega, by simp <;> omega⟩
    rw [if_neg (by decide), if_pos (by decide), inbI (by omega) (by omega), nI_1, nI_1, zI_nI v, z_l (by omega) (by omega)]
    rfl
  rw [if_neg o0] at e
  by_cases o1 : o = 1
  · subst o1
    rw [if_pos rfl] at e
    cases e
    have hv2 : v < 9 := hv1 rfl
    have hb := HE.2.1.1 v hv2
    have hb' := b6w hb
    refine ⟨f + 5, sB h 79 vs.length (lI (E.1 v)), by omega, ?_, smX_sB (Or.inl rfl), RSt_v H1' H2' H3' hb, by simp <;> omega, by simp <;> omega⟩
    rw [if_neg (by decide), if_neg (by decide), inbI (by omega) (by omega), inbI (by omega) (by omega), nI_1, nI_1, HE.1 v hv2, z_l (by omega) (by omega)]
    rfl
  rw [if_neg o1] at e
  have ne : ∀ k : Nat, o ≠ k → k < 1000 → ¬ nI o = nI k := fun k hk hk2 => by rw [eqI (by omega) (by omega)]; exact hk
  rw [if_pos (show (1 : Int32) < nI o by rw [litI 1, ltI (by omega) (by omega)]; omega), e_X11_summedUp_119]
  by_cases o3 : o = 3
  · subst o3
    rw [if_pos rfl] at e
    cases vs with
    | nil => cases e
    | cons y vs =>
      cases vs with
      | nil => cases e
      | cons z vs =>
        cases ts with
        | nil => cases e
        | cons b ts =>
          have l1'' : vs.length + 2 < 325 := l1'
          have l2'' : ts.length + 1 < 325 := l2'
          change some ((bif b then z else y) :: vs, ts) = some s' at e
          cases e
          have g80 : gA h 80 ts.length = bzB b := H2'.1
          have y1 : nI (y :: z :: vs).length + (-1) = nI (vs.length + 1) := nI_m1 (vs.length + 1)
          have t1 : nI (b :: ts).length + (-1) = nI ts.length := nI_m1 ts.length
          rw [if_pos (by decide), t1, inbI (by omega) (by omega), g80, y1, nI_pred, nI_1]
          cases b with
          | true =>
            refine ⟨f + 4, h, by omega, ?_, smX.rf _ h, ⟨⟨H1'.2.1, H1'.2.2⟩, H2'.2, fun u hu => ?_⟩, by simp <;> omega, by simp <;> omega⟩
            · rw [if_neg (by decide)]
              rfl
            · rcases List.mem_cons.mp hu with q | q
              · rw [q]; exact H3' z (List.mem_cons_of_mem _ List.mem_cons_self)
              · exact H3' u (List.mem_cons_of_mem _ (List.mem_cons_of_mem _ q))
          | false =>
            refine ⟨f + 4, sB h 79 vs.length (lI y), by omega, ?_, smX_sB (Or.inl rfl), RSt_v H1'.2.2 H2'.2 (fun u hu => H3' u (List.mem_cons_of_mem _ (List.mem_cons_of_mem _ hu))) (H3' y List.mem_cons_self), by simp <;> omega, by simp <;> omega⟩
            rw [if_pos (by decide), inbI (by omega) (by omega), inbI (by omega) (by omega), show gB h 79 (vs.length + 1) = lI y from H1'.1]
            rfl
  rw [if_neg o3] at e
  rw [if_neg (show ¬ nI o = 3 from ne 3 o3 (by omega))]
  by_cases o5 : o = 5
  · subst o5
    rw [if_pos rfl] at e
    cases vs with
    | nil => cases e
    | cons y vs =>
      have l1'' : vs.length + 1 < 325 := l1'
      change some (-y :: vs, ts) = some s' at e
      cases e
      have hy := H3' y List.mem_cons_self
      refine ⟨f + 2, sB h 79 vs.length (lI (-y)), by omega, ?_, smX_sB (Or.inl rfl), RSt_v H1'.2 H2' (fun u hu => H3' u (List.mem_cons_of_mem _ hu)) (by unfold b6 at *; omega), by simp <;> omega, by simp <;> omega⟩
      rw [if_pos (by decide), e_X11_summedUp_172, if_pos (by decide), show nI (y :: vs).length - 1 = nI vs.length from nI_pred _, inbI (by omega) (by omega), show gB h 79 vs.length = lI y from H1'.1, lI_neg, e_X11_summedUp_212, inbI (by omega) (by omega), nI_1]
      rfl
  rw [if_neg o5] at e
  rw [if_neg (show ¬ nI o = 5 from ne 5 o5 (by omega))]
  by_cases o2 : o = 2
  · subst o2
    rw [if_pos rfl] at e
    cases vs with
    | nil => cases e
    | cons y vs =>
      have l1'' : vs.length + 1 < 325 := l1'
      change some (E.2 y :: vs, ts) = some s' at e
      cases e
      have hy := H3' y List.mem_cons_self
      refine ⟨f + 2, sB h 79 vs.length (lI (E.2 y)), by omega, ?_, smX_sB (Or.inl rfl), RSt_v H1'.2 H2' (fun u hu => H3' u (List.mem_cons_of_mem _ hu)) (HE.2.1.2 y), by simp <;> omega, by simp <;> omega⟩
      rw [if_pos (by decide), e_X11_summedUp_172, if_neg (by decide), show nI (y :: vs).length - 1 = nI vs.length from nI_pred _, inbI (by omega) (by omega), show gB h 79 vs.length = lI y from H1'.1, HE.2.2 d h y (smX.rf _ h) hy, bL_s, e_X11_summedUp_212, inbI (by omega) (by omega), nI_1]
      rfl
  rw [if_neg o2] at e
  rw [if_neg (show ¬ nI o = 2 from ne 2 o2 (by omega)), e_X11_summedUp_216]
  by_cases o4 : o = 4
  · subst o4
    rw [if_pos rfl] at e
    cases vs with
    | nil => cases e
    | cons y vs =>
      cases vs with
      | nil => cases e
      | cons z vs =>
        have l1'' : vs.length + 2 < 325 := l1'
        change some (stI z y :: vs, ts) = some s' at e
        cases e
        have hy := H3' y List.mem_cons_self
        have hz := H3' z (List.mem_cons_of_mem _ List.mem_cons_self)
        have hy' := b6w hy
        have hz' := b6w hz
        have y1 : nI (y :: z :: vs).length + (-1) = nI (vs.length + 1) := nI_m1 (vs.length + 1)
        refine ⟨f + 1, sB h 79 vs.length (lI (stI z y)), by omega, ?_, smX_sB (Or.inl rfl), RSt_v H1'.2.2 H2' (fun u hu => H3' u (List.mem_cons_of_mem _ (List.mem_cons_of_mem _ hu))) (stI_b hz hy), by simp <;> omega, by simp <;> omega⟩
        rw [if_neg (by decide), if_pos (by decide), y1, nI_pred, inbI (by omega) (by omega), inbI (by omega) (by omega), show gB h 79 (vs.length + 1) = lI y from H1'.1, show gB h 79 vs.length = lI z from H1'.2.1, k_stepOf X (d + 3) tx tu gu tl h (by omega) (by omega), bL_s, e_X11_summedUp_259, e_X11_summedUp_283, inbI (by omega) (by omega), nI_1]
        rfl
  rw [if_neg o4] at e
  rw [if_neg (show ¬ nI o = 4 from ne 4 o4 (by omega))]
  by_cases o10 : o < 10
  · rw [if_pos o10] at e
    cases vs with
    | nil => cases e
    | cons y vs =>
      cases vs with
      | nil => cases e
      | cons z vs =>
        have l1'' : vs.length + 2 < 325 := l1'
        change some (twoI o z y :: vs, ts) = some s' at e
        cases e
        have hy := H3' y List.mem_cons_self
        have hz := H3' z (List.mem_cons_of_mem _ List.mem_cons_self)
        have y1 : nI (y :: z :: vs).length + (-1) = nI (vs.length + 1) := nI_m1 (vs.length + 1)
        refine ⟨f + 2, sB h 79 vs.length (lI (twoI o z y)), by omega, ?_, smX_sB (Or.inl rfl), RSt_v H1'.2.2 H2' (fun u hu => H3' u (List.mem_cons_of_mem _ (List.mem_cons_of_mem _ hu))) (twoI_b _ _ _), by simp <;> omega, by simp <;> omega⟩
        rw [if_neg (by rw [litI 10, leI (by omega) (by omega)]; omega), y1, nI_pred, inbI (by omega) (by omega), inbI (by omega) (by omega), show gB h 79 (vs.length + 1) = lI y from H1'.1, show gB h 79 vs.length = lI z from H1'.2.1, k_two X (d + 2) tx tu gu tl h ho' hz hy, bL_s, e_X11_summedUp_283, inbI (by omega) (by omega), nI_1]
        rfl
  rw [if_neg o10] at e
  rw [if_pos (show (10 : Int32) ≤ nI o by rw [litI 10, leI (by omega) (by omega)]; omega)]
  by_cases o20 : o < 20
  · rw [if_pos o20] at e
    cases vs with
    | nil => cases e
    | cons y vs =>
      cases vs with
      | nil => cases e
      | cons z vs =>
        have l1'' : vs.length + 2 < 325 := l1'
        change some (vs, askI o z y :: ts) = some s' at e
        cases e
        have hy := H3' y List.mem_cons_self
        have hz := H3' z (List.mem_cons_of_mem _ List.mem_cons_self)
        have y1 : nI (y :: z :: vs).length + (-2) = nI vs.length := by
          show nI (vs.length + 2) + (-2) = nI vs.length
          rw [show (-2 : Int32) = -1 + -1 by decide, ← Int32.add_assoc, nI_m1, nI_m1]
        refine ⟨f + 2, sA h 80 ts.length (bzB (askI o z y)), by omega, ?_, smX_sA (Or.inr rfl), RSt_t H1'.2.2 H2' (fun u hu => H3' u (List.mem_cons_of_mem _ (List.mem_cons_of_mem _ hu))), by simp <;> omega, by simp <;> omega⟩
        rw [if_neg (by rw [litI 20, leI (by omega) (by omega)]; omega), y1, inbI (by omega) (by omega), nI_1, inbI (by omega) (by omega), show gB h 79 (vs.length + 1) = lI y from H1'.1, show gB h 79 vs.length = lI z from H1'.2.1, k_isAsked X (d + 3) tx tu gu tl h ho' hz hy, bI_s, e_X11_summedUp_324, inbI (by omega) (by omega), nI_1, nI_1, narb]
        rfl
  rw [if_neg o20] at e
  rw [if_pos (show (20 : Int32) ≤ nI o by rw [litI 20, leI (by omega) (by omega)]; omega), e_X11_summedUp_331]
  by_cases o20' : o = 20
  · subst o20'
    rw [if_pos rfl] at e
    cases ts with
    | nil => cases e
    | cons b ts =>
      have l2'' : ts.length + 1 < 325 := l2'
      change some (vs, (!b) :: ts) = some s' at e
      cases e
      refine ⟨f + 2, sA h 80 ts.length (bzB (!b)), by omega, ?_, smX_sA (Or.inr rfl), RSt_t H1' H2'.2 H3', by simp <;> omega, by simp <;> omega⟩
      rw [if_pos (by decide), show nI (b :: ts).length - 1 = nI ts.length from nI_pred _, inbI (by omega) (by omega), inbI (by omega) (by omega), inbI (by omega) (by omega), show gA h 80 ts.length = bzB b from H2'.1, nI_1, nar1, nar0]
      cases b <;> rfl
  rw [if_neg o20'] at e
  rw [if_neg (show ¬ nI o = 20 from ne 20 o20' (by omega))]
  cases ts with
  | nil => cases e
  | cons b2 ts =>
    cases ts with
    | nil => cases e
    | cons b1 ts =>
      have l2'' : ts.length + 2 < 325 := l2'
      change some (vs, (if o = 21 then b1 && b2 else b1 || b2) :: ts) = some s' at e
      cases e
      have t1 : nI (b2 :: b1 :: ts).length + (-1) = nI (ts.length + 1) := nI_m1 (ts.length + 1)
      refine ⟨f + 1, sA h 80 ts.length (bzB (if o = 21 then b1 && b2 else b1 || b2)), by omega, ?_, smX_sA (Or.inr rfl), RSt_t H1' H2'.2.2 H3', by simp <;> omega, by simp <;> omega⟩
      rw [t1, nI_pred, inbI (by omega) (by omega), inbI (by omega) (by omega), show gA h 80 (ts.length + 1) = bzB b2 from H2'.1, show gA h 80 ts.length = bzB b1 from H2'.2.1, k_joinedR X (d + 3) tx tu gu tl h ho', bI_s, e_X11_summedUp_399, inbI (by omega) (by omega), nI_1, narb]
      rfl
theorem su_run {x c0 w1 : Nat} {E : EV} (hx : x + 2 < 2724) (hw1 : w1 ≤ 304) (hc0 : c0 + 608 ≤ 2724) : ∀ (e : Cd) (i f : Nat) (s s' : RS) (h : DT), EnvK X tx tu gu tl h E → RSt h s → gA h 75 (x + 2) = nI w1 → i + e.length = w1 → cdA h c0 i e → (∀ q ∈ e, okQ q) → s.1.length + e.length < 325 → s.2.length + e.length < 325 → 6 * e.length + 10 ≤ f → rRun E e s = some s' →
    ∃ f' h', 10 ≤ f' ∧ m_X11_summedUp X (d + 4) f 38 [(0, vP (some 72)), (3, vI (nI x)), (4, vI (nI c0)), (5, vI (nI s.1.length)), (6, vI (nI s.2.length)), (7, vI (nI i))] [] (SK tx tu gu tl, h) = m_X11_summedUp X (d + 4) f' 38 [(0, vP (some 72)), (3, vI (nI x)), (4, vI (nI c0)), (5, vI (nI s'.1.length)), (6, vI (nI s'.2.length)), (7, vI (nI w1))] [] (SK tx tu gu tl, h') ∧ smX (fun c => c = 79 ∨ c = 80) h h' ∧ RSt h' s'
  | [], i, f, s, s', h, HE, HS, hw, hi, hcd, hok, l1, l2, hf, e => by
    cases e
    obtain rfl : i = w1 := hi
    exact ⟨f, h, by simp at hf; omega, rfl, smX.rf _ h, HS⟩
  | q :: es, i, f, s, s', h, HE, HS, hw, hi, hcd, hok, l1, l2, hf, e => by
    change (rOp E q s).bind (rRun E es) = some s' at e
    cases hr : rOp E q s with
    | none => rw [hr] at e; cases e
    | some s1 =>
      rw [hr] at e
      have hl : (q :: es).length = es.length + 1 := rfl
      rw [hl] at hi l1 l2 hf
      obtain ⟨f, rfl⟩ : ∃ g, f = g + 6 := ⟨f - 6, by omega⟩
      obtain ⟨f1, h1, g1, g2, g3, g4, g5, g6⟩ := su_step X d tx tu gu tl h HE HS hx (c0 := c0) (i := i) (f := f) (by omega) hw (by omega) (by omega) hcd.1 hcd.2.1 (hok q List.mem_cons_self) rfl rfl (by omega) (by omega) hr
      have e75 : gA h1 75 = gA h 75 := smA g3 (by omega)
      obtain ⟨f2, h2, k1, k2, k3, k4⟩ := su_run hx hw1 hc0 es (i + 1) f1 s1 s' h1 (HE.cg X tx tu gu tl g3) g4 (by rw [e75]; exact hw) (by omega) (cdA_cg e75 c0 es (i + 1) hcd.2.2) (fun p hp => hok p (List.mem_cons_of_mem _ hp)) (by omega) (by omega) (by omega) e
      exact ⟨f2, h2, k1, g2.trans k2, g3.tr k3, k4⟩
/-- a law's clause summed up -/
theorem k_summed {t k w0 w1 : Nat} {E : EV} {e : Cd} {D : EV → Int} (h : DT) (ht : t < 4) (hk : k < 24) (HE : EnvK X tx tu gu tl h E) (h1 : gA h 75 (681 * t + 1 + 3 * k + 1) = nI w0) (h2 : gA h 75 (681 * t + 1 + 3 * k + 2) = nI w1) (hw1 : w1 ≤ 304) (hl : w0 + e.length = w1) (hcd : cdA h (681 * t + 73) w0 e) (hok : ∀ q ∈ e, okQ q) (hv : VC e D) : ∃ h', cal X (d + 5) 223 [vP (some 72), vI (nI t), vI (nI k)] (SK tx tu gu tl, h) = some (some (vL (lI (D E))), (SK tx tu gu tl, h')) ∧ smX (fun c => c = 79 ∨ c = 80) h h' := by
  obtain ⟨f', h', g1, g2, g3, g4⟩ := su_run X d tx tu gu tl (x := 681 * t + 1 + 3 * k) (c0 := 681 * t + 73) (w1 := w1) (E := E) (by omega) hw1 (by omega) e w0 999999 ([], []) ([D E], []) h HE ⟨trivial, trivial, fun v hv => by cases hv⟩ h2 hl hcd hok (by simp; omega) (by simp; omega) (by omega) (hv.1 E ([], []))
  obtain ⟨f', rfl⟩ : ∃ g, f' = g + 1 := ⟨f' - 1, by omega⟩
  refine ⟨h', ?_, g3⟩
  rw [c_X11_summedUp, e_X11_summedUp_0, litI 681, mulI, nI_1, litI 3, mulI, addI, nI_1, inbI (by omega) (by omega), litI 73, addI, h1]
  refine g2.trans ?_
  have e75 : gA h' 75 = gA h 75 := smA g3 (by omega)
  show m_X11_summedUp X (d + 4) (f' + 1) 38 [(0, vP (some 72)), (3, vI (nI (681 * t + 1 + 3 * k))), (4, vI (nI (681 * t + 73))), (5, vI (nI 1)), (6, vI (nI 0)), (7, vI (nI w1))] [] (SK tx tu gu tl, h') = _
  rw [e_X11_summedUp_38, litI 2, addI, inbI (by omega) (by omega), e75, h2, if_pos (nI_le (Nat.le_refl _) (by omega)), show gB h' 79 0 = lI (D E) from g4.1.1]
end SU
