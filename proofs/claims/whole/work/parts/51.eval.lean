/-! WHAT A LAW COMES TO: the reference's code behind its operands, the class's code with jumps; both over integers -/
abbrev EV : Type := (Nat → Int) × (Int → Int)
def b6 (x : Int) : Prop := -1000000 ≤ x ∧ x ≤ 1000000
def EB (E : EV) : Prop := (∀ k, k < 9 → b6 (E.1 k)) ∧ ∀ x, b6 (E.2 x)
def clp (x : Int) : Int := if 1000000 < x then 1000000 else if x < -1000000 then -1000000 else x
def stI (x y : Int) : Int := if x < y then x + 1 else if y < x then x - 1 else x
def twoI (o : Nat) (x y : Int) : Int := if o = 6 then clp (x + y) else if o = 7 then clp (x - y) else if o = 8 then clp (x * y) else if y = 0 then 0 else clp (x.tdiv y)
def askI (o : Nat) (x y : Int) : Bool := if o = 10 then decide (x < y) else if o = 11 then decide (x ≤ y) else if o = 12 then decide (y < x) else if o = 13 then decide (y ≤ x) else if o = 14 then decide (x = y) else !decide (x = y)
abbrev RS : Type := List Int × List Bool
def p1 (s : RS) (k : Int → List Int → Option RS) : Option RS := match s.1 with
  | x :: vs => k x vs
  | _ => none
def p2 (s : RS) (k : Int → Int → List Int → Option RS) : Option RS := match s.1 with
  | y :: x :: vs => k x y vs
  | _ => none
def q1 (s : RS) (k : Bool → List Bool → Option RS) : Option RS := match s.2 with
  | x :: vs => k x vs
  | _ => none
def q2 (s : RS) (k : Bool → Bool → List Bool → Option RS) : Option RS := match s.2 with
  | y :: x :: vs => k x y vs
  | _ => none
def rOp (E : EV) (q : Nat × Nat) (s : RS) : Option RS :=
  if q.1 = 0 then some ((q.2 : Int) :: s.1, s.2)
  else if q.1 = 1 then some (E.1 q.2 :: s.1, s.2)
  else if q.1 = 3 then p2 s fun x y vs => q1 s fun b ts => some ((bif b then x else y) :: vs, ts)
  else if q.1 = 5 then p1 s fun x vs => some (-x :: vs, s.2)
  else if q.1 = 2 then p1 s fun x vs => some (E.2 x :: vs, s.2)
  else if q.1 = 4 then p2 s fun x y vs => some (stI x y :: vs, s.2)
  else if q.1 < 10 then p2 s fun x y vs => some (twoI q.1 x y :: vs, s.2)
  else if q.1 < 20 then p2 s fun x y vs => some (vs, askI q.1 x y :: s.2)
  else if q.1 = 20 then q1 s fun b ts => some (s.1, (!b) :: ts)
  else q2 s fun b1 b2 ts => some (s.1, (if q.1 = 21 then b1 && b2 else b1 || b2) :: ts)
def rRun (E : EV) : Cd → RS → Option RS
  | [], s => some s
  | q :: c, s => (rOp E q s).bind (rRun E c)
theorem rRun_app (E : EV) : ∀ (a b : Cd) (s : RS), rRun E (a ++ b) s = (rRun E a s).bind (rRun E b)
  | [], b, s => rfl
  | q :: a, b, s => by
    show (rOp E q s).bind (rRun E (a ++ b)) = ((rOp E q s).bind (rRun E a)).bind (rRun E b)
    cases rOp E q s with
    | none => rfl
    | some s' => exact rRun_app E a b s'
def VC (e : Cd) (D : EV → Int) : Prop := (∀ E s, rRun E e s = some (D E :: s.1, s.2)) ∧ ∀ E, EB E → b6 (D E)
def BC (e : Cd) (B : EV → Bool) : Prop := ∀ E s, rRun E e s = some (s.1, B E :: s.2)
theorem rRun_1 (E : EV) (q : Nat × Nat) (s : RS) : rRun E [q] s = rOp E q s := by
  show (rOp E q s).bind (rRun E []) = _
  cases rOp E q s <;> rfl
theorem clp_b (x : Int) : b6 (clp x) := by
  unfold clp b6
  split
  · omega
  · split <;> omega
theorem clp_id {x : Int} (h : b6 x) : clp x = x := by
  unfold b6 at h
  unfold clp
  rw [if_neg (by omega), if_neg (by omega)]
theorem stI_b {x y : Int} (hx : b6 x) (hy : b6 y) : b6 (stI x y) := by
  unfold b6 at *
  unfold stI
  split
  · omega
  · split <;> omega
theorem tdiv_b {x : Int} (y : Int) (hx : b6 x) : b6 (x.tdiv y) := by
  unfold b6 at *
  have h2 : (x.tdiv y).natAbs ≤ x.natAbs := by
    rw [Int.natAbs_tdiv]
    exact Nat.div_le_self _ _
  omega
theorem twoI_b (o : Nat) (x y : Int) : b6 (twoI o x y) := by
  unfold twoI
  split
  · exact clp_b _
  · split
    · exact clp_b _
    · split
      · exact clp_b _
      · split
        · exact ⟨by decide, by decide⟩
        · exact clp_b _
theorem VC_num {n : Nat} (h : n ≤ 9999) : VC [(0, n)] (fun _ => (n : Int)) := ⟨fun E s => by rw [rRun_1]; rfl, fun E _ => show b6 (n : Int) from ⟨by omega, by omega⟩⟩
theorem VC_nam {k : Nat} (h : k < 9) : VC [(1, k)] (fun E => E.1 k) := ⟨fun E s => by rw [rRun_1]; rfl, fun E hE => hE.1 k h⟩
theorem VC_bin {a b : Cd} {D1 D2 : EV → Int} {o : Nat} (h1 : VC a D1) (h2 : VC b D2) (ho : bi4 o) : VC (a ++ b ++ [(o, 0)]) (fun E => twoI o (D1 E) (D2 E)) := by
  refine ⟨fun E s => ?_, fun E _ => twoI_b _ _ _⟩
  rw [rRun_app, rRun_app, h1.1, Option.bind_some, h2.1, Option.bind_some, rRun_1]
  rcases ho with rfl | rfl | rfl | rfl <;> rfl
theorem VC_stp {a b : Cd} {D1 D2 : EV → Int} (h1 : VC a D1) (h2 : VC b D2) : VC (a ++ b ++ [(4, 0)]) (fun E => stI (D1 E) (D2 E)) := by
  refine ⟨fun E s => ?_, fun E hE => stI_b (h1.2 E hE) (h2.2 E hE)⟩
  rw [rRun_app, rRun_app, h1.1, Option.bind_some, h2.1, Option.bind_some, rRun_1]
  rfl
theorem VC_neg {a : Cd} {D : EV → Int} (h : VC a D) : VC (a ++ [(5, 0)]) (fun E => -D E) := by
  refine ⟨fun E s => ?_, fun E hE => ?_⟩
  · rw [rRun_app, h.1, Option.bind_some, rRun_1]
    rfl
  · have := h.2 E hE
    show b6 (-D E)
    unfold b6 at *
    omega
theorem VC_sea {a : Cd} {D : EV → Int} (h : VC a D) : VC (a ++ [(2, 0)]) (fun E => E.2 (D E)) := by
  refine ⟨fun E s => ?_, fun E hE => hE.2 _⟩
  rw [rRun_app, h.1, Option.bind_some, rRun_1]
  rfl
theorem VC_sel {a b c : Cd} {B : EV → Bool} {D1 D2 : EV → Int} (h0 : BC a B) (h1 : VC b D1) (h2 : VC c D2) : VC (a ++ b ++ c ++ [(3, 0)]) (fun E => bif B E then D1 E else D2 E) := by
  refine ⟨fun E s => ?_, fun E hE => ?_⟩
  · rw [rRun_app, rRun_app, rRun_app, h0, Option.bind_some, h1.1, Option.bind_some, h2.1, Option.bind_some, rRun_1]
    rfl
  · show b6 (bif B E then D1 E else D2 E)
    cases B E
    · exact h2.2 E hE
    · exact h1.2 E hE
theorem BC_cmp {a b : Cd} {D1 D2 : EV → Int} {o : Nat} (h1 : VC a D1) (h2 : VC b D2) (ho : 10 ≤ o) (ho' : o < 16) : BC (a ++ b ++ [(o, 0)]) (fun E => askI o (D1 E) (D2 E)) := by
  intro E s
  rw [rRun_app, rRun_app, h1.1, Option.bind_some, h2.1, Option.bind_some, rRun_1]
  obtain rfl | rfl | rfl | rfl | rfl | rfl : o = 10 ∨ o = 11 ∨ o = 12 ∨ o = 13 ∨ o = 14 ∨ o = 15 := by omega
  all_goals rfl
theorem BC_not {a : Cd} {B : EV → Bool} (h : BC a B) : BC (a ++ [(20, 0)]) (fun E => !B E) := by
  intro E s
  rw [rRun_app, h, Option.bind_some, rRun_1]
  rfl
theorem BC_bin {a b : Cd} {B1 B2 : EV → Bool} {o : Nat} (h1 : BC a B1) (h2 : BC b B2) (ho : o = 21 ∨ o = 22) : BC (a ++ b ++ [(o, 0)]) (fun E => if o = 21 then B1 E && B2 E else B1 E || B2 E) := by
  intro E s
  rw [rRun_app, rRun_app, h1, Option.bind_some, h2, Option.bind_some, rRun_1]
  rcases ho with rfl | rfl <;> rfl
-- the class's machine
def jnI (op l r : Int) : Option Int :=
  if op = 1 then some (clp (l + r)) else if op = 2 then some (clp (l - r)) else if op = 3 then some (clp (l * r)) else if op = 4 then some (if r = 0 then 0 else l.tdiv r) else if op = 6 then some (stI l r)
  else if op = 8 then some (if l < r then 1 else 0) else if op = 9 then some (if l ≤ r then 1 else 0) else if op = 10 then some (if r < l then 1 else 0) else if op = 11 then some (if r ≤ l then 1 else 0) else if op = 12 then some (if l = r then 1 else 0) else if op = 13 then some (if l = r then 0 else 1)
  else if op = 15 then (if (l = 0 ∨ l = 1) ∧ (r = 0 ∨ r = 1) then some (l * r) else none)
  else if op = 16 then (if (l = 0 ∨ l = 1) ∧ (r = 0 ∨ r = 1) then some (if l = 0 then r else 1) else none) else none
def c1 (vs : List Int) (k : Int → List Int → Option (Nat × List Int)) : Option (Nat × List Int) := match vs with
  | x :: vs => k x vs
  | _ => none
def c2 (vs : List Int) (k : Int → Int → List Int → Option (Nat × List Int)) : Option (Nat × List Int) := match vs with
  | y :: x :: vs => k x y vs
  | _ => none
def cSt (C : Nat → Int) (E : EV) (a : Nat) (vs : List Int) : Option (Nat × List Int) :=
  if 64 ≤ C a then (if C a ≤ 10063 ∧ vs.length < 64 then some (a + 1, (C a - 64) :: vs) else none)
  else if 32 ≤ C a then (if C a < 41 ∧ vs.length < 64 then some (a + 1, E.1 (C a - 32).toNat :: vs) else none)
  else if C a = 17 then (if 0 ≤ C (a + 1) then some ((C (a + 1)).toNat, vs) else none)
  else if C a = 18 then c1 vs fun v vs => if v = 0 then (if 0 ≤ C (a + 1) then some ((C (a + 1)).toNat, vs) else none) else some (a + 2, vs)
  else if C a = 7 then c1 vs fun v vs => some (a + 1, E.2 v :: vs)
  else if C a = 5 then c1 vs fun v vs => some (a + 1, -v :: vs)
  else if C a = 14 then c1 vs fun v vs => some (a + 1, (1 - v) :: vs)
  else c2 vs fun u v vs => (jnI (C a) u v).map fun x => (a + 1, x :: vs)
theorem cSt_j {C : Nat → Int} {E : EV} {a : Nat} {u v k : Int} {vs : List Int} (h : C a = k) (h1 : k < 17) (h2 : k ≠ 7) (h3 : k ≠ 5) (h4 : k ≠ 14) : cSt C E a (v :: u :: vs) = (jnI k u v).map fun x => (a + 1, x :: vs) := by
  unfold cSt
  rw [h, if_neg (by omega), if_neg (by omega), if_neg (by omega), if_neg (by omega), if_neg h2, if_neg h3, if_neg h4]
  rfl
theorem cSt_7 {C : Nat → Int} {E : EV} {a : Nat} {v : Int} {vs : List Int} (h : C a = 7) : cSt C E a (v :: vs) = some (a + 1, E.2 v :: vs) := by
  unfold cSt
  rw [h, if_neg (by omega), if_neg (by omega), if_neg (by omega), if_neg (by omega), if_pos rfl]
  rfl
theorem cSt_5 {C : Nat → Int} {E : EV} {a : Nat} {v : Int} {vs : List Int} (h : C a = 5) : cSt C E a (v :: vs) = some (a + 1, -v :: vs) := by
  unfold cSt
  rw [h, if_neg (by omega), if_neg (by omega), if_neg (by omega), if_neg (by omega), if_neg (by omega), if_pos rfl]
  rfl
theorem cSt_14 {C : Nat → Int} {E : EV} {a : Nat} {v : Int} {vs : List Int} (h : C a = 14) : cSt C E a (v :: vs) = some (a + 1, (1 - v) :: vs) := by
  unfold cSt
  rw [h, if_neg (by omega), if_neg (by omega), if_neg (by omega), if_neg (by omega), if_neg (by omega), if_neg (by omega), if_pos rfl]
  rfl
theorem cSt_17 {C : Nat → Int} {E : EV} {a g : Nat} {vs : List Int} (h : C a = 17) (h2 : C (a + 1) = (g : Int)) : cSt C E a vs = some (g, vs) := by
  unfold cSt
  rw [h, if_neg (by omega), if_neg (by omega), if_pos rfl, h2, if_pos (by omega), Int.toNat_natCast]
theorem cSt_18 {C : Nat → Int} {E : EV} {a g : Nat} {v : Int} {vs : List Int} (h : C a = 18) (h2 : C (a + 1) = (g : Int)) : cSt C E a (v :: vs) = some (if v = 0 then g else a + 2, vs) := by
  unfold cSt
  rw [h, if_neg (by omega), if_neg (by omega), if_neg (by omega), if_pos rfl]
  show (if v = 0 then (if 0 ≤ C (a + 1) then some ((C (a + 1)).toNat, vs) else none) else some (a + 2, vs)) = _
  rw [h2, if_pos (show (0 : Int) ≤ (g : Int) by omega), Int.toNat_natCast]
  split <;> rfl
def cIt (C : Nat → Int) (E : EV) : Nat → Nat → List Int → Option (Nat × List Int)
  | 0, a, vs => some (a, vs)
  | m + 1, a, vs => (cSt C E a vs).bind fun q => cIt C E m q.1 q.2
theorem cIt_add {C : Nat → Int} {E : EV} : ∀ (m m' a b : Nat) (vs vs' : List Int), cIt C E m a vs = some (b, vs') → cIt C E (m + m') a vs = cIt C E m' b vs'
  | 0, m', a, b, vs, vs', h => by cases h; rw [Nat.zero_add]
  | m + 1, m', a, b, vs, vs', h => by
    rw [show m + 1 + m' = m + m' + 1 by omega]
    show (cSt C E a vs).bind (fun q => cIt C E (m + m') q.1 q.2) = _
    change (cSt C E a vs).bind (fun q => cIt C E m q.1 q.2) = _ at h
    cases hs : cSt C E a vs with
    | none => rw [hs] at h; cases h
    | some q => rw [hs] at h; exact cIt_add m m' q.1 b q.2 vs' h
def CS (C : Nat → Int) (a b w : Nat) (D : EV → Int) : Prop := a < b ∧ ∀ C' : Nat → Int, (∀ x, a ≤ x → x < b → C' x = C x) → ∀ E, EB E → ∀ vs : List Int, vs.length + w ≤ 64 → ∃ m, m ≤ b - a ∧ cIt C' E m a vs = some (b, D E :: vs)
def bzI (b : Bool) : Int := bif b then 1 else 0
/-- a piece of the class's code that comes to what a piece of the reference's does -/
def VS (C : Nat → Int) (a b w : Nat) (e : Cd) : Prop := ∃ D, VC e D ∧ CS C a b w D
def BS (C : Nat → Int) (a b w : Nat) (e : Cd) : Prop := ∃ B, BC e B ∧ CS C a b w (fun E => bzI (B E))
theorem CS.cg {C C' : Nat → Int} {a b w : Nat} {D : EV → Int} (h : CS C a b w D) (e : ∀ x, a ≤ x → x < b → C' x = C x) : CS C' a b w D :=
  ⟨h.1, fun C2 h2 => h.2 C2 fun x h3 h4 => (h2 x h3 h4).trans (e x h3 h4)⟩
theorem CS.mo {C : Nat → Int} {a b w w' : Nat} {D : EV → Int} (h : CS C a b w D) (hw : w ≤ w') : CS C a b w' D :=
  ⟨h.1, fun C2 h2 E hE vs hv => h.2 C2 h2 E hE vs (by omega)⟩
theorem VS.cg {C C' : Nat → Int} {a b w : Nat} {c : Cd} (h : VS C a b w c) (e : ∀ x, a ≤ x → x < b → C' x = C x) : VS C' a b w c := h.elim fun D q => ⟨D, q.1, q.2.cg e⟩
theorem BS.cg {C C' : Nat → Int} {a b w : Nat} {c : Cd} (h : BS C a b w c) (e : ∀ x, a ≤ x → x < b → C' x = C x) : BS C' a b w c := h.elim fun D q => ⟨D, q.1, q.2.cg e⟩
theorem VS.mo {C : Nat → Int} {a b w w' : Nat} {c : Cd} (h : VS C a b w c) (hw : w ≤ w') : VS C a b w' c := h.elim fun D q => ⟨D, q.1, q.2.mo hw⟩
theorem BS.mo {C : Nat → Int} {a b w w' : Nat} {c : Cd} (h : BS C a b w c) (hw : w ≤ w') : BS C a b w' c := h.elim fun D q => ⟨D, q.1, q.2.mo hw⟩
theorem cIt_1 {C : Nat → Int} {E : EV} {a b : Nat} {vs vs' : List Int} (h : cSt C E a vs = some (b, vs')) : cIt C E 1 a vs = some (b, vs') := by
  show (cSt C E a vs).bind (fun q => cIt C E 0 q.1 q.2) = _
  rw [h]
  rfl
/-- two pieces and what joins them -/
theorem CS.j2 {C : Nat → Int} {a b b' w : Nat} {D1 D2 D : EV → Int} (h1 : CS C a b w D1) (h2 : CS C b b' w D2) (hw : 1 ≤ w) (hj : ∀ (C' : Nat → Int) E, EB E → ∀ vs, C' b' = C b' → cSt C' E b' (D2 E :: D1 E :: vs) = some (b' + 1, D E :: vs)) : CS C a (b' + 1) (w + 1) D := by
  refine ⟨by have := h1.1; have := h2.1; omega, fun C' hC E hE vs hv => ?_⟩
  have g1 := h1.1
  have g2 := h2.1
  obtain ⟨m1, l1, e1⟩ := h1.2 C' (fun x p q => hC x p (by omega)) E hE vs (by omega)
  obtain ⟨m2, l2, e2⟩ := h2.2 C' (fun x p q => hC x (by omega) (by omega)) E hE (D1 E :: vs) (by simp; omega)
  refine ⟨m1 + (m2 + 1), by omega, ?_⟩
  rw [cIt_add m1 (m2 + 1) a b vs _ e1, cIt_add m2 1 b b' _ _ e2]
  exact cIt_1 (hj C' E hE vs (hC b' (by omega) (by omega)))
theorem CS.j1 {C : Nat → Int} {a b w : Nat} {D1 D : EV → Int} (h1 : CS C a b w D1) (hj : ∀ (C' : Nat → Int) E, EB E → ∀ vs, C' b = C b → cSt C' E b (D1 E :: vs) = some (b + 1, D E :: vs)) : CS C a (b + 1) w D := by
  refine ⟨by have := h1.1; omega, fun C' hC E hE vs hv => ?_⟩
  have g1 := h1.1
  obtain ⟨m1, l1, e1⟩ := h1.2 C' (fun x p q => hC x p (by omega)) E hE vs hv
  refine ⟨m1 + 1, by omega, ?_⟩
  rw [cIt_add m1 1 a b vs _ e1]
  exact cIt_1 (hj C' E hE vs (hC b (by omega) (by omega)))
theorem VS_num {C : Nat → Int} {a n : Nat} (hn : n ≤ 9999) (h : C a = 64 + (n : Int)) : VS C a (a + 1) 1 [(0, n)] := by
  refine ⟨_, VC_num hn, by omega, fun C' hC E hE vs hv => ⟨1, by omega, cIt_1 ?_⟩⟩
  have e := hC a (by omega) (by omega)
  unfold cSt
  rw [e, h, if_pos (by omega), if_pos ⟨by omega, by omega⟩]
  show some (a + 1, (64 + (n : Int) - 64) :: vs) = some (a + 1, (n : Int) :: vs)
  rw [show (64 + (n : Int) - 64) = n by omega]
theorem VS_nam {C : Nat → Int} {a k : Nat} (hk : k < 9) (h : C a = 32 + (k : Int)) : VS C a (a + 1) 1 [(1, k)] := by
  refine ⟨_, VC_nam hk, by omega, fun C' hC E hE vs hv => ⟨1, by omega, cIt_1 ?_⟩⟩
  have e := hC a (by omega) (by omega)
  unfold cSt
  rw [e, h, if_neg (by omega), if_pos (by omega), if_pos ⟨by omega, by omega⟩, show (32 + (k : Int) - 32).toNat = k by omega]
theorem jnI_1 (l r : Int) : jnI 1 l r = some (clp (l + r)) := by unfold jnI; rw [if_pos rfl]
theorem jnI_2 (l r : Int) : jnI 2 l r = some (clp (l - r)) := by unfold jnI; rw [if_neg (by decide), if_pos rfl]
theorem jnI_3 (l r : Int) : jnI 3 l r = some (clp (l * r)) := by unfold jnI; rw [if_neg (by decide), if_neg (by decide), if_pos rfl]
theorem jnI_4 (l r : Int) : jnI 4 l r = some (if r = 0 then 0 else l.tdiv r) := by unfold jnI; rw [if_neg (by decide), if_neg (by decide), if_neg (by decide), if_pos rfl]
theorem twoI_6 (l r : Int) : twoI 6 l r = clp (l + r) := by unfold twoI; rw [if_pos rfl]
theorem twoI_7 (l r : Int) : twoI 7 l r = clp (l - r) := by unfold twoI; rw [if_neg (by decide), if_pos rfl]
theorem twoI_8 (l r : Int) : twoI 8 l r = clp (l * r) := by unfold twoI; rw [if_neg (by decide), if_neg (by decide), if_pos rfl]
theorem twoI_9 (l r : Int) : twoI 9 l r = if r = 0 then 0 else clp (l.tdiv r) := by unfold twoI; rw [if_neg (by decide), if_neg (by decide), if_neg (by decide)]
theorem VS_bin {C : Nat → Int} {a b b' w o : Nat} {e1 e2 : Cd} (h1 : VS C a b w e1) (h2 : VS C b b' w e2) (hw : 1 ≤ w) (ho : bi4 o) (hC : C b' = (o : Int) - 5) : VS C a (b' + 1) (w + 1) (e1 ++ e2 ++ [(o, 0)]) := by
  obtain ⟨D1, v1, s1⟩ := h1
  obtain ⟨D2, v2, s2⟩ := h2
  refine ⟨_, VC_bin v1 v2 ho, s1.j2 s2 hw fun C' E hE vs hb => ?_⟩
  have e := hb.trans hC
  rcases ho with rfl | rfl | rfl | rfl
  · rw [cSt_j (k := 1) e (by decide) (by decide) (by decide) (by decide), jnI_1, twoI_6, Option.map_some]
  · rw [cSt_j (k := 2) e (by decide) (by decide) (by decide) (by decide), jnI_2, twoI_7, Option.map_some]
  · rw [cSt_j (k := 3) e (by decide) (by decide) (by decide) (by decide), jnI_3, twoI_8, Option.map_some]
  · rw [cSt_j (k := 4) e (by decide) (by decide) (by decide) (by decide), jnI_4, twoI_9, Option.map_some, clp_id (tdiv_b _ (v1.2 E hE))]
theorem VS_stp {C : Nat → Int} {a b b' w : Nat} {e1 e2 : Cd} (h1 : VS C a b w e1) (h2 : VS C b b' w e2) (hw : 1 ≤ w) (hC : C b' = 6) : VS C a (b' + 1) (w + 1) (e1 ++ e2 ++ [(4, 0)]) := by
  obtain ⟨D1, v1, s1⟩ := h1
  obtain ⟨D2, v2, s2⟩ := h2
  refine ⟨_, VC_stp v1 v2, s1.j2 s2 hw fun C' E hE vs hb => ?_⟩
  rw [cSt_j (hb.trans hC) (by decide) (by decide) (by decide) (by decide)]
  rfl
theorem VS_neg {C : Nat → Int} {a b w : Nat} {e : Cd} (h : VS C a b w e) (hC : C b = 5) : VS C a (b + 1) w (e ++ [(5, 0)]) := by
  obtain ⟨D, v, s⟩ := h
  exact ⟨_, VC_neg v, s.j1 fun C' E hE vs hb => cSt_5 (hb.trans hC)⟩
theorem VS_sea {C : Nat → Int} {a b w : Nat} {e : Cd} (h : VS C a b w e) (hC : C b = 7) : VS C a (b + 1) w (e ++ [(2, 0)]) := by
  obtain ⟨D, v, s⟩ := h
  exact ⟨_, VC_sea v, s.j1 fun C' E hE vs hb => cSt_7 (hb.trans hC)⟩
theorem BS_cmp {C : Nat → Int} {a b b' w o : Nat} {e1 e2 : Cd} (h1 : VS C a b w e1) (h2 : VS C b b' w e2) (hw : 1 ≤ w) (ho : 10 ≤ o) (ho' : o < 16) (hC : C b' = (o : Int) - 2) : BS C a (b' + 1) (w + 1) (e1 ++ e2 ++ [(o, 0)]) := by
  obtain ⟨D1, v1, s1⟩ := h1
  obtain ⟨D2, v2, s2⟩ := h2
  refine ⟨_, BC_cmp v1 v2 ho ho', s1.j2 s2 hw fun C' E hE vs hb => ?_⟩
  rw [cSt_j (hb.trans hC) (by omega) (by omega) (by omega) (by omega)]
  obtain rfl | rfl | rfl | rfl | rfl | rfl : o = 10 ∨ o = 11 ∨ o = 12 ∨ o = 13 ∨ o = 14 ∨ o = 15 := by omega
  · show some (b' + 1, (if D1 E < D2 E then 1 else 0) :: vs) = some (b' + 1, bzI (decide (D1 E < D2 E)) :: vs)
    by_cases q : D1 E < D2 E <;> simp [q, bzI]
  · show some (b' + 1, (if D1 E ≤ D2 E then 1 else 0) :: vs) = some (b' + 1, bzI (decide (D1 E ≤ D2 E)) :: vs)
    by_cases q : D1 E ≤ D2 E <;> simp [q, bzI]
  · show some (b' + 1, (if D2 E < D1 E then 1 else 0) :: vs) = some (b' + 1, bzI (decide (D2 E < D1 E)) :: vs)
    by_cases q : D2 E < D1 E <;> simp [q, bzI]
  · show some (b' + 1, (if D2 E ≤ D1 E then 1 else 0) :: vs) = some (b' + 1, bzI (decide (D2 E ≤ D1 E)) :: vs)
    by_cases q : D2 E ≤ D1 E <;> simp [q, bzI]
  · show some (b' + 1, (if D1 E = D2 E then 1 else 0) :: vs) = some (b' + 1, bzI (decide (D1 E = D2 E)) :: vs)
    by_cases q : D1 E = D2 E <;> simp [q, bzI]
  · show some (b' + 1, (if D1 E = D2 E then 0 else 1) :: vs) = some (b' + 1, bzI (!decide (D1 E = D2 E)) :: vs)
    by_cases q : D1 E = D2 E <;> simp [q, bzI]
theorem BS_not {C : Nat → Int} {a b w : Nat} {e : Cd} (h : BS C a b w e) (hC : C b = 14) : BS C a (b + 1) w (e ++ [(20, 0)]) := by
  obtain ⟨B, v, s⟩ := h
  refine ⟨_, BC_not v, s.j1 fun C' E hE vs hb => ?_⟩
  rw [cSt_14 (hb.trans hC)]
  show some (b + 1, (1 - bzI (B E)) :: vs) = some (b + 1, bzI (!B E) :: vs)
  cases B E <;> rfl
theorem BS_bin {C : Nat → Int} {a b b' w o : Nat} {e1 e2 : Cd} (h1 : BS C a b w e1) (h2 : BS C b b' w e2) (hw : 1 ≤ w) (ho : o = 21 ∨ o = 22) (hC : C b' = (o : Int) - 6) : BS C a (b' + 1) (w + 1) (e1 ++ e2 ++ [(o, 0)]) := by
  obtain ⟨B1, v1, s1⟩ := h1
  obtain ⟨B2, v2, s2⟩ := h2
  refine ⟨_, BC_bin v1 v2 ho, s1.j2 s2 hw fun C' E hE vs hb => ?_⟩
  rw [cSt_j (hb.trans hC) (by omega) (by omega) (by omega) (by omega)]
  rcases ho with rfl | rfl
  · show (jnI 15 (bzI (B1 E)) (bzI (B2 E))).map _ = some (b' + 1, bzI (B1 E && B2 E) :: vs)
    cases B1 E <;> cases B2 E <;> rfl
  · show (jnI 16 (bzI (B1 E)) (bzI (B2 E))).map _ = some (b' + 1, bzI (B1 E || B2 E) :: vs)
    cases B1 E <;> cases B2 E <;> rfl
theorem VS_if {C : Nat → Int} {a b c g w : Nat} {e1 e2 e3 : Cd} (h1 : BS C a b w e1) (hb : C b = 18) (hb2 : C (b + 1) = ((c + 2 : Nat) : Int)) (h2 : VS C (b + 2) c w e2) (hc : C c = 17) (hc2 : C (c + 1) = (g : Int)) (h3 : VS C (c + 2) g w e3) : VS C a g w (e1 ++ e2 ++ e3 ++ [(3, 0)]) := by
  obtain ⟨B, v1, s1⟩ := h1
  obtain ⟨D1, v2, s2⟩ := h2
  obtain ⟨D2, v3, s3⟩ := h3
  have g1 := s1.1
  have g2 := s2.1
  have g3 := s3.1
  refine ⟨_, VC_sel v1 v2 v3, by omega, fun C' hC E hE vs hv => ?_⟩
  obtain ⟨m1, l1, r1⟩ := s1.2 C' (fun x p q => hC x p (by omega)) E hE vs hv
  have e1 := hC b (by omega) (by omega)
  have e2 := hC (b + 1) (by omega) (by omega)
  have e3 := hC c (by omega) (by omega)
  have e4 := hC (c + 1) (by omega) (by omega)
  cases hB : B E with
  | true =>
    obtain ⟨m2, l2, r2⟩ := s2.2 C' (fun x p q => hC x (by omega) (by omega)) E hE vs hv
    have t1 : cSt C' E b (bzI (B E) :: vs) = some (b + 2, vs) := by
      rw [cSt_18 (e1.trans hb) (e2.trans hb2), hB]
      rfl
    have t2 : cSt C' E c (D1 E :: vs) = some (g, D1 E :: vs) := cSt_17 (e3.trans hc) (e4.trans hc2)
    refine ⟨m1 + (1 + (m2 + 1)), by omega, ?_⟩
    rw [cIt_add m1 _ a b vs _ r1, cIt_add 1 _ b (b + 2) _ _ (cIt_1 t1), cIt_add m2 1 (b + 2) c _ _ r2]
    show _ = some (g, (bif B E then D1 E else D2 E) :: vs)
    rw [hB]
    exact cIt_1 t2
  | false =>
    obtain ⟨m2, l2, r2⟩ := s3.2 C' (fun x p q => hC x (by omega) (by omega)) E hE vs hv
    have t1 : cSt C' E b (bzI (B E) :: vs) = some (c + 2, vs) := by
      rw [cSt_18 (e1.trans hb) (e2.trans hb2), hB]
      rfl
    refine ⟨m1 + (1 + m2), by omega, ?_⟩
    rw [cIt_add m1 _ a b vs _ r1, cIt_add 1 _ b (c + 2) _ _ (cIt_1 t1)]
    show _ = some (g, (bif B E then D1 E else D2 E) :: vs)
    rw [hB]
    exact r2
