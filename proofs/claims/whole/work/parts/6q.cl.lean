/-! CLAUSES AND TEXTS, as a grammar -/
abbrev CR : Type := (Nat × Nat) ⊕ (Nat × TXT)
def fgP (τ : Tk) (i lo hi : Nat) (k : Nat → CR) : CR := if (τ i).1 = 1 then (if lo ≤ (τ i).2.1 ∧ (τ i).2.1 ≤ hi then k (τ i).2.1 else .inl (2, i)) else .inl (1, i)
def smP (τ : Tk) (i : Nat) (T : TXT) : CR := if (τ i).1 = 59 then .inr (i + 1, T) else .inl (1, i)
def loK (k : Nat) : Nat := if k = 6 ∨ k = 9 then 1 else 0
def hiK (k : Nat) : Nat := if k = 3 ∨ k = 4 then 18 else if k = 6 then 5 else if k = 9 then 60 else 4
def wdK (k : Nat) : Nat := if k = 3 then 20 else if k = 4 then 27 else 28
def deP (τ : Tk) (i k : Nat) (T : TXT) : CR := fgP τ i (loK k) (hiK k) fun v => if k = 3 ∨ k = 4 ∨ k = 5 then (if isW τ (i + 1) (wdK k) = true then fgP τ (i + 2) (if k = 3 then 1 else 0) (if k = 3 then 9 else 4) (fun v2 => smP τ (i + 3) (T.1 ++ [(k - 1, v, v2)], T.2)) else .inl (1, i + 1)) else smP τ (i + 1) (T.1 ++ [(k - 1, v, 0)], T.2)
def lwT (T : TXT) (lw : Nat) (e : Cd) : TXT := (T.1 ++ [(lw, 0, 0)], if lw = 0 then (some e, T.2.2) else (T.2.1, some e))
def laP (τ : Tk) (i lw : Nat) (T : TXT) : CR := match sumP τ (lvP τ lw 8).1 i with
  | .inl q => .inl q
  | .inr q => smP τ q.1 (lwT T lw q.2)
def ofT (T : TXT) (lw : Nat) : Option Cd := if lw = 0 then T.2.1 else T.2.2
def clP (τ : Tk) (i : Nat) (T : TXT) : CR :=
  if kdT τ i = 0 then .inl (1, i)
  else if (kdT τ i = 1 ∧ T.2.1.isSome = true) ∨ (kdT τ i = 2 ∧ T.2.2.isSome = true) then .inl (4, i)
  else if 24 ≤ T.1.length then .inl (6, i)
  else if kdT τ i = 1 then laP τ (i + 1) 0 T
  else if kdT τ i = 2 then laP τ (i + 1) 1 T
  else deP τ (i + 1) (kdT τ i) T
def txP (τ : Tk) : Nat → Nat → TXT → CR
  | 0, i, T => .inr (i, T)
  | f + 1, i, T => if (τ i).1 = 0 then .inr (i, T) else match clP τ i T with
    | .inl q => .inl q
    | .inr q => txP τ f q.1 q.2
/-- the class's text so far -/
def XLw (h : DT) (t s : Nat) (C : Nat → Int) (lw : Nat) (o : Option Cd) : Prop := match o with
  | none => gF h t (2 + lw) = -1
  | some e => ∃ a b w, gF h t (2 + lw) = nI a ∧ VS C a b w e ∧ w ≤ 64 ∧ b < s ∧ C b = 0
def XCl (h : DT) (t i : Nat) (q : Nat × Nat × Nat) : Prop := gA h (t + 1) i = nI (q.1 + 1) ∧ (2 ≤ q.1 → gA h (t + 2) i = nI q.2.1) ∧ (2 ≤ q.1 → q.1 ≤ 4 → gA h (t + 3) i = nI q.2.2)
def XTx (h : DT) (t : Nat) (T : TXT) (s : Nat) (C : Nat → Int) : Prop := T.1.length ≤ 24 ∧ gF h t 0 = nI T.1.length ∧ (∀ i, i < T.1.length → XCl h t i (T.1.getD i (9, 0, 0))) ∧ CC h t s C ∧ XLw h t s C 0 T.2.1 ∧ XLw h t s C 1 T.2.2
def zT (t : Nat) (h h' : DT) : Prop := smX (fun c => c = 38 ∨ (t ≤ c ∧ c ≤ t + 4)) h h'
theorem XLw.cg {h h' : DT} {t s s' : Nat} {C C' : Nat → Int} {lw : Nat} {o : Option Cd} (H : XLw h t s C lw o) (e : gF h' t (2 + lw) = gF h t (2 + lw)) (hs : s ≤ s') (ag : ∀ x, x < s → C' x = C x) : XLw h' t s' C' lw o := by
  cases o with
  | none => exact e.trans H
  | some c =>
    obtain ⟨a, b, w, h1, h2, h3, h4, h5⟩ := H
    exact ⟨a, b, w, e.trans h1, h2.cg (fun x _ h => ag x (by omega)), h3, by omega, by rw [ag b (by omega)]; exact h5⟩
theorem getD_app {α : Type} (l : List α) (x y : α) (i : Nat) : (l ++ [x]).getD i y = if i < l.length then l.getD i y else if i = l.length then x else y := by
  rw [List.getD_eq_getElem?_getD, List.getD_eq_getElem?_getD]
  by_cases h : i < l.length
  · rw [if_pos h, List.getElem?_append_left h]
  · rw [if_neg h, List.getElem?_append_right (by omega)]
    by_cases g : i = l.length
    · rw [if_pos g, g, Nat.sub_self]
      rfl
    · rw [if_neg g, List.getElem?_eq_none (by simp; omega)]
      rfl
section CX
variable (X : XS) (d t : Nat) (tu gu : Option Nat) (tl : List SC)
theorem x_addc (ht : isT4 t) {n : Nat} (h : DT) (hn : gF h t 0 = nI n) (h24 : n < 24) (a b c : Int32) : ∃ h', cal X (d + 1) 84 [vP (some t), vI a, vI b, vI c] (SK (some t) tu gu tl, h) = some (none, (SK (some t) tu gu tl, h')) ∧ gF h' t 0 = nI (n + 1) ∧ (∀ z, z ≠ 0 → gF h' t z = gF h t z) ∧ gA h' (t + 1) = upd (gA h (t + 1)) n a ∧ gA h' (t + 2) = upd (gA h (t + 2)) n b ∧ gA h' (t + 3) = upd (gA h (t + 3)) n c ∧ smX (fun c => t ≤ c ∧ c ≤ t + 3) h h' := by
  unfold isT4 at ht
  refine ⟨sF (wA (wA (wA h (t + 1) (upd (gA h (t + 1)) n a)) (t + 2) (upd (gA h (t + 2)) n b)) (t + 3) (upd (gA h (t + 3)) n c)) t 0 (nI (n + 1)), ?_, ?_, fun z hz => ?_, ?_, ?_, ?_, smX.tr (smX.tr (smX.tr (smX_wA (by omega)) (smX_wA (by omega))) (smX_wA (by omega))) (smX_sF (by omega))⟩
  · rw [c_X7_addClause, e_X7_addClause_0 (ht := ht), hn, show (24 : Int32) = nI 24 from rfl, if_pos ((nI_ltI (by omega) (by omega)).mpr h24), inbI (by omega) (by omega), inbI (by omega) (by omega), inbI (by omega) (by omega), nI_1, sA_w, sA_w, gA_wA, if_neg (by omega), sA_w, gA_wA, if_neg (by omega), gA_wA, if_neg (by omega)]
  · rw [gF_sF, if_pos ⟨rfl, rfl⟩]
  · rw [gF_sF, if_neg (fun y => hz y.2)]
    rfl
  · show gA (wA (wA (wA h (t + 1) _) (t + 2) _) (t + 3) _) (t + 1) = _
    rw [gA_wA, if_neg (by omega), gA_wA, if_neg (by omega), gA_wA']
  · show gA (wA (wA (wA h (t + 1) _) (t + 2) _) (t + 3) _) (t + 2) = _
    rw [gA_wA, if_neg (by omega), gA_wA']
  · show gA (wA (wA (wA h (t + 1) _) (t + 2) _) (t + 3) _) (t + 3) = _
    rw [gA_wA']
/-- what reading a clause comes to -/
def ClO (t : Nat) (tu gu : Option Nat) (tl : List SC) (B : Nat → Nat) (L : Nat) (cl : RR) (h : DT) (pr : CR) : Prop := match pr with
  | .inl q => ∃ h', cl = some (some (vI 0), (SK (some t) tu gu tl, h')) ∧ gF h' 38 2 = nI q.1 ∧ gF h' 38 3 = nI (tkn B L q.2).2.2 ∧ zT t h h' ∧ gF h' 38 0 = gF h 38 0 ∧ gF h' 38 1 = gF h 38 1
  | .inr q => ∃ h' s' C', cl = some (some (vI 1), (SK (some t) tu gu tl, h')) ∧ CT h' B L q.1 ∧ XTx h' t q.2 s' C' ∧ s' ≤ tS B L q.1 ∧ q.1 ≤ L ∧ zT t h h' ∧ ∀ z, z < 4 → gF h' 38 z = gF h 38 z
theorem zFr.zt {t : Nat} {h h' : DT} (H : zFr t h h') : zT t h h' := H.1.mo fun c hc => by omega
theorem zFs.zt {t : Nat} {h h' : DT} (H : zFs t h h') : zT t h h' := H.1.mo fun c hc => by omega
theorem zT.tr {t : Nat} {a b c : DT} (p : zT t a b) (q : zT t b c) : zT t a c := smX.tr p q
theorem zT_38 {t : Nat} {h h' : DT} (H : smX (fun c => c = 38) h h') : zT t h h' := H.mo fun c hc => Or.inl hc
/-- the sign behind a clause; the state has the clause already -/
theorem x_semi (ht : isT4 t) {B : Nat → Nat} {L i s : Nat} {C : Nat → Int} {T : TXT} (h : DT) (H : CT h B L i) (hX : XTx h t T s C) (hs : s ≤ tS B L i) {K : Int32 → HP → RR} (hK0 : ∀ h1, K 0 (SK (some t) tu gu tl, h1) = some (some (vI 0), (SK (some t) tu gu tl, h1))) (hK1 : ∀ h1, K 1 (SK (some t) tu gu tl, h1) = some (some (vI 1), (SK (some t) tu gu tl, h1))) : ClO t tu gu tl B L (bI (cal X (d + 4) 48 [vP (some 38), vI 59] (SK (some t) tu gu tl, h)) K) h (smP (tkn B L) i T) := by
  unfold smP
  rw [show (59 : Int32) = nI 59 from rfl]
  rcases x_ts X d t tu gu tl ht (m := 59) (by omega) (by omega) (by omega) (by omega) h H with ⟨g, gi, h3, e1, e2, e3, e4⟩ | ⟨g, h3, e1, e2, e3, e4⟩
  · rw [e1, bI_s, hK1, if_pos g]
    have t1 := tS_st (B := B) (L := L) (i := i) (by rw [g]; decide)
    have ht' := ht
    unfold isT4 at ht'
    obtain ⟨x1, x2, x3, x4, x5, x6⟩ := hX
    have eF : gF h3 t = gF h t := smF e3 (by omega)
    refine ⟨h3, s, C, rfl, e2, ⟨x1, by rw [eF]; exact x2, fun j hj => ?_, x4.cg ht e3, x5.cg (by rw [eF]) (Nat.le_refl _) (fun _ _ => rfl), x6.cg (by rw [eF]) (Nat.le_refl _) (fun _ _ => rfl)⟩, by show s ≤ tS B L (i + 1); omega, by show i + 1 ≤ L; omega, zT_38 e3, fun z hz => e4 z (by omega)⟩
    unfold XCl
    rw [smA e3 (show ¬ t + 1 = 38 by omega), smA e3 (show ¬ t + 2 = 38 by omega), smA e3 (show ¬ t + 3 = 38 by omega)]
    exact x3 j hj
  · rw [e1, bI_s, hK0, if_neg g]
    exact ⟨h3, rfl, e2, e3, e4.zt, e4.2.2 0 (by omega) (by omega) (by omega), e4.2.2 1 (by omega) (by omega) (by omega)⟩
theorem ClO.pre {t : Nat} {tu gu : Option Nat} {tl : List SC} {B : Nat → Nat} {L : Nat} {cl : RR} {h h1 : DT} {pr : CR} (H : ClO t tu gu tl B L cl h1 pr) (z : zT t h h1) (e : ∀ z, z < 4 → gF h1 38 z = gF h 38 z) : ClO t tu gu tl B L cl h pr := by
  cases pr with
  | inl q =>
    obtain ⟨h2, j1, j2, j3, j4, j5, j6⟩ := H
    exact ⟨h2, j1, j2, j3, z.tr j4, j5.trans (e 0 (by omega)), j6.trans (e 1 (by omega))⟩
  | inr q =>
    obtain ⟨h2, s2, C2, j1, j2, j3, j4, j5, j6, j7⟩ := H
    exact ⟨h2, s2, C2, j1, j2, j3, j4, j5, z.tr j6, fun z hz => (j7 z hz).trans (e z hz)⟩
/-- a clause is added -/
theorem XTx_add (ht : isT4 t) {h h' : DT} {T : TXT} {s : Nat} {C : Nat → Int} {k v v2 : Nat} (H : XTx h t T s C) (hl : T.1.length < 24) (e0 : gF h' t 0 = nI (T.1.length + 1)) (eF : ∀ z, z ≠ 0 → gF h' t z = gF h t z) (a1 : gA h' (t + 1) = upd (gA h (t + 1)) T.1.length (nI (k + 1))) (a2 : 2 ≤ k → gA h' (t + 2) T.1.length = nI v) (a2' : ∀ j, j < T.1.length → gA h' (t + 2) j = gA h (t + 2) j) (a3 : 2 ≤ k → k ≤ 4 → gA h' (t + 3) T.1.length = nI v2) (a3' : ∀ j, j < T.1.length → gA h' (t + 3) j = gA h (t + 3) j) (a4 : gA h' (t + 4) = gA h (t + 4)) : XTx h' t (T.1 ++ [(k, v, v2)], T.2) s C := by
  obtain ⟨x1, x2, x3, x4, x5, x6⟩ := H
  refine ⟨by rw [List.length_append]; exact hl, by rw [List.length_append]; exact e0, fun j hj => ?_, ⟨by rw [eF 1 (by omega)]; exact x4.1, x4.2.1, by rw [a4]; exact x4.2.2⟩, x5.cg (eF 2 (by omega)) (Nat.le_refl _) (fun _ _ => rfl), x6.cg (eF 3 (by omega)) (Nat.le_refl _) (fun _ _ => rfl)⟩
  rw [List.length_append] at hj
  simp only [List.length_cons, List.length_nil] at hj
  rw [getD_app]
  by_cases g : j < T.1.length
  · rw [if_pos g]
    have := x3 j g
    unfold XCl at this ⊢
    rw [a1, pk_un (by omega), a2' j g, a3' j g]
    exact this
  · have gj : j = T.1.length := by omega
    rw [if_neg g, if_pos gj, gj]
    unfold XCl
    rw [a1, pk_us]
    exact ⟨rfl, a2, a3⟩
end CX
