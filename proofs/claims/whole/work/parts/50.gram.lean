/-! THE GRAMMAR over tokens: τ i = (kind, number or word, first byte); the reference's pile as a machine over tokens; it reads what the grammar says -/
abbrev Tk : Type := Nat → Nat × Nat × Nat
abbrev Cd : Type := List (Nat × Nat)
abbrev PR : Type := (Nat × Nat) ⊕ (Nat × Cd)
def pB (r : PR) (k : Nat → Cd → PR) : PR := match r with
  | .inl e => .inl e
  | .inr q => k q.1 q.2
def isW (τ : Tk) (i w : Nat) : Bool := Nat.beq (τ i).1 2 && Nat.beq (τ i).2.1 w
def gSum (τ : Tk) (i : Nat) : Nat := if (τ i).1 = 43 then 6 else if (τ i).1 = 45 then 7 else 0
def gPrd (τ : Tk) (i : Nat) : Nat := if (τ i).1 = 42 then 8 else if (τ i).1 = 47 then 9 else 0
def gAnd (τ : Tk) (i : Nat) : Nat := if isW τ i 14 = true then 21 else 0
def gOr (τ : Tk) (i : Nat) : Nat := if isW τ i 15 = true then 22 else 0
def gCmp (τ : Tk) (i : Nat) : Nat := if (τ i).1 = 60 then 10 else if (τ i).1 = 4 then 11 else if (τ i).1 = 62 then 12 else if (τ i).1 = 5 then 13 else if (τ i).1 = 61 then 14 else if (τ i).1 = 35 then 15 else 0
def chn (it : Nat → PR) (op : Nat → Nat) : Nat → Nat → Cd → PR
  | 0, i, c => .inr (i, c)
  | f + 1, i, c => if op i = 0 then .inr (i, c) else pB (it (i + 1)) fun j e => chn it op f j (c ++ e ++ [(op i, 0)])
def prdP (τ : Tk) (it : Nat → PR) (i : Nat) : PR := pB (it i) fun j c => chn it (gPrd τ) 300 j c
def sumP (τ : Tk) (it : Nat → PR) (i : Nat) : PR := pB (prdP τ it i) fun j c => chn (prdP τ it) (gSum τ) 300 j c
def bthP (τ : Tk) (ask : Nat → PR) (i : Nat) : PR := pB (ask i) fun j c => chn ask (gAnd τ) 300 j c
def eitP (τ : Tk) (ask : Nat → PR) (i : Nat) : PR := pB (bthP τ ask i) fun j c => chn (bthP τ ask) (gOr τ) 300 j c
def gNam (w : Nat) : Nat := if w = 8 then 0 else if 19 ≤ w ∧ w ≤ 26 then w - 18 else 9
def gOf (lw nm : Nat) : Bool := Nat.blt nm 5 || (bif Nat.blt nm 7 then Nat.beq lw 0 else Nat.beq lw 1)
abbrev Lv : Type := (Nat → PR) × (Nat → PR)
def parF (τ : Tk) (s : Lv) (i : Nat) : PR := pB (sumP τ s.1 (i + 1)) fun j c => if (τ j).1 = 41 then .inr (j + 1, c) else .inl (1, j)
def negF (s : Lv) (i : Nat) : PR := pB (s.1 (i + 1)) fun j c => .inr (j, c ++ [(5, 0)])
def stpF (τ : Tk) (s : Lv) (i : Nat) : PR := pB (s.1 (i + 1)) fun j c => if isW τ j 10 = true then pB (s.1 (j + 1)) fun j2 c2 => .inr (j2, c ++ c2 ++ [(4, 0)]) else .inl (1, j)
def seaF (s : Lv) (i : Nat) : PR := pB (s.1 (i + 1)) fun j c => .inr (j, c ++ [(2, 0)])
def choF (τ : Tk) (s : Lv) (i : Nat) : PR := pB (eitP τ s.2 (i + 1)) fun j c => if isW τ j 16 = true then pB (sumP τ s.1 (j + 1)) fun j2 c2 => if isW τ j2 17 = true then pB (sumP τ s.1 (j2 + 1)) fun j3 c3 => if isW τ j3 18 = true then .inr (j3 + 1, c ++ c2 ++ c3 ++ [(3, 0)]) else .inl (1, j3) else .inl (1, j2) else .inl (1, j)
def opF (sub : Option Lv) (i : Nat) (k : Lv → PR) : PR := match sub with
  | none => .inl (3, i)
  | some s => k s
def oneF (τ : Tk) (lw : Nat) (sub : Option Lv) (i : Nat) : PR :=
  if (τ i).1 = 1 then (if 9999 < (τ i).2.1 then .inl (2, i) else .inr (i + 1, [(0, (τ i).2.1)]))
  else if (τ i).1 = 40 then opF sub i fun s => parF τ s i
  else if (τ i).1 = 45 then opF sub i fun s => negF s i
  else if isW τ i 9 = true then opF sub i fun s => stpF τ s i
  else if isW τ i 11 = true then opF sub i fun s => seaF s i
  else if isW τ i 12 = true then opF sub i fun s => choF τ s i
  else if (τ i).1 = 2 ∧ gNam (τ i).2.1 < 9 then (if gOf lw (gNam (τ i).2.1) = true then .inr (i + 1, [(1, gNam (τ i).2.1)]) else .inl (5, i))
  else .inl (1, i)
def cmpF (τ : Tk) (one : Nat → PR) (i : Nat) : PR := pB (sumP τ one i) fun j c => if gCmp τ j = 0 then .inl (1, j) else pB (sumP τ one (j + 1)) fun j2 c2 => .inr (j2, c ++ c2 ++ [(gCmp τ j, 0)])
def askF (τ : Tk) (sub : Option Lv) (one : Nat → PR) (i : Nat) : PR :=
  if isW τ i 13 = true then opF sub i fun s => pB (s.2 (i + 1)) fun j c => .inr (j, c ++ [(20, 0)])
  else cmpF τ one i
def lvP (τ : Tk) (lw : Nat) : Nat → Lv
  | 0 => (oneF τ lw none, askF τ none (oneF τ lw none))
  | D + 1 => (oneF τ lw (some (lvP τ lw D)), askF τ (some (lvP τ lw D)) (oneF τ lw (some (lvP τ lw D))))
-- the reference's machine: token, pile (its top first), how many are open, whether one is whole, code
abbrev St : Type := Nat × List Nat × Nat × Bool × Cd
abbrev RO : Type := St ⊕ (Nat × Nat × Cd)
def rnk (o : Nat) : Nat := if 40 ≤ o then 0 else if o = 22 then 1 else if o = 21 then 2 else if o = 20 then 3 else if 10 ≤ o then 4 else if o = 5 ∨ o = 2 ∨ o = 4 then 7 else if 8 ≤ o then 6 else 5
def isN (p : Nat) : Nat := if rnk p = 7 ∨ p = 20 then 1 else 0
def stl (r : Nat) : List Nat → Nat → Cd → List Nat × Nat × Cd
  | [], o, c => ([], o, c)
  | p :: K, o, c => if r ≤ rnk p then stl r K (o - isN p) (c ++ [(p, 0)]) else (p :: K, o, c)
def opn : List Nat → Nat
  | [] => 0
  | p :: K => if 40 ≤ p then p else opn K
def cmpd : List Nat → Bool
  | [] => false
  | p :: K => if 4 < rnk p then cmpd K else Nat.beq (rnk p) 4
def askA (K : List Nat) : Bool := Nat.beq (opn K) 42 && (match K with
  | [] => false
  | p :: _ => Nat.ble 40 p || (Nat.ble 1 (rnk p) && Nat.ble (rnk p) 3))
def btw (τ : Tk) (i : Nat) (K : List Nat) : Nat := if gSum τ i ≠ 0 then gSum τ i else if gPrd τ i ≠ 0 then gPrd τ i else if opn K ≠ 42 then 0 else if cmpd K = false then gCmp τ i else if gAnd τ i ≠ 0 then gAnd τ i else gOr τ i
/-- 99: none -/
def prt (τ : Tk) (i : Nat) (K : List Nat) : Nat := if opn K = 40 then (if (τ i).1 = 41 then 0 else 99) else if opn K = 42 then (if isW τ i 16 = true ∧ cmpd K = true then 43 else 99) else if opn K = 43 then (if isW τ i 17 = true then 44 else 99) else if opn K = 44 then (if isW τ i 18 = true then 0 else 99) else 99
def rE2 (τ : Tk) (i : Nat) (s : List Nat × Nat × Cd) : RO := if s.1.head? = some 41 then (if isW τ i 10 = true then .inl (i + 1, 4 :: s.1.tail, s.2.1, false, s.2.2) else .inr (1, i, s.2.2)) else .inl (i, s.1, s.2.1, true, s.2.2)
def rEnd (τ : Tk) (i : Nat) (K : List Nat) (o : Nat) (c : Cd) : RO := rE2 τ i (stl 7 K o c)
def rOpn (i p : Nat) (K : List Nat) (o : Nat) (c : Cd) : RO := if o = 8 then .inr (3, i, c) else .inl (i + 1, p :: K, o + 1, false, c)
def rBeg (τ : Tk) (lw i : Nat) (K : List Nat) (o : Nat) (c : Cd) : RO :=
  if (τ i).1 = 1 then (if 9999 < (τ i).2.1 then .inr (2, i, c) else rEnd τ (i + 1) K o (c ++ [(0, (τ i).2.1)]))
  else if (τ i).1 = 2 ∧ gNam (τ i).2.1 < 9 then (if gOf lw (gNam (τ i).2.1) = true then rEnd τ (i + 1) K o (c ++ [(1, gNam (τ i).2.1)]) else .inr (5, i, c))
  else if (τ i).1 = 40 then rOpn i 40 K o c
  else if (τ i).1 = 45 then rOpn i 5 K o c
  else if isW τ i 9 = true then rOpn i 41 K o c
  else if isW τ i 11 = true then rOpn i 2 K o c
  else if isW τ i 12 = true then rOpn i 42 K o c
  else if isW τ i 13 = true ∧ askA K = true then rOpn i 20 K o c
  else .inr (1, i, c)
def rBeh (τ : Tk) (i : Nat) (K : List Nat) (o : Nat) (c : Cd) : RO :=
  if btw τ i K ≠ 0 then .inl (i + 1, btw τ i K :: (stl (if rnk (btw τ i K) = 4 then 5 else rnk (btw τ i K)) K o c).1, (stl (if rnk (btw τ i K) = 4 then 5 else rnk (btw τ i K)) K o c).2.1, false, (stl (if rnk (btw τ i K) = 4 then 5 else rnk (btw τ i K)) K o c).2.2)
  else if prt τ i K = 99 then (if opn K ≠ 0 then .inr (1, i, c) else .inr (0, i, (stl 1 K o c).2.2))
  else if prt τ i K = 0 then rEnd τ (i + 1) (stl 1 K o c).1.tail ((stl 1 K o c).2.1 - 1) (if opn K = 44 then (stl 1 K o c).2.2 ++ [(3, 0)] else (stl 1 K o c).2.2)
  else .inl (i + 1, prt τ i K :: (stl 1 K o c).1.tail, (stl 1 K o c).2.1, false, (stl 1 K o c).2.2)
def rStep (τ : Tk) (lw : Nat) (s : St) : RO := bif s.2.2.2.1 then rBeh τ s.1 s.2.1 s.2.2.1 s.2.2.2.2 else rBeg τ lw s.1 s.2.1 s.2.2.1 s.2.2.2.2
def rIt (τ : Tk) (lw : Nat) : Nat → St → RO
  | 0, s => .inl s
  | m + 1, s => match rStep τ lw s with
    | .inl s' => rIt τ lw m s'
    | .inr r => .inr r
def Ld (τ : Tk) (lw : Nat) (s : St) (r : RO) : Prop := ∃ m, rIt τ lw m s = r
theorem rIt_add {τ : Tk} {lw : Nat} : ∀ (m m' : Nat) (s s' : St), rIt τ lw m s = .inl s' → rIt τ lw (m + m') s = rIt τ lw m' s'
  | 0, m', s, s', h => by cases h; rw [Nat.zero_add]
  | m + 1, m', s, s', h => by
    rw [show m + 1 + m' = m + m' + 1 by omega]
    have e1 : ∀ k, rIt τ lw (k + 1) s = (match rStep τ lw s with
      | .inl s' => rIt τ lw k s'
      | .inr r => .inr r) := fun k => rfl
    rw [e1] at h ⊢
    cases hs : rStep τ lw s with
    | inl q => rw [hs] at h; exact rIt_add m m' _ s' h
    | inr q => rw [hs] at h; cases h
theorem Ld.rf {τ : Tk} {lw : Nat} (s : St) : Ld τ lw s (.inl s) := ⟨0, rfl⟩
theorem Ld.tr {τ : Tk} {lw : Nat} {s s' : St} {r : RO} (h : Ld τ lw s (.inl s')) (h' : Ld τ lw s' r) : Ld τ lw s r := by
  obtain ⟨m, e⟩ := h
  obtain ⟨m', e'⟩ := h'
  exact ⟨m + m', by rw [rIt_add m m' s s' e, e']⟩
theorem Ld.st {τ : Tk} {lw : Nat} {s : St} {r : RO} (h : rStep τ lw s = r) : Ld τ lw s r := ⟨1, by
  unfold rIt
  rw [h]
  cases r <;> rfl⟩
theorem Ld.go {τ : Tk} {lw : Nat} {s s' : St} {r : RO} (h : rStep τ lw s = .inl s') (h' : Ld τ lw s' r) : Ld τ lw s r := (Ld.st h).tr h'
def zz (p : Nat) : Nat × Nat := (p, 0)
def nts (P : List Nat) : Nat := (P.map isN).sum
theorem stl_app {r : Nat} {K : List Nat} : ∀ (P : List Nat) (o : Nat) (c : Cd), (∀ p ∈ P, r ≤ rnk p) → stl r (P ++ K) (o + nts P) c = stl r K o (c ++ P.map zz)
  | [], o, c, h => by simp [nts]
  | p :: P, o, c, h => by
    have h1 := h p List.mem_cons_self
    have e : o + nts (p :: P) - isN p = o + nts P := by simp only [nts, List.map_cons, List.sum_cons]; omega
    rw [List.cons_append, show stl r (p :: (P ++ K)) (o + nts (p :: P)) c = (if r ≤ rnk p then stl r (P ++ K) (o + nts (p :: P) - isN p) (c ++ [(p, 0)]) else (p :: (P ++ K), o + nts (p :: P), c)) from rfl, if_pos h1, e, stl_app P o _ (fun q hq => h q (List.mem_cons_of_mem _ hq))]
    simp [zz]
def tp (K : List Nat) (r : Nat) : Prop := ∀ p, K.head? = some p → rnk p < r ∧ p ≠ 41
theorem stl_st {r : Nat} {K : List Nat} {o : Nat} {c : Cd} (h : tp K r) : stl r K o c = (K, o, c) := by
  cases K with
  | nil => rfl
  | cons p K =>
    unfold stl
    rw [if_neg (by have := (h p rfl).1; omega)]
theorem rEnd_st {τ : Tk} {i : Nat} {K : List Nat} {o : Nat} {c : Cd} (h : tp K 7) : rEnd τ i K o c = .inl (i, K, o, true, c) := by
  unfold rEnd rE2
  rw [stl_st h, if_neg]
  intro e
  exact (h 41 e).2 rfl
theorem tp.mo {K : List Nat} {r r' : Nat} (h : tp K r) (hr : r ≤ r') : tp K r' := fun p hp => ⟨by have := (h p hp).1; omega, (h p hp).2⟩
theorem tp_cons {p r : Nat} {K : List Nat} (h : rnk p < r) (h' : p ≠ 41) : tp (p :: K) r := fun q hq => by
  cases hq
  exact ⟨h, h'⟩
theorem nts_app (P Q : List Nat) : nts (P ++ Q) = nts P + nts Q := by simp [nts]
theorem opn_app {P K : List Nat} (h : ∀ p ∈ P, p < 40) : opn (P ++ K) = opn K := by
  induction P with
  | nil => rfl
  | cons p P ih =>
    rw [List.cons_append, show opn (p :: (P ++ K)) = (if 40 ≤ p then p else opn (P ++ K)) from rfl, if_neg (by have := h p List.mem_cons_self; omega)]
    exact ih (fun q hq => h q (List.mem_cons_of_mem _ hq))
theorem cmpd_app {P K : List Nat} (h : ∀ p ∈ P, 4 < rnk p) : cmpd (P ++ K) = cmpd K := by
  induction P with
  | nil => rfl
  | cons p P ih =>
    rw [List.cons_append, show cmpd (p :: (P ++ K)) = (if 4 < rnk p then cmpd (P ++ K) else Nat.beq (rnk p) 4) from rfl, if_pos (h p List.mem_cons_self)]
    exact ih (fun q hq => h q (List.mem_cons_of_mem _ hq))
/-- what comes of a piece: a fault, or it is behind it -/
def Out (τ : Tk) (lw : Nat) (s : St) (r : PR) (G : Nat → Cd → Prop) : Prop := match r with
  | .inl q => q.1 ≠ 0 ∧ ∃ c, Ld τ lw s (.inr (q.1, q.2, c))
  | .inr q => G q.1 q.2
theorem Out.bd {τ : Tk} {lw : Nat} {s : St} {r : PR} {G G' : Nat → Cd → Prop} {k : Nat → Cd → PR} (h : Out τ lw s r G) (hk : ∀ j e, r = .inr (j, e) → G j e → Out τ lw s (k j e) G') : Out τ lw s (pB r k) G' := by
  cases r with
  | inl q => exact h
  | inr q => exact hk q.1 q.2 rfl h
theorem Out.go {τ : Tk} {lw : Nat} {s s' : St} {r : PR} {G : Nat → Cd → Prop} (hl : Ld τ lw s (.inl s')) (h : Out τ lw s' r (fun j e => G j e)) : Out τ lw s r G := by
  cases r with
  | inl q => exact ⟨h.1, h.2.elim fun c hc => ⟨c, hl.tr hc⟩⟩
  | inr q => exact h
theorem Out.mo {τ : Tk} {lw : Nat} {s : St} {r : PR} {G G' : Nat → Cd → Prop} (h : Out τ lw s r G) (hg : ∀ j e, G j e → G' j e) : Out τ lw s r G' := by
  cases r with
  | inl q => exact h
  | inr q => exact hg _ _ h
/-- behind a piece, whose signs P wait above K -/
def Beh (τ : Tk) (lw : Nat) (s : St) (i : Nat) (K : List Nat) (o : Nat) (c : Cd) (Q : List Nat → Prop) (E : Nat → Prop) (j : Nat) (e : Cd) : Prop :=
  i < j ∧ E j ∧ ∃ (P : List Nat) (c' : Cd), Ld τ lw s (.inl (j, P ++ K, o + nts P, true, c')) ∧ c' ++ P.map zz = c ++ e ∧ Q P
theorem L_chn {τ : Tk} {lw : Nat} {it : Nat → PR} {op : Nat → Nat} {r o : Nat} {K : List Nat} {Q : List Nat → Prop} {E : Nat → Prop} (hE : ∀ i, 301 ≤ i → op i = 0) (hop : ∀ i, op i ≠ 0 → rnk (op i) = r ∧ isN (op i) = 0) (hr4 : r ≠ 4)
    (hb : ∀ i P, op i ≠ 0 → E i → Q P → btw τ i (P ++ K) = op i) (hQ : ∀ P, Q P → ∀ p ∈ P, r ≤ rnk p) (hK : tp K r) (hit : ∀ k i c, op k ≠ 0 → Out τ lw (i, op k :: K, o, false, c) (it i) (Beh τ lw (i, op k :: K, o, false, c) i (op k :: K) o c (fun P => Q (P ++ [op k])) E)) :
    ∀ (f i : Nat) (c' : Cd) (P : List Nat) (e0 c0 : Cd) (s : St) (i0 : Nat), 301 ≤ i + f → i0 < i → Q P → E i → c' ++ P.map zz = c0 ++ e0 → Ld τ lw s (.inl (i, P ++ K, o + nts P, true, c')) →
      Out τ lw s (chn it op f i e0) (Beh τ lw s i0 K o c0 Q (fun j => E j ∧ op j = 0))
  | 0, i, c', P, e0, c0, s, i0, hf, hi, hP, hEi, hc, hs => ⟨hi, ⟨hEi, hE i (by omega)⟩, P, c', hs, hc, hP⟩
  | f + 1, i, c', P, e0, c0, s, i0, hf, hi, hP, hEi, hc, hs => by
    unfold chn
    by_cases g : op i = 0
    · rw [if_pos g]
      exact ⟨hi, ⟨hEi, g⟩, P, c', hs, hc, hP⟩
    · rw [if_neg g]
      have hbt := hb i P g hEi hP
      have hst : rStep τ lw (i, P ++ K, o + nts P, true, c') = .inl (i + 1, op i :: K, o, false, c0 ++ e0) := by
        show rBeh τ i (P ++ K) (o + nts P) c' = _
        unfold rBeh
        rw [hbt, if_pos g, (hop i g).1, if_neg hr4, stl_app P o c' (hQ P hP), stl_st hK, hc]
      refine Out.go (hs.tr (Ld.st hst)) ?_
      refine (hit i (i + 1) (c0 ++ e0) g).bd fun j e _ ⟨h1, h2, P2, c2, h3, h4, h5⟩ => ?_
      have h3' : Ld τ lw (i + 1, op i :: K, o, false, c0 ++ e0) (.inl (j, (P2 ++ [op i]) ++ K, o + nts (P2 ++ [op i]), true, c2)) := by
        have e1 : nts [op i] = 0 := by simp [nts, (hop i g).2]
        rw [nts_app, e1, Nat.add_zero, List.append_assoc]
        exact h3
      refine (L_chn hE hop hr4 hb hQ hK hit f j c2 (P2 ++ [op i]) (e0 ++ e ++ [(op i, 0)]) c0 _ i0 (by omega) (by omega) h5 h2 (by rw [List.map_append, ← List.append_assoc, h4]; simp [zz]) h3').mo fun j' e' ⟨g1, g2, P3, c3, g3, g4, g5⟩ => ⟨g1, g2, P3, c3, (hs.tr (Ld.st hst)).tr g3, g4, g5⟩
def OneT (τ : Tk) (lw D : Nat) (one : Nat → PR) : Prop := ∀ (i : Nat) (K : List Nat) (c : Cd) (o : Nat), o + D = 8 → (askA K = false ∨ isW τ i 13 = false) →
  Out τ lw (i, K, o, false, c) (one i) (fun j e => i < j ∧ Ld τ lw (i, K, o, false, c) (rEnd τ j K o (c ++ e)))
def bi4 (p : Nat) : Prop := p = 6 ∨ p = 7 ∨ p = 8 ∨ p = 9
def SumT (τ : Tk) (lw D : Nat) (one : Nat → PR) : Prop := ∀ (i : Nat) (K : List Nat) (c : Cd) (o : Nat), o + D = 8 → tp K 5 → (askA K = false ∨ isW τ i 13 = false) →
  Out τ lw (i, K, o, false, c) (sumP τ one i) (Beh τ lw (i, K, o, false, c) i K o c (fun P => ∀ p ∈ P, bi4 p) (fun j => gPrd τ j = 0 ∧ gSum τ j = 0))
def PrdT (τ : Tk) (lw D : Nat) (one : Nat → PR) : Prop := ∀ (i : Nat) (K : List Nat) (c : Cd) (o : Nat), o + D = 8 → tp K 6 → (askA K = false ∨ isW τ i 13 = false) →
  Out τ lw (i, K, o, false, c) (prdP τ one i) (Beh τ lw (i, K, o, false, c) i K o c (fun P => ∀ p ∈ P, p = 8 ∨ p = 9) (fun j => gPrd τ j = 0))
theorem gPrd_c {τ : Tk} {i : Nat} (h : gPrd τ i ≠ 0) : (gPrd τ i = 8 ∨ gPrd τ i = 9) ∧ gSum τ i = 0 := by
  unfold gPrd at h ⊢
  unfold gSum
  split at h
  · rename_i e; rw [e]; simp
  · split at h
    · rename_i e; rw [e]; simp
    · exact absurd rfl h
theorem gSum_c {τ : Tk} {i : Nat} (h : gSum τ i ≠ 0) : gSum τ i = 6 ∨ gSum τ i = 7 := by
  unfold gSum at h ⊢
  split at h
  · rename_i e; rw [e]; simp
  · split at h
    · rename_i e; rw [e]; simp
    · exact absurd rfl h
theorem askA_op {p : Nat} {K : List Nat} (h : p < 40) (h' : 4 ≤ rnk p) : askA (p :: K) = false := by
  have h1 : Nat.ble 40 p = false := by
    cases hb : Nat.ble 40 p with
    | false => rfl
    | true => have := Nat.le_of_ble_eq_true hb; omega
  have h2 : Nat.ble (rnk p) 3 = false := by
    cases hb : Nat.ble (rnk p) 3 with
    | false => rfl
    | true => have := Nat.le_of_ble_eq_true hb; omega
  simp [askA, h1, h2]
theorem rnk_bi {p : Nat} (h : bi4 p) : 5 ≤ rnk p ∧ rnk p ≤ 6 ∧ p < 40 ∧ isN p = 0 := by
  rcases h with rfl | rfl | rfl | rfl <;> decide
theorem nts_bi {P : List Nat} (h : ∀ p ∈ P, isN p = 0) : nts P = 0 := by
  induction P with
  | nil => rfl
  | cons p P ih =>
    have e : nts (p :: P) = isN p + nts P := by simp [nts]
    rw [e, h p List.mem_cons_self, ih (fun q hq => h q (List.mem_cons_of_mem _ hq))]
theorem T_prd {τ : Tk} {lw D : Nat} {one : Nat → PR} (hE : ∀ i, 301 ≤ i → (τ i).1 = 0) (h1 : OneT τ lw D one) : PrdT τ lw D one := by
  intro i K c o ho hK hA
  unfold prdP
  refine (h1 i K c o ho hA).bd fun j e _ ⟨hj, hl⟩ => ?_
  rw [rEnd_st (hK.mo (by omega))] at hl
  refine (L_chn (op := gPrd τ) (r := 6) (E := fun _ => True) (fun i hi => by simp [gPrd, hE i hi]) (fun i hi => ?_) (by omega) (fun i P hi _ _ => ?_) (fun P hP p hp => ?_) hK (fun k i c hk => ?_) 300 j (c ++ e) [] e c (i, K, o, false, c) i (by omega) hj (fun p hp => by cases hp) trivial (by simp) hl).mo fun j' e' ⟨g1, g2, g3⟩ => ⟨g1, g2.2, g3⟩
  · rcases (gPrd_c hi).1 with e | e <;> rw [e] <;> decide
  · unfold btw
    rw [if_neg (by simp [(gPrd_c hi).2]), if_pos hi]
  · rcases hP p hp with rfl | rfl <;> decide
  · have hb : bi4 (gPrd τ k) := by rcases (gPrd_c hk).1 with e | e <;> rw [e] <;> simp [bi4]
    have hr := rnk_bi hb
    refine (h1 i (gPrd τ k :: K) c o ho (Or.inl (askA_op hr.2.2.1 (by omega)))).mo fun j e ⟨hj, hl⟩ => ⟨hj, trivial, [], c ++ e, ?_, by simp, ?_⟩
    · rw [rEnd_st (tp_cons (by omega) (by omega))] at hl
      exact hl
    · intro p hp
      simp at hp
      rw [hp]
      exact (gPrd_c hk).1
theorem T_sum {τ : Tk} {lw D : Nat} {one : Nat → PR} (hE : ∀ i, 301 ≤ i → (τ i).1 = 0) (h1 : OneT τ lw D one) : SumT τ lw D one := by
  intro i K c o ho hK hA
  have h2 := T_prd hE h1
  unfold sumP
  refine (h2 i K c o ho (hK.mo (by omega)) hA).bd fun j e _ ⟨hj, hEj, P, c', hl, hc, hP⟩ => ?_
  refine (L_chn (op := gSum τ) (r := 5) (K := K) (o := o) (Q := fun P => ∀ p ∈ P, bi4 p) (E := fun j => gPrd τ j = 0) (fun i hi => by simp [gSum, hE i hi]) (fun i hi => ?_) (by omega) (fun i P hi _ _ => ?_) (fun P hP p hp => (rnk_bi (hP p hp)).1) hK (fun k i c hk => ?_) 300 j c' P e c (i, K, o, false, c) i (by omega) hj (fun p hp => by rcases hP p hp with rfl | rfl <;> simp [bi4]) hEj hc hl)
  · rcases gSum_c hi with e | e <;> rw [e] <;> decide
  · unfold btw
    rw [if_pos hi]
  · have hb : bi4 (gSum τ k) := by rcases gSum_c hk with e | e <;> rw [e] <;> simp [bi4]
    have hb5 : rnk (gSum τ k) = 5 := by rcases gSum_c hk with e | e <;> rw [e] <;> decide
    have hr := rnk_bi hb
    refine (h2 i (gSum τ k :: K) c o ho (tp_cons (by omega) (by omega)) (Or.inl (askA_op hr.2.2.1 (by omega)))).mo fun j e ⟨hj, hE, P, c', hl, hc, hP⟩ => ⟨hj, hE, P, c', hl, hc, ?_⟩
    intro p hp
    rcases List.mem_append.mp hp with q | q
    · rcases hP p q with rfl | rfl <;> simp [bi4]
    · simp at q
      rw [q]
      exact hb
/-- a question, below K: its signs wait -/
def AskT (τ : Tk) (lw D : Nat) (ask : Nat → PR) : Prop := ∀ (i : Nat) (K : List Nat) (c : Cd) (o : Nat), o + D = 8 → askA K = true →
  Out τ lw (i, K, o, false, c) (ask i) (Beh τ lw (i, K, o, false, c) i K o c (fun P => (∀ p ∈ P, 3 ≤ rnk p ∧ p < 40) ∧ cmpd (P ++ K) = true) (fun j => gPrd τ j = 0 ∧ gSum τ j = 0))
theorem askA_42 {K : List Nat} (h : askA K = true) : opn K = 42 := by
  unfold askA at h
  rw [Bool.and_eq_true] at h
  exact Nat.eq_of_beq_eq_true h.1
theorem askA_tp {K : List Nat} (h : askA K = true) : tp K 4 ∧ cmpd K = false := by
  have h42 := askA_42 h
  cases K with
  | nil => cases h42
  | cons p K =>
    unfold askA at h
    rw [Bool.and_eq_true, Bool.or_eq_true, Bool.and_eq_true] at h
    have hr : rnk p < 4 := by
      rcases h.2 with q | ⟨q, q'⟩
      · have := Nat.le_of_ble_eq_true q
        simp [rnk, this]
      · have := Nat.le_of_ble_eq_true q'
        omega
    refine ⟨tp_cons hr ?_, ?_⟩
    · rintro rfl
      cases h42
    · rw [show cmpd (p :: K) = (if 4 < rnk p then cmpd K else Nat.beq (rnk p) 4) from rfl, if_neg (by omega)]
      cases hb : Nat.beq (rnk p) 4 with
      | false => rfl
      | true => have := Nat.eq_of_beq_eq_true hb; omega
theorem askA_co {p : Nat} {K : List Nat} (h : askA K = true) (hp : p < 40) (h1 : 1 ≤ rnk p) (h3 : rnk p ≤ 3) : askA (p :: K) = true := by
  have h42 := askA_42 h
  have e : opn (p :: K) = 42 := by
    rw [show opn (p :: K) = (if 40 ≤ p then p else opn K) from rfl, if_neg (by omega)]
    exact h42
  simp [askA, e, Nat.ble_eq_true_of_le h1, Nat.ble_eq_true_of_le h3]
theorem gCmp_c {τ : Tk} {i : Nat} (h : gCmp τ i ≠ 0) : rnk (gCmp τ i) = 4 ∧ gCmp τ i < 40 ∧ isN (gCmp τ i) = 0 := by
  unfold gCmp at h ⊢
  repeat' split
  all_goals first | decide | (exfalso; apply h; simp [*])
theorem T_cmp {τ : Tk} {lw D : Nat} {one : Nat → PR} (hs : SumT τ lw D one) (i : Nat) (K : List Nat) (c : Cd) (o : Nat) (ho : o + D = 8) (hK : askA K = true) (h13 : isW τ i 13 = false) :
    Out τ lw (i, K, o, false, c) (cmpF τ one i) (Beh τ lw (i, K, o, false, c) i K o c (fun P => (∀ p ∈ P, 3 ≤ rnk p ∧ p < 40) ∧ cmpd (P ++ K) = true) (fun j => gPrd τ j = 0 ∧ gSum τ j = 0)) := by
  obtain ⟨ht, hc0⟩ := askA_tp hK
  unfold cmpF
  refine (hs i K c o ho (ht.mo (by omega)) (Or.inr h13)).bd fun j e _ ⟨hj, ⟨hE1, hE2⟩, P, c', hl, hc, hP⟩ => ?_
  have hn : nts P = 0 := nts_bi fun p hp => (rnk_bi (hP p hp)).2.2.2
  have hop : opn (P ++ K) = 42 := (opn_app fun p hp => (rnk_bi (hP p hp)).2.2.1).trans (askA_42 hK)
  have hcm : cmpd (P ++ K) = false := (cmpd_app fun p hp => by have := (rnk_bi (hP p hp)).1; omega).trans hc0
  have hb : btw τ j (P ++ K) = gCmp τ j := by
    unfold btw
    rw [if_neg (by simp [hE2]), if_neg (by simp [hE1]), if_neg (by simp [hop]), if_pos hcm]
  by_cases g : gCmp τ j = 0
  · rw [if_pos g]
    refine ⟨Nat.one_ne_zero, c', hl.tr (Ld.st ?_)⟩
    show rBeh τ j (P ++ K) (o + nts P) c' = _
    unfold rBeh
    rw [hb, if_neg (by simp [g]), if_pos (by unfold prt; rw [hop]; simp [hcm]), if_pos (by rw [hop]; decide)]
  · rw [if_neg g]
    obtain ⟨r4, g40, gN⟩ := gCmp_c g
    have hst : rStep τ lw (j, P ++ K, o + nts P, true, c') = .inl (j + 1, gCmp τ j :: K, o, false, c ++ e) := by
      show rBeh τ j (P ++ K) (o + nts P) c' = _
      unfold rBeh
      rw [hb, if_pos g, r4, if_pos rfl, stl_app P o c' (fun p hp => (rnk_bi (hP p hp)).1), stl_st (ht.mo (by omega)), hc]
    refine Out.go (hl.tr (Ld.st hst)) ?_
    refine (hs (j + 1) (gCmp τ j :: K) (c ++ e) o ho (tp_cons (by omega) (by omega)) (Or.inl (askA_op g40 (by omega)))).bd fun j2 e2 _ ⟨hj2, hE, P2, c2, hl2, hc2, hP2⟩ => ?_
    have e1 : nts [gCmp τ j] = 0 := by simp [nts, gN]
    refine ⟨by omega, hE, P2 ++ [gCmp τ j], c2, ?_, ?_, ?_, ?_⟩
    · rw [nts_app, e1, Nat.add_zero, show (P2 ++ [gCmp τ j]) ++ K = P2 ++ gCmp τ j :: K by simp]
      exact (hl.tr (Ld.st hst)).tr hl2
    · rw [List.map_append, ← List.append_assoc, hc2]
      simp [zz]
    · intro p hp
      rcases List.mem_append.mp hp with q | q
      · have := rnk_bi (hP2 p q)
        exact ⟨by omega, by omega⟩
      · simp at q
        rw [q]
        exact ⟨by omega, g40⟩
    · rw [List.append_assoc, cmpd_app fun p hp => by have := (rnk_bi (hP2 p hp)).1; omega]
      show (if 4 < rnk (gCmp τ j) then cmpd K else Nat.beq (rnk (gCmp τ j)) 4) = true
      rw [r4]
      rfl
/-- signs of a question above K -/
def aQ (r : Nat) (K P : List Nat) : Prop := (∀ p ∈ P, r ≤ rnk p ∧ p < 40) ∧ cmpd (P ++ K) = true
theorem gAnd_c {τ : Tk} {i : Nat} (h : gAnd τ i ≠ 0) : gAnd τ i = 21 := by
  unfold gAnd at h ⊢
  split
  · rfl
  · rename_i q; rw [if_neg q] at h; exact absurd rfl h
theorem gOr_c {τ : Tk} {i : Nat} (h : gOr τ i ≠ 0) : gOr τ i = 22 ∧ gAnd τ i = 0 := by
  unfold gOr at h ⊢
  unfold gAnd isW at *
  split at h
  · rename_i q
    simp only [Bool.and_eq_true] at q
    rw [Nat.eq_of_beq_eq_true q.2] at *
    simp [q]
  · exact absurd rfl h
theorem T_bth {τ : Tk} {lw D : Nat} {ask : Nat → PR} (hE : ∀ i, 301 ≤ i → (τ i).1 = 0) (ha : AskT τ lw D ask) (i : Nat) (K : List Nat) (c : Cd) (o : Nat) (ho : o + D = 8) (hK : askA K = true) (hK2 : tp K 2) :
    Out τ lw (i, K, o, false, c) (bthP τ ask i) (Beh τ lw (i, K, o, false, c) i K o c (aQ 2 K) (fun j => (gPrd τ j = 0 ∧ gSum τ j = 0) ∧ gAnd τ j = 0)) := by
  unfold bthP
  have h42 := askA_42 hK
  refine (ha i K c o ho hK).bd fun j e _ ⟨hj, hEj, P, c', hl, hc, hP, hcm⟩ => ?_
  refine (L_chn (op := gAnd τ) (r := 2) (K := K) (o := o) (Q := aQ 2 K) (E := fun j => gPrd τ j = 0 ∧ gSum τ j = 0) (fun i hi => by simp [gAnd, isW, hE i hi]) (fun i hi => ?_) (by omega) (fun i P hi hEi hP => ?_) (fun P hP p hp => (hP.1 p hp).1) hK2 (fun k i c hk => ?_) 300 j c' P e c (i, K, o, false, c) i (by omega) hj ⟨fun p hp => ⟨by have := (hP p hp).1; omega, (hP p hp).2⟩, hcm⟩ hEj hc hl)
  · rw [gAnd_c hi]; decide
  · unfold btw
    rw [if_neg (by simp [hEi.2]), if_neg (by simp [hEi.1]), if_neg (by rw [opn_app fun p hp => (hP.1 p hp).2]; simp [h42]), if_neg (by simp [hP.2]), if_pos hi]
  · rw [gAnd_c hk]
    refine (ha i (21 :: K) c o ho (askA_co hK (by decide) (by decide) (by decide))).mo fun j e ⟨hj, hE, P, c', hl, hc, hP, hcm⟩ => ⟨hj, hE, P, c', hl, hc, fun p hp => ?_, by rw [List.append_assoc]; exact hcm⟩
    rcases List.mem_append.mp hp with q | q
    · exact ⟨by have := (hP p q).1; omega, (hP p q).2⟩
    · simp at q
      rw [q]
      decide
theorem T_eit {τ : Tk} {lw D : Nat} {ask : Nat → PR} (hE : ∀ i, 301 ≤ i → (τ i).1 = 0) (ha : AskT τ lw D ask) (i : Nat) (K : List Nat) (c : Cd) (o : Nat) (ho : o + D = 8) (hK : askA K = true) (hK1 : tp K 1) :
    Out τ lw (i, K, o, false, c) (eitP τ ask i) (Beh τ lw (i, K, o, false, c) i K o c (aQ 1 K) (fun j => ((gPrd τ j = 0 ∧ gSum τ j = 0) ∧ gAnd τ j = 0) ∧ gOr τ j = 0)) := by
  unfold eitP
  have h42 := askA_42 hK
  refine (T_bth hE ha i K c o ho hK (hK1.mo (by omega))).bd fun j e _ ⟨hj, hEj, P, c', hl, hc, hP, hcm⟩ => ?_
  refine (L_chn (op := gOr τ) (r := 1) (K := K) (o := o) (Q := aQ 1 K) (E := fun j => (gPrd τ j = 0 ∧ gSum τ j = 0) ∧ gAnd τ j = 0) (fun i hi => by simp [gOr, isW, hE i hi]) (fun i hi => ?_) (by omega) (fun i P hi hEi hP => ?_) (fun P hP p hp => (hP.1 p hp).1) hK1 (fun k i c hk => ?_) 300 j c' P e c (i, K, o, false, c) i (by omega) hj ⟨fun p hp => ⟨by have := (hP p hp).1; omega, (hP p hp).2⟩, hcm⟩ hEj hc hl)
  · rw [(gOr_c hi).1]; decide
  · unfold btw
    rw [if_neg (by simp [hEi.1.2]), if_neg (by simp [hEi.1.1]), if_neg (by rw [opn_app fun p hp => (hP.1 p hp).2]; simp [h42]), if_neg (by simp [hP.2]), if_neg (by simp [hEi.2])]
  · rw [(gOr_c hk).1]
    refine (T_bth hE ha i (22 :: K) c o ho (askA_co hK (by decide) (by decide) (by decide)) (tp_cons (by decide) (by decide))).mo fun j e ⟨hj, hE, P, c', hl, hc, hP, hcm⟩ => ⟨hj, hE, P, c', hl, hc, fun p hp => ?_, by rw [List.append_assoc]; exact hcm⟩
    rcases List.mem_append.mp hp with q | q
    · exact ⟨by have := (hP p q).1; omega, (hP p q).2⟩
    · simp at q
      rw [q]
      decide
/-- behind a sum below one that is open: what the reference does where it can't go on -/
theorem T_no {τ : Tk} {lw : Nat} {j o x : Nat} {P K : List Nat} {c : Cd} (hP : ∀ p ∈ P, bi4 p) (hE1 : gPrd τ j = 0) (hE2 : gSum τ j = 0) (hx : 40 ≤ x) (hx2 : x ≠ 42) (hp : prt τ j (x :: K) = 99) : rStep τ lw (j, P ++ x :: K, o + nts P, true, c) = .inr (1, j, c) := by
  have hop : opn (P ++ x :: K) = x := by
    rw [opn_app fun p hp => (rnk_bi (hP p hp)).2.2.1]
    show (if 40 ≤ x then x else opn K) = x
    rw [if_pos hx]
  have hop2 : opn (x :: K) = x := by
    show (if 40 ≤ x then x else opn K) = x
    rw [if_pos hx]
  have hb : btw τ j (P ++ x :: K) = 0 := by
    unfold btw
    rw [if_neg (by simp [hE2]), if_neg (by simp [hE1]), if_pos (by rw [hop]; exact hx2)]
  have hp' : prt τ j (P ++ x :: K) = 99 := by
    unfold prt at hp ⊢
    rw [hop2] at hp
    rw [hop]
    rw [if_neg hx2] at hp ⊢
    exact hp
  show rBeh τ j (P ++ x :: K) (o + nts P) c = _
  unfold rBeh
  rw [hb, if_neg (by simp), if_pos hp', if_pos (by rw [hop]; omega)]
/-- .. and where it goes on to the next part, or shuts it -/
theorem T_go {τ : Tk} {lw : Nat} {j o x q : Nat} {P K : List Nat} {c : Cd} (hP : ∀ p ∈ P, bi4 p) (hE1 : gPrd τ j = 0) (hE2 : gSum τ j = 0) (hx : 40 ≤ x) (hx2 : x ≠ 42) (hp : prt τ j (x :: K) = q) (hq : q ≠ 99) (h0 : q ≠ 0) : rStep τ lw (j, P ++ x :: K, o + nts P, true, c) = .inl (j + 1, q :: K, o, false, c ++ P.map zz) := by
  have hop : opn (P ++ x :: K) = x := by
    rw [opn_app fun p hp => (rnk_bi (hP p hp)).2.2.1]
    show (if 40 ≤ x then x else opn K) = x
    rw [if_pos hx]
  have hop2 : opn (x :: K) = x := by
    show (if 40 ≤ x then x else opn K) = x
    rw [if_pos hx]
  have hb : btw τ j (P ++ x :: K) = 0 := by
    unfold btw
    rw [if_neg (by simp [hE2]), if_neg (by simp [hE1]), if_pos (by rw [hop]; exact hx2)]
  have hp' : prt τ j (P ++ x :: K) = q := by
    unfold prt at hp ⊢
    rw [hop2] at hp
    rw [hop]
    rw [if_neg hx2] at hp ⊢
    exact hp
  have hs : stl 1 (P ++ x :: K) (o + nts P) c = (x :: K, o, c ++ P.map zz) := by
    rw [stl_app P o c (fun p hp => by have := (rnk_bi (hP p hp)).1; omega)]
    show (if 1 ≤ rnk x then _ else _) = _
    rw [if_neg (by simp [rnk, hx])]
  show rBeh τ j (P ++ x :: K) (o + nts P) c = _
  unfold rBeh
  rw [hb, if_neg (by simp), hp', if_neg hq, if_neg h0, hs]
  rfl
theorem T_shut {τ : Tk} {lw : Nat} {j o x : Nat} {P K : List Nat} {c : Cd} (hP : ∀ p ∈ P, bi4 p) (hE1 : gPrd τ j = 0) (hE2 : gSum τ j = 0) (hx : 40 ≤ x) (hx2 : x ≠ 42) (hp : prt τ j (x :: K) = 0) : rStep τ lw (j, P ++ x :: K, o + 1 + nts P, true, c) = rEnd τ (j + 1) K o (if x = 44 then c ++ P.map zz ++ [(3, 0)] else c ++ P.map zz) := by
  have hop : opn (P ++ x :: K) = x := by
    rw [opn_app fun p hp => (rnk_bi (hP p hp)).2.2.1]
    show (if 40 ≤ x then x else opn K) = x
    rw [if_pos hx]
  have hop2 : opn (x :: K) = x := by
    show (if 40 ≤ x then x else opn K) = x
    rw [if_pos hx]
  have hb : btw τ j (P ++ x :: K) = 0 := by
    unfold btw
    rw [if_neg (by simp [hE2]), if_neg (by simp [hE1]), if_pos (by rw [hop]; exact hx2)]
  have hp' : prt τ j (P ++ x :: K) = 0 := by
    unfold prt at hp ⊢
    rw [hop2] at hp
    rw [hop]
    rw [if_neg hx2] at hp ⊢
    exact hp
  have hs : stl 1 (P ++ x :: K) (o + 1 + nts P) c = (x :: K, o + 1, c ++ P.map zz) := by
    rw [stl_app P (o + 1) c (fun p hp => by have := (rnk_bi (hP p hp)).1; omega)]
    show (if 1 ≤ rnk x then _ else _) = _
    rw [if_neg (by simp [rnk, hx])]
  show rBeh τ j (P ++ x :: K) (o + 1 + nts P) c = _
  unfold rBeh
  rw [hb, if_neg (by simp), hp', if_neg (by decide), if_pos rfl, hs, hop]
  rfl
theorem isW_c {τ : Tk} {i w : Nat} (h : isW τ i w = true) : (τ i).1 = 2 ∧ (τ i).2.1 = w := by
  unfold isW at h
  rw [Bool.and_eq_true] at h
  exact ⟨Nat.eq_of_beq_eq_true h.1, Nat.eq_of_beq_eq_true h.2⟩
theorem isW_f {τ : Tk} {i w v : Nat} (h : isW τ i w = true) (hv : w ≠ v) : isW τ i v = false := by
  obtain ⟨h1, h2⟩ := isW_c h
  cases hb : isW τ i v with
  | false => rfl
  | true => exact absurd (h2.symm.trans (isW_c hb).2) hv
theorem askA_f {x : Nat} {K : List Nat} (hx : 40 ≤ x) (h : x ≠ 42) : askA (x :: K) = false := by
  have e : opn (x :: K) = x := by
    show (if 40 ≤ x then x else opn K) = x
    rw [if_pos hx]
  have : Nat.beq x 42 = false := by
    cases hb : Nat.beq x 42 with
    | false => rfl
    | true => exact absurd (Nat.eq_of_beq_eq_true hb) h
  simp [askA, e, this]
theorem T_par {τ : Tk} {lw D : Nat} {s : Lv} (hs : SumT τ lw D s.1) (i : Nat) (K : List Nat) (c : Cd) (o : Nat) (ho : o + 1 + D = 8) :
    Out τ lw (i + 1, 40 :: K, o + 1, false, c) (parF τ s i) (fun j e => i < j ∧ Ld τ lw (i + 1, 40 :: K, o + 1, false, c) (rEnd τ j K o (c ++ e))) := by
  unfold parF
  refine (hs (i + 1) (40 :: K) c (o + 1) ho (tp_cons (by decide) (by decide)) (Or.inl (askA_f (by decide) (by decide)))).bd fun j e _ ⟨hj, ⟨hE1, hE2⟩, P, c', hl, hc, hP⟩ => ?_
  by_cases g : (τ j).1 = 41
  · rw [if_pos g]
    refine ⟨by show i < j + 1; omega, hl.tr (Ld.st ?_)⟩
    rw [T_shut hP hE1 hE2 (by decide) (by decide) (by unfold prt; simp [opn, g]), if_neg (by decide), hc]
  · rw [if_neg g]
    exact ⟨Nat.one_ne_zero, c', hl.tr (Ld.st (T_no hP hE1 hE2 (by decide) (by decide) (by unfold prt; simp [opn, g])))⟩
theorem T_cho {τ : Tk} {lw D : Nat} {s : Lv} (hE : ∀ i, 301 ≤ i → (τ i).1 = 0) (hs : SumT τ lw D s.1) (ha : AskT τ lw D s.2) (i : Nat) (K : List Nat) (c : Cd) (o : Nat) (ho : o + 1 + D = 8) :
    Out τ lw (i + 1, 42 :: K, o + 1, false, c) (choF τ s i) (fun j e => i < j ∧ Ld τ lw (i + 1, 42 :: K, o + 1, false, c) (rEnd τ j K o (c ++ e))) := by
  unfold choF
  refine (T_eit hE ha (i + 1) (42 :: K) c (o + 1) ho (by simp [askA, opn]) (tp_cons (by decide) (by decide))).bd fun j e _ ⟨hj, ⟨⟨⟨hE1, hE2⟩, hE3⟩, hE4⟩, P, c', hl, hc, hP, hcm⟩ => ?_
  have hop : opn (P ++ 42 :: K) = 42 := by
    rw [opn_app fun p hp => (hP p hp).2]
    rfl
  have hb : btw τ j (P ++ 42 :: K) = 0 := by
    unfold btw
    rw [if_neg (by simp [hE2]), if_neg (by simp [hE1]), if_neg (by simp [hop]), if_neg (by simp [hcm]), if_neg (by simp [hE3])]
    exact hE4
  by_cases g : isW τ j 16 = true
  · rw [if_pos g]
    have hst : rStep τ lw (j, P ++ 42 :: K, o + 1 + nts P, true, c') = .inl (j + 1, 43 :: K, o + 1, false, c ++ e) := by
      show rBeh τ j (P ++ 42 :: K) (o + 1 + nts P) c' = _
      have hp : prt τ j (P ++ 42 :: K) = 43 := by unfold prt; rw [hop]; simp [g, hcm]
      unfold rBeh
      rw [hb, if_neg (by simp), hp, if_neg (by decide), if_neg (by decide), stl_app P (o + 1) c' (fun p hp => (hP p hp).1), stl_st (tp_cons (by decide) (by decide)), hc]
      rfl
    refine Out.go (hl.tr (Ld.st hst)) ?_
    have hl1 := hl.tr (Ld.st hst)
    refine (hs (j + 1) (43 :: K) (c ++ e) (o + 1) ho (tp_cons (by decide) (by decide)) (Or.inl (askA_f (by decide) (by decide)))).bd fun j2 e2 _ ⟨hj2, ⟨hF1, hF2⟩, P2, c2, hl2, hc2, hP2⟩ => ?_
    by_cases g2 : isW τ j2 17 = true
    · rw [if_pos g2]
      have hl3 := hl2.tr (Ld.st (T_go (lw := lw) (o := o + 1) (K := K) (c := c2) hP2 hF1 hF2 (x := 43) (by decide) (by decide) (q := 44) (by unfold prt; simp [opn, g2]) (by decide) (by decide)))
      rw [hc2] at hl3
      refine Out.go hl3 ?_
      refine (hs (j2 + 1) (44 :: K) (c ++ e ++ e2) (o + 1) ho (tp_cons (by decide) (by decide)) (Or.inl (askA_f (by decide) (by decide)))).bd fun j3 e3 _ ⟨hj3, ⟨hG1, hG2⟩, P3, c3, hl4, hc3, hP3⟩ => ?_
      by_cases g3 : isW τ j3 18 = true
      · rw [if_pos g3]
        refine ⟨by show i < j3 + 1; omega, ((hl1.tr hl3).tr hl4).tr (Ld.st ?_)⟩
        rw [T_shut hP3 hG1 hG2 (by decide) (by decide) (by unfold prt; simp [opn, g3]), if_pos rfl, hc3]
        simp
      · rw [if_neg g3]
        exact ⟨Nat.one_ne_zero, c3, hl4.tr (Ld.st (T_no hP3 hG1 hG2 (by decide) (by decide) (by unfold prt; simp [opn, g3])))⟩
    · rw [if_neg g2]
      exact ⟨Nat.one_ne_zero, c2, hl2.tr (Ld.st (T_no hP2 hF1 hF2 (by decide) (by decide) (by unfold prt; simp [opn, g2])))⟩
  · rw [if_neg g]
    refine ⟨Nat.one_ne_zero, c', hl.tr (Ld.st ?_)⟩
    show rBeh τ j (P ++ 42 :: K) (o + 1 + nts P) c' = _
    unfold rBeh
    rw [hb, if_neg (by simp), if_pos (by unfold prt; rw [hop]; simp [g]), if_pos (by rw [hop]; decide)]
theorem rEnd_un {τ : Tk} {j p : Nat} {K : List Nat} {o : Nat} {c : Cd} (hp : p = 5 ∨ p = 2 ∨ p = 4) : rEnd τ j (p :: K) (o + 1) c = rEnd τ j K o (c ++ [(p, 0)]) := by
  unfold rEnd
  have : stl 7 (p :: K) (o + 1) c = stl 7 K o (c ++ [(p, 0)]) := by
    rcases hp with rfl | rfl | rfl <;> rfl
  rw [this]
theorem rEnd_41 {τ : Tk} {j : Nat} {K : List Nat} {o : Nat} {c : Cd} : rEnd τ j (41 :: K) o c = if isW τ j 10 = true then .inl (j + 1, 4 :: K, o, false, c) else .inr (1, j, c) := by
  unfold rEnd
  have : stl 7 (41 :: K) o c = (41 :: K, o, c) := rfl
  rw [this]
  rfl
theorem T_neg {τ : Tk} {lw D p : Nat} {s : Lv} (h1 : OneT τ lw D s.1) (hp : p = 5 ∨ p = 2) (i : Nat) (K : List Nat) (c : Cd) (o : Nat) (ho : o + 1 + D = 8) :
    Out τ lw (i + 1, p :: K, o + 1, false, c) (pB (s.1 (i + 1)) fun j c => .inr (j, c ++ [(p, 0)])) (fun j e => i < j ∧ Ld τ lw (i + 1, p :: K, o + 1, false, c) (rEnd τ j K o (c ++ e))) := by
  refine (h1 (i + 1) (p :: K) c (o + 1) ho (Or.inl (by rcases hp with rfl | rfl <;> exact askA_op (by decide) (by decide)))).bd fun j e _ ⟨hj, hl⟩ => ?_
  rw [rEnd_un (by omega)] at hl
  exact ⟨by show i < j; omega, by rw [List.append_assoc] at hl; exact hl⟩
theorem T_stp {τ : Tk} {lw D : Nat} {s : Lv} (h1 : OneT τ lw D s.1) (i : Nat) (K : List Nat) (c : Cd) (o : Nat) (ho : o + 1 + D = 8) :
    Out τ lw (i + 1, 41 :: K, o + 1, false, c) (stpF τ s i) (fun j e => i < j ∧ Ld τ lw (i + 1, 41 :: K, o + 1, false, c) (rEnd τ j K o (c ++ e))) := by
  unfold stpF
  refine (h1 (i + 1) (41 :: K) c (o + 1) ho (Or.inl (askA_f (by decide) (by decide)))).bd fun j e _ ⟨hj, hl⟩ => ?_
  rw [rEnd_41] at hl
  by_cases g : isW τ j 10 = true
  · rw [if_pos g] at hl ⊢
    refine Out.go hl ?_
    refine (h1 (j + 1) (4 :: K) (c ++ e) (o + 1) ho (Or.inl (askA_op (by decide) (by decide)))).bd fun j2 e2 _ ⟨hj2, hl2⟩ => ?_
    rw [rEnd_un (by omega)] at hl2
    refine ⟨by show i < j2; omega, ?_⟩
    have := hl.tr hl2
    simp only [List.append_assoc] at this ⊢
    exact this
  · rw [if_neg g] at hl ⊢
    exact ⟨Nat.one_ne_zero, _, hl⟩
/-- what the levels below give -/
def SubT (τ : Tk) (lw D : Nat) (sub : Option Lv) : Prop := match sub with
  | none => D = 0
  | some s => ∃ D', D = D' + 1 ∧ OneT τ lw D' s.1 ∧ AskT τ lw D' s.2
theorem T_opn {τ : Tk} {lw D p : Nat} {sub : Option Lv} {k : Lv → PR} (hS : SubT τ lw D sub) (i : Nat) (K : List Nat) (c : Cd) (o : Nat) (ho : o + D = 8) {G : Nat → Cd → Prop} {s0 : St} (hst : rStep τ lw s0 = rOpn i p K o c)
    (hk : ∀ (s : Lv) (D' : Nat), o + 1 + D' = 8 → OneT τ lw D' s.1 → AskT τ lw D' s.2 → Ld τ lw s0 (.inl (i + 1, p :: K, o + 1, false, c)) → Out τ lw s0 (k s) G) : Out τ lw s0 (opF sub i k) G := by
  cases sub with
  | none =>
    have : D = 0 := hS
    refine ⟨by show 3 ≠ 0; decide, c, Ld.st ?_⟩
    rw [hst]
    unfold rOpn
    rw [if_pos (by omega)]
  | some s =>
    obtain ⟨D', hD, h1, h2⟩ := hS
    refine hk s D' (by omega) h1 h2 (Ld.st ?_)
    rw [hst]
    unfold rOpn
    rw [if_neg (by omega)]
theorem T_one {τ : Tk} {lw D : Nat} {sub : Option Lv} (hE : ∀ i, 301 ≤ i → (τ i).1 = 0) (hS : SubT τ lw D sub) : OneT τ lw D (oneF τ lw sub) := by
  intro i K c o ho hA
  have hst : rStep τ lw (i, K, o, false, c) = rBeg τ lw i K o c := rfl
  unfold rBeg at hst
  unfold oneF
  by_cases g1 : (τ i).1 = 1
  · rw [if_pos g1] at hst ⊢
    by_cases g2 : 9999 < (τ i).2.1
    · rw [if_pos g2] at hst ⊢
      exact ⟨by show 2 ≠ 0; decide, c, Ld.st hst⟩
    · rw [if_neg g2] at hst ⊢
      exact ⟨Nat.lt_succ_self i, Ld.st hst⟩
  rw [if_neg g1] at hst ⊢
  by_cases gn : (τ i).1 = 2 ∧ gNam (τ i).2.1 < 9
  · have nw : ∀ w, 9 ≤ gNam w → isW τ i w = false := fun w hw => by
      cases hb : isW τ i w with
      | false => rfl
      | true =>
        have := (isW_c hb).2
        rw [this] at gn
        omega
    rw [if_pos gn] at hst
    rw [if_neg (by omega), if_neg (by omega), if_neg (by rw [nw 9 (by decide)]; decide), if_neg (by rw [nw 11 (by decide)]; decide), if_neg (by rw [nw 12 (by decide)]; decide), if_pos gn]
    by_cases gf : gOf lw (gNam (τ i).2.1) = true
    · rw [if_pos gf] at hst ⊢
      exact ⟨Nat.lt_succ_self i, Ld.st hst⟩
    · rw [if_neg gf] at hst ⊢
      exact ⟨by show 5 ≠ 0; decide, c, Ld.st hst⟩
  rw [if_neg gn] at hst
  by_cases g2 : (τ i).1 = 40
  · rw [if_pos g2] at hst ⊢
    exact T_opn hS i K c o ho hst fun s D' ho' h1 h2 hl => Out.go hl ((T_par (T_sum hE h1) i K c o ho').mo fun j e ⟨q1, q2⟩ => ⟨q1, hl.tr q2⟩)
  rw [if_neg g2] at hst ⊢
  by_cases g3 : (τ i).1 = 45
  · rw [if_pos g3] at hst ⊢
    exact T_opn hS i K c o ho hst fun s D' ho' h1 h2 hl => Out.go hl ((T_neg h1 (Or.inl rfl) i K c o ho').mo fun j e ⟨q1, q2⟩ => ⟨q1, hl.tr q2⟩)
  rw [if_neg g3] at hst ⊢
  by_cases g4 : isW τ i 9 = true
  · rw [if_pos g4] at hst ⊢
    exact T_opn hS i K c o ho hst fun s D' ho' h1 h2 hl => Out.go hl ((T_stp h1 i K c o ho').mo fun j e ⟨q1, q2⟩ => ⟨q1, hl.tr q2⟩)
  rw [if_neg g4] at hst ⊢
  by_cases g5 : isW τ i 11 = true
  · rw [if_pos g5] at hst ⊢
    exact T_opn hS i K c o ho hst fun s D' ho' h1 h2 hl => Out.go hl ((T_neg h1 (Or.inr rfl) i K c o ho').mo fun j e ⟨q1, q2⟩ => ⟨q1, hl.tr q2⟩)
  rw [if_neg g5] at hst ⊢
  by_cases g6 : isW τ i 12 = true
  · rw [if_pos g6] at hst ⊢
    exact T_opn hS i K c o ho hst fun s D' ho' h1 h2 hl => Out.go hl ((T_cho hE (T_sum hE h1) h2 i K c o ho').mo fun j e ⟨q1, q2⟩ => ⟨q1, hl.tr q2⟩)
  rw [if_neg g6] at hst ⊢
  rw [if_neg (by rcases hA with q | q <;> simp [q])] at hst
  rw [if_neg gn]
  exact ⟨Nat.one_ne_zero, c, Ld.st hst⟩
theorem T_ask {τ : Tk} {lw D : Nat} {sub : Option Lv} (hE : ∀ i, 301 ≤ i → (τ i).1 = 0) (hS : SubT τ lw D sub) : AskT τ lw D (askF τ sub (oneF τ lw sub)) := by
  intro i K c o ho hK
  unfold askF
  by_cases g : isW τ i 13 = true
  · rw [if_pos g]
    have hst : rStep τ lw (i, K, o, false, c) = rOpn i 20 K o c := by
      show rBeg τ lw i K o c = _
      obtain ⟨e1, e2⟩ := isW_c g
      unfold rBeg
      rw [if_neg (by omega), if_neg (by rw [e2]; intro q; exact absurd q.2 (by decide)), if_neg (by omega), if_neg (by omega), if_neg (by rw [isW_f g (by decide)]; decide), if_neg (by rw [isW_f g (by decide)]; decide), if_neg (by rw [isW_f g (by decide)]; decide), if_pos ⟨g, hK⟩]
    refine T_opn hS i K c o ho hst fun s D' ho' h1 h2 hl => Out.go hl ?_
    refine (h2 (i + 1) (20 :: K) c (o + 1) ho' (askA_co hK (by decide) (by decide) (by decide))).bd fun j e _ ⟨hj, hEj, P, c', hl2, hc, hP, hcm⟩ => ?_
    have e1 : nts [20] = 1 := by decide
    refine ⟨by show i < j; omega, hEj, P ++ [20], c', ?_, ?_, ?_, ?_⟩
    · rw [nts_app, e1, show (P ++ [20]) ++ K = P ++ 20 :: K by simp, show o + (nts P + 1) = o + 1 + nts P by omega]
      exact hl.tr hl2
    · rw [List.map_append, ← List.append_assoc, hc]
      simp [zz]
    · intro p hp
      rcases List.mem_append.mp hp with q | q
      · exact hP p q
      · simp at q
        rw [q]
        decide
    · rw [List.append_assoc]
      exact hcm
  · rw [if_neg g]
    exact T_cmp (T_sum hE (T_one hE hS)) i K c o ho hK (by simpa using g)
theorem T_lv {τ : Tk} {lw : Nat} (hE : ∀ i, 301 ≤ i → (τ i).1 = 0) : ∀ D, OneT τ lw D (lvP τ lw D).1 ∧ AskT τ lw D (lvP τ lw D).2
  | 0 => ⟨T_one hE (sub := none) rfl, T_ask hE (sub := none) rfl⟩
  | D + 1 => ⟨T_one hE (sub := some (lvP τ lw D)) ⟨D, rfl, T_lv hE D⟩, T_ask hE (sub := some (lvP τ lw D)) ⟨D, rfl, T_lv hE D⟩⟩
/-- the reference reads a law as the grammar has it -/
theorem T_law {τ : Tk} {lw : Nat} (hE : ∀ i, 301 ≤ i → (τ i).1 = 0) (i : Nat) (c : Cd) : Out τ lw (i, [], 0, false, c) (sumP τ (lvP τ lw 8).1 i) (fun j e => i < j ∧ Ld τ lw (i, [], 0, false, c) (.inr (0, j, c ++ e))) := by
  refine (T_sum hE (T_lv hE 8).1 i [] c 0 (by omega) (fun p hp => by cases hp) (Or.inl rfl)).mo fun j e ⟨hj, ⟨hE1, hE2⟩, P, c', hl, hc, hP⟩ => ⟨hj, hl.tr (Ld.st ?_)⟩
  have hop : opn (P ++ []) = 0 := opn_app fun p hp => (rnk_bi (hP p hp)).2.2.1
  show rBeh τ j (P ++ []) (0 + nts P) c' = _
  unfold rBeh
  rw [show btw τ j (P ++ []) = 0 by unfold btw; rw [if_neg (by simp [hE2]), if_neg (by simp [hE1]), if_pos (by rw [hop]; decide)], if_neg (by simp), if_pos (by unfold prt; rw [hop]; simp), if_neg (fun q => q hop), stl_app P 0 c' (fun p hp => by have := (rnk_bi (hP p hp)).1; omega), hc]
  rfl
