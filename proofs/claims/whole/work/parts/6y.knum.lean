/-! THE REFERENCE'S READING: numbers of a clause -/
abbrev BR : Type := (Nat × Nat) ⊕ (Nat × Nat × Nat)
def okF (τ : Tk) (i lo hi : Nat) : Prop := (τ i).1 = 1 ∧ lo ≤ (τ i).2.1 ∧ (τ i).2.1 ≤ hi
def fgB (τ : Tk) (i lo hi : Nat) (k : Nat → BR) : BR := if (τ i).1 = 1 then (if lo ≤ (τ i).2.1 ∧ (τ i).2.1 ≤ hi then k (τ i).2.1 else .inl (2, i)) else .inl (1, i)
theorem fgB_t {τ : Tk} {i lo hi : Nat} {k : Nat → BR} (h : okF τ i lo hi) : fgB τ i lo hi k = k (τ i).2.1 := by
  unfold fgB
  rw [if_pos h.1, if_pos h.2]
theorem fgB_f {τ : Tk} {i lo hi : Nat} {k : Nat → BR} (h : ¬ okF τ i lo hi) : fgB τ i lo hi k = .inl (if (τ i).1 = 1 then 2 else 1, i) := by
  unfold fgB
  by_cases g : (τ i).1 = 1
  · rw [if_pos g, if_pos g, if_neg (fun z => h ⟨g, z⟩)]
  · rw [if_neg g, if_neg g]
def prB (τ : Tk) (i top w lo2 hi2 : Nat) : BR := fgB τ i 0 top fun v => if isW τ (i + 1) w = true then fgB τ (i + 2) lo2 hi2 (fun v2 => .inr (i + 3, v, v2)) else .inl (1, i + 1)
def bdP (τ : Tk) (i k : Nat) : BR := if k = 3 then prB τ i 18 20 1 9 else if k = 4 then prB τ i 18 27 0 4 else if k = 5 then prB τ i 4 28 0 4 else fgB τ i (loK k) (hiK k) fun v => .inr (i + 1, v, 0)
theorem fg_bd {τ : Tk} {i lo hi : Nat} {k : Nat → BR} {k2 : Nat → CR} {g : Nat × Nat × Nat → CR} (h : ∀ v, k2 v = match k v with
    | .inl q => .inl q
    | .inr q => g q) : fgP τ i lo hi k2 = match fgB τ i lo hi k with
    | .inl q => .inl q
    | .inr q => g q := by
  by_cases y : okF τ i lo hi
  · rw [fgP_t y, fgB_t y]
    exact h _
  · rw [fgP_f y, fgB_f y]
theorem deP_bd (τ : Tk) (i k : Nat) (T : TXT) : deP τ i k T = match bdP τ i k with
    | .inl q => .inl q
    | .inr q => smP τ q.1 (T.1 ++ [(k - 1, q.2.1, q.2.2)], T.2) := by
  have pr : ∀ top w lo2 hi2, (fgP τ i 0 top fun v => if isW τ (i + 1) w = true then fgP τ (i + 2) lo2 hi2 (fun v2 => smP τ (i + 3) (T.1 ++ [(k - 1, v, v2)], T.2)) else .inl (1, i + 1)) = match prB τ i top w lo2 hi2 with
    | .inl q => .inl q
    | .inr q => smP τ q.1 (T.1 ++ [(k - 1, q.2.1, q.2.2)], T.2) := fun top w lo2 hi2 => by
    unfold prB
    refine fg_bd (g := fun q => smP τ q.1 (T.1 ++ [(k - 1, q.2.1, q.2.2)], T.2)) fun v => ?_
    by_cases y : isW τ (i + 1) w = true
    · rw [if_pos y, if_pos y]
      exact fg_bd (g := fun q => smP τ q.1 (T.1 ++ [(k - 1, q.2.1, q.2.2)], T.2)) fun v2 => rfl
    · rw [if_neg y, if_neg y]
  unfold bdP
  by_cases g3 : k = 3
  · subst g3
    rw [if_pos rfl]
    exact pr 18 20 1 9
  by_cases g4 : k = 4
  · subst g4
    rw [if_neg (by decide), if_pos rfl]
    exact pr 18 27 0 4
  by_cases g5 : k = 5
  · subst g5
    rw [if_neg (by decide), if_neg (by decide), if_pos rfl]
    exact pr 4 28 0 4
  rw [if_neg g3, if_neg g4, if_neg g5]
  unfold deP
  refine fg_bd (g := fun q => smP τ q.1 (T.1 ++ [(k - 1, q.2.1, q.2.2)], T.2)) fun v => ?_
  rw [if_neg (by omega)]
def kD (x : Nat) (h h' : DT) : Prop := smX (fun c => c = 72 ∨ c = 75) h h' ∧ (∀ z, z < 7 ∨ 11 ≤ z → gF h' 72 z = gF h 72 z) ∧ ∀ y, y ≠ x + 1 → y ≠ x + 2 → gA h' 75 y = gA h 75 y
theorem kD.rf (x : Nat) (h : DT) : kD x h h := ⟨smX.rf _ h, fun _ _ => rfl, fun _ _ _ => rfl⟩
def BO (tx tu gu : Option Nat) (tl : List SC) (B : Nat → Nat) (L x : Nat) (pair : Prop) (cl : RR) (h : DT) (i : Nat) (r : BR) : Prop := match r with
  | .inl q => 1 ≤ q.1 ∧ q.1 ≤ 5 ∧ ∃ h', cl = some (some (vI (nI q.1)), (SK tx tu gu tl, h')) ∧ gF h' 72 8 = nI (tkn B L q.2).2.2 ∧ kD x h h'
  | .inr q => ∃ h', cl = some (some (vI (0)), (SK tx tu gu tl, h')) ∧ KT h' B L q.1 ∧ gA h' 75 (x + 1) = nI q.2.1 ∧ (pair → gA h' 75 (x + 2) = nI q.2.2) ∧ i < q.1 ∧ q.1 ≤ L ∧ q.2.1 ≤ 60 ∧ q.2.2 ≤ 9 ∧ kD x h h'
section KN
variable (X : XS) (d : Nat) (tx tu gu : Option Nat) (tl : List SC)
theorem BO.bi {B : Nat → Nat} {L x i : Nat} {pair : Prop} {cl : RR} {h : DT} {r : BR} (H : BO tx tu gu tl B L x pair cl h i r) : BO tx tu gu tl B L x pair (bI cl fun r H => some (some (vI r), H)) h i r := by
  cases r with
  | inl q =>
    obtain ⟨a1, a2, h', e, e2⟩ := H
    rw [e, bI_s]
    exact ⟨a1, a2, h', rfl, e2⟩
  | inr q =>
    obtain ⟨h', e, e2⟩ := H
    rw [e, bI_s]
    exact ⟨h', rfl, e2⟩
theorem k_fig {B : Nat → Nat} {L i x lo hi : Nat} (hx : x < 2724) (hlo : lo < 100) (hhi : hi < 100) (h : DT) (H : KT h B L i) : (okF (tkn B L) i lo hi ∧ i < L ∧ ∃ h', cal X (d + 3) 207 [vP (some 72), vI (nI x), vI (nI lo), vI (nI hi)] (SK tx tu gu tl, h) = some (some (vI (0)), (SK tx tu gu tl, h')) ∧ KT h' B L (i + 1) ∧ gA h' 75 = upd (gA h 75) x (nI (tkn B L i).2.1) ∧ (∀ z, z < 7 ∨ 11 ≤ z → gF h' 72 z = gF h 72 z) ∧ smX (fun c => c = 72 ∨ c = 75) h h') ∨ (¬ okF (tkn B L) i lo hi ∧ cal X (d + 3) 207 [vP (some 72), vI (nI x), vI (nI lo), vI (nI hi)] (SK tx tu gu tl, h) = some (some (vI (nI (if (tkn B L i).1 = 1 then 2 else 1))), (SK tx tu gu tl, h))) := by
  obtain ⟨k', b1, b2, b3⟩ := H.2.2.1
  rw [c_X11_figure, e_X11_figure_0, b1]
  by_cases g : (tkn B L i).1 = 1
  · obtain ⟨v, v1, v2, v3, v4⟩ := H.2.2.2.1 g
    rw [if_pos (show nI k' = 1 from (kK_n (m := 1) b2 b3 (by omega) (by omega) (by omega)).mpr g), v1, k_isIn X (d + 1) tx tu gu tl, bI_s, e_X11_figure_19, if_pos g]
    have ei : (decide (nI lo ≤ nI v) && decide (nI v ≤ nI hi)) = (decide (lo ≤ v) && decide (v ≤ hi)) := by
      rw [decide_eq_decide.mpr (nI_leI (a := lo) (b := v) (by omega) (by omega)), decide_eq_decide.mpr (nI_leI (a := v) (b := hi) (by omega) (by omega))]
    rw [ei]
    by_cases y : lo ≤ v ∧ v ≤ hi
    · have ev := v3 (by omega)
      left
      refine ⟨⟨g, by omega⟩, tkn_i (B := B) (by omega), ?_⟩
      have s1 : smX (fun c => c = 72 ∨ c = 75) h (wA h 75 (upd (gA h 75) x (nI v))) := smX_wA (Or.inr rfl)
      have T1 : KT (wA h 75 (upd (gA h 75) x (nI v))) B L i := H.cg (fun z _ => by rw [gF_wA]) (by rw [gA_wA, if_neg (by omega)]) rfl
      obtain ⟨h2, k1, k2, k3, k4⟩ := k_nxt X d tx tu gu tl _ T1.1
      refine ⟨h2, ?_, k2, ?_, fun z hz => by rw [k3 z hz, gF_wA], s1.tr (k4.mo fun c hc => Or.inl hc)⟩
      · rw [decide_eq_true y.1, decide_eq_true y.2, show (true && true) = true from rfl, bz_t, if_neg one0, inbI hx (by omega), v1, sA_w, k1, bV_s]
      · rw [smA k4 (by omega), gA_wA', ev]
    · right
      have e : (decide (lo ≤ v) && decide (v ≤ hi)) = false := by
        rw [Bool.eq_false_iff, ne_eq, Bool.and_eq_true, decide_eq_true_eq, decide_eq_true_eq]
        exact y
      refine ⟨fun z => y ?_, ?_⟩
      · obtain ⟨_, z1, z2⟩ := z
        by_cases q : v < 10000
        · rw [v3 q] at z1 z2; exact ⟨z1, z2⟩
        · rw [v4 (by omega)] at z2; omega
      · rw [e, bz_f, if_pos rfl]
        rfl
  · right
    refine ⟨fun z => g z.1, ?_⟩
    rw [if_neg (show ¬ nI k' = 1 from fun z => g ((kK_n (m := 1) b2 b3 (by omega) (by omega) (by omega)).mp z)), if_neg g]
    rfl
theorem k_one {B : Nat → Nat} {L i x lo hi : Nat} (hx : x + 2 < 2724) (hlo : lo < 100) (hhi : hi ≤ 60) (h : DT) (H : KT h B L i) : BO tx tu gu tl B L x False (cal X (d + 3) 207 [vP (some 72), vI (nI (x + 1)), vI (nI lo), vI (nI hi)] (SK tx tu gu tl, h)) h i (fgB (tkn B L) i lo hi fun v => .inr (i + 1, v, 0)) := by
  rcases k_fig X d tx tu gu tl (x := x + 1) (lo := lo) (hi := hi) (by omega) hlo (by omega) h H with ⟨y, yi, h1, e1, e2, e3, e4, e5⟩ | ⟨y, e1⟩
  · rw [fgB_t y, e1]
    exact ⟨h1, rfl, e2, by rw [e3, pk_us], fun z => z.elim, by show i < i + 1; omega, by show i + 1 ≤ L; omega, by have := y.2.2; show (tkn B L i).2.1 ≤ 60; omega, by show 0 ≤ 9; omega, e5, e4, fun y h1 h2 => by rw [e3, pk_un (by omega)]⟩
  · rw [fgB_f y, e1]
    refine ⟨?_, ?_, h, rfl, H.2.1, kD.rf x h⟩
    · show 1 ≤ if (tkn B L i).1 = 1 then 2 else 1
      split <;> omega
    · show (if (tkn B L i).1 = 1 then 2 else 1) ≤ 5
      split <;> omega
theorem k_pair {B : Nat → Nat} {L i x top w lo2 hi2 : Nat} (hx : x + 2 < 2724) (hw : w < 29) (ht : top ≤ 60) (hlo : lo2 < 100) (hhi : hi2 ≤ 9) (h : DT) (H : KT h B L i) : BO tx tu gu tl B L x True (cal X (d + 4) 209 [vP (some 72), vI (nI x), vI (nI top), vL (kW w), vI (nI lo2), vI (nI hi2)] (SK tx tu gu tl, h)) h i (prB (tkn B L) i top w lo2 hi2) := by
  unfold prB
  rw [c_X11_pair, e_X11_pair_0, nI_1, show (0 : Int32) = nI 0 from rfl]
  rcases k_fig X d tx tu gu tl (x := x + 1) (lo := 0) (hi := top) (by omega) (by omega) (by omega) h H with ⟨y, yi, h1, e1, e2, e3, e4, e5⟩ | ⟨y, e1⟩
  · have yv := y.2.2
    rw [fgB_t y, e1, bI_s, e_X11_pair_9, if_pos rfl, k_isW X (d + 2) tx tu gu tl hw h1 e2, bI_s, e_X11_pair_24]
    show BO tx tu gu tl B L x True _ h i (if isW (tkn B L) (i + 1) w = true then _ else _)
    by_cases g : isW (tkn B L) (i + 1) w = true
    · obtain ⟨h2, k1, k2, k3, k4⟩ := k_nxt X (d + 1) tx tu gu tl h1 e2.1
      rw [g, bz_t, if_neg one0, if_pos rfl, k1, bV_s, e_X11_pair_33, show (2 : Int32) = nI 2 from rfl, addI]
      rcases k_fig X d tx tu gu tl (x := x + 2) (lo := lo2) (hi := hi2) (by omega) (by omega) (by omega) h2 k2 with ⟨y2, yi2, h3, f1, f2, f3, f4, f5⟩ | ⟨y2, f1⟩
      · have yv2 := y2.2.2
        rw [fgB_t y2, f1, bI_s]
        refine ⟨h3, rfl, f2, ?_, fun _ => by rw [f3, pk_us], by show i < i + 3; omega, by show i + 3 ≤ L; omega, by show (tkn B L i).2.1 ≤ 60; omega, by show (tkn B L (i + 1 + 1)).2.1 ≤ 9; omega, smX.tr (smX.tr e5 (k4.mo fun c hc => Or.inl hc)) f5, fun z hz => by rw [f4 z hz, k3 z hz, e4 z hz], fun z h1 h2 => ?_⟩
        · rw [f3, pk_un (by omega), smA k4 (by omega), e3, pk_us]
        · rw [f3, pk_un (by omega), smA k4 (by omega), e3, pk_un (by omega)]
      · rw [fgB_f y2, f1, bI_s]
        refine ⟨?_, ?_, h2, rfl, k2.2.1, smX.tr e5 (k4.mo fun c hc => Or.inl hc), fun z hz => by rw [k3 z hz, e4 z hz], fun z h1 h2 => ?_⟩
        · show 1 ≤ if (tkn B L (i + 2)).1 = 1 then 2 else 1
          split <;> omega
        · show (if (tkn B L (i + 2)).1 = 1 then 2 else 1) ≤ 5
          split <;> omega
        · rw [smA k4 (by omega), e3, pk_un (by omega)]
    · rw [Bool.eq_false_iff.mpr g, bz_f, if_pos rfl, if_neg (show ¬ (false = true) by decide)]
      exact ⟨by show 1 ≤ 1; omega, by show 1 ≤ 5; omega, h1, rfl, e2.2.1, e5, e4, fun z h1 h2 => by rw [e3, pk_un (by omega)]⟩
  · have n0 : ¬ nI (if (tkn B L i).1 = 1 then 2 else 1) = 0 := by
      split <;> decide
    rw [fgB_f y, e1, bI_s, e_X11_pair_9, if_neg n0]
    refine ⟨?_, ?_, h, rfl, H.2.1, kD.rf x h⟩
    · show 1 ≤ if (tkn B L i).1 = 1 then 2 else 1
      split <;> omega
    · show (if (tkn B L i).1 = 1 then 2 else 1) ≤ 5
      split <;> omega
theorem k_body {B : Nat → Nat} {L i x k : Nat} (hx : x + 2 < 2724) (h3 : 3 ≤ k) (h9 : k ≤ 9) (h : DT) (H : KT h B L i) : BO tx tu gu tl B L x (k ≤ 5) (cal X (d + 6) 210 [vP (some 72), vI (nI (k - 1)), vI (nI x)] (SK tx tu gu tl, h)) h i (bdP (tkn B L) i k) := by
  rw [c_X11_body, e_X11_body_0, nI_1]
  have P : ∀ {cl : RR} {r : BR} {p q : Prop}, BO tx tu gu tl B L x p cl h i r → (q → p) → BO tx tu gu tl B L x q cl h i r := fun {cl r p q} H hq => by
    cases r with
    | inl z => exact H
    | inr z =>
      obtain ⟨h', a1, a2, a3, a4, a5⟩ := H
      exact ⟨h', a1, a2, a3, fun z => a4 (hq z), a5⟩
  obtain rfl | rfl | rfl | rfl | rfl | rfl | rfl : k = 3 ∨ k = 4 ∨ k = 5 ∨ k = 6 ∨ k = 7 ∨ k = 8 ∨ k = 9 := by omega
  · rw [if_pos (by decide), kw20 X d tx tu gu tl, bL_s, e_X11_body_63, show (18 : Int32) = nI 18 from rfl, show (1 : Int32) = nI 1 from rfl, show (9 : Int32) = nI 9 from rfl]
    exact P (BO.bi tx tu gu tl (k_pair X (d + 1) tx tu gu tl hx (by omega) (by omega) (by omega) (by omega) h H)) (fun _ => trivial)
  · rw [if_neg (by decide), if_pos (by decide), kw27 X d tx tu gu tl, bL_s, e_X11_body_81, show (18 : Int32) = nI 18 from rfl, show (0 : Int32) = nI 0 from rfl, show (4 : Int32) = nI 4 from rfl]
    exact P (BO.bi tx tu gu tl (k_pair X (d + 1) tx tu gu tl hx (by omega) (by omega) (by omega) (by omega) h H)) (fun _ => trivial)
  · rw [if_neg (by decide), if_neg (by decide), if_pos (by decide), kw28 X d tx tu gu tl, bL_s, e_X11_body_101, show (4 : Int32) = nI 4 from rfl, show (0 : Int32) = nI 0 from rfl]
    exact P (BO.bi tx tu gu tl (k_pair X (d + 1) tx tu gu tl hx (by omega) (by omega) (by omega) (by omega) h H)) (fun _ => trivial)
  · rw [if_neg (by decide), if_neg (by decide), if_neg (by decide), if_pos (by decide), show (1 : Int32) = nI 1 from rfl, show (5 : Int32) = nI 5 from rfl]
    exact P (BO.bi tx tu gu tl (k_one X (d + 2) tx tu gu tl hx (by omega) (by omega) h H)) (fun z => absurd z (by decide))
  · rw [if_neg (by decide), if_neg (by decide), if_neg (by decide), if_neg (by decide), if_pos (by decide), show (0 : Int32) = nI 0 from rfl, show (4 : Int32) = nI 4 from rfl]
    exact P (BO.bi tx tu gu tl (k_one X (d + 2) tx tu gu tl hx (by omega) (by omega) h H)) (fun z => absurd z (by decide))
  · rw [if_neg (by decide), if_neg (by decide), if_neg (by decide), if_neg (by decide), if_neg (by decide), if_pos (by decide), show (0 : Int32) = nI 0 from rfl, show (4 : Int32) = nI 4 from rfl]
    exact P (BO.bi tx tu gu tl (k_one X (d + 2) tx tu gu tl hx (by omega) (by omega) h H)) (fun z => absurd z (by decide))
  · rw [if_neg (by decide), if_neg (by decide), if_neg (by decide), if_neg (by decide), if_neg (by decide), if_neg (by decide), if_pos (by decide), show (1 : Int32) = nI 1 from rfl, show (60 : Int32) = nI 60 from rfl]
    exact P (BO.bi tx tu gu tl (k_one X (d + 2) tx tu gu tl hx (by omega) (by omega) h H)) (fun z => absurd z (by decide))
end KN
