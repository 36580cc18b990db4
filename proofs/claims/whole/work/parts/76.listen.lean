/-! WHOM TO ASK: how many are left at the most -/
def upN (N : Nat → Nat) (i v : Nat) : Nat → Nat := fun x => if x = i then v else N x
def mlS (fx : Nat → Nat) : List Nat → (Nat → Nat) × Nat → (Nat → Nat) × Nat
  | [], s => s
  | p :: l, s => mlS fx l (upN s.1 (fx p) (s.1 (fx p) + 1), if s.2 < s.1 (fx p) + 1 then s.1 (fx p) + 1 else s.2)
theorem mlS_app (fx : Nat → Nat) : ∀ (a b : List Nat) (s : (Nat → Nat) × Nat), mlS fx (a ++ b) s = mlS fx b (mlS fx a s)
  | [], b, s => rfl
  | p :: a, b, s => mlS_app fx a b _
def cnA (h : DT) (c : Nat) (N : Nat → Nat) (m : Nat) : Prop := ∀ i, i < 1999 → gA h c i = nI (N i) ∧ N i ≤ m
def fxN (o : Option Cd) (A : Nat → Int32) (n ear p : Nat) : Nat := (hrV o A n ear (p / 100) ((p % 100 : Nat) : Int) + 999).toNat
theorem fxN_b {o : Option Cd} {A : Nat → Int32} {n t k ear p : Nat} (H : Inv A n t k) (he : ear < 5) (hp : p < 500) : fxN o A n ear p < 1999 ∧ zI (hrV o A n ear (p / 100) ((p % 100 : Nat) : Int)) + 999 = nI (fxN o A n ear p) := by
  obtain ⟨b1, b2⟩ := hrV_b (o := o) H (p := ear) (q := p / 100) (w := p % 100) he (by omega) (by omega)
  unfold fxN
  refine ⟨by omega, ?_⟩
  rw [show (999 : Int32) = zI 999 from rfl, zI_add, zI_nI]
  congr 1
  omega
theorem cnA_up {h h' : DT} {c m i : Nat} {N : Nat → Nat} (H : cnA h c N m) (hi : i < 1999) (e : gA h' c = upd (gA h c) i (nI (N i + 1))) : cnA h' c (upN N i (N i + 1)) (m + 1) := fun x hx => by
  unfold upN
  rw [e]
  have := (H i hi).2
  by_cases g : x = i
  · rw [if_pos g, g, pk_us]
    exact ⟨rfl, by omega⟩
  · rw [if_neg g, pk_un g]
    have := H x hx
    exact ⟨this.1, by omega⟩
section LI
variable (X : XS) (d : Nat) (tx tu gu : Option Nat) (tl : List SC)
theorem x_ml {A : Nat → Int32} {n t k g ear : Nat} {TT : Nat → TXT} (hg : GuA g tl) (htp : TpA (rulP (A 2))) (hn : n ≤ 5) (hear : ear < n) {l : List Nat} (hl : l.length ≤ 500) : ∀ (r : List Nat) (i m : Nat) (N : Nat → Nat) (h : DT), i + r.length = l.length → (∀ j, j < r.length → l.getD (i + j) 0 = r.getD j 0) → (∀ p ∈ r, p < 100 * n) → CX A n t k TT h → prA h g l → cnA h (g + 2) N i → m ≤ i → ∃ h', (∀ f, 2 * r.length + 1 ≤ f → m_X0_mostLeft X (d + 6) f 31 [(0, vP (some g)), (1, vP (some 1)), (2, vI (nI ear)), (3, vP (rulP (A 2))), (4, vI (nI m)), (5, vI (nI i))] [] (SK tx tu gu tl, h) = some (some (vI (nI (mlS (fxN (rulH (A 2) TT) A n ear) r (N, m)).2)), (SK tx tu gu tl, h'))) ∧ CX A n t k TT h' ∧ prA h' g l ∧ smX (isGg g) h h'
  | [], i, m, N, h, hi, hr, hp, H, hP, hN, hm => by
    rw [List.length_nil] at hi
    refine ⟨h, fun f hf => ?_, H, hP, smX.rf _ h⟩
    obtain ⟨f, rfl⟩ : ∃ g, f = g + 1 := ⟨f - 1, by omega⟩
    rw [e_X0_mostLeft_31 (hg := hg) (htp := htp), hP.1, if_pos (nI_le (by omega) (by omega))]
    rfl
  | p :: r, i, m, N, h, hi, hr, hp, H, hP, hN, hm => by
    rw [List.length_cons] at hi
    have g95 : 95 ≤ g := by rcases hg with ⟨z, _⟩ | ⟨z, _⟩ <;> omega
    have pn := hp p List.mem_cons_self
    have e0 : gA h (g + 1) i = nI p := by
      rw [hP.2 i (by omega)]
      have := hr 0 (by simp)
      rw [Nat.add_zero] at this
      rw [this]
      rfl
    obtain ⟨h1, e1, e2, e3⟩ := x_hof X (d + 1) tx tu gu tl h H hn hear pn
    have H1 := H.cg (e2.mo fun c => isW3_G) e3
    have P1 : prA h1 g l := prA_g hP (by rw [smF e2 (by unfold isW3; omega)]) (smA e2 (by unfold isW3; omega))
    have N1 : cnA h1 (g + 2) N i := fun x hx => by rw [smA e2 (by unfold isW3; omega)]; exact hN x hx
    obtain ⟨fb, fz⟩ := fxN_b (o := rulH (A 2) TT) H.1 (ear := ear) (p := p) (by omega) (by omega)
    revert fb fz
    generalize hfx : fxN (rulH (A 2) TT) A n ear p = x
    intro fb fz
    obtain ⟨v1, v2⟩ := N1 x fb
    generalize hh : wA h1 (g + 2) (upd (gA h1 (g + 2)) x (nI (N x + 1))) = h2
    have a2 : gA h2 (g + 2) = upd (gA h1 (g + 2)) x (nI (N x + 1)) := by rw [← hh, gA_wA']
    have s2 : smX (isGg g) h1 h2 := by rw [← hh]; exact smX_wA (by unfold isGg; omega)
    have n2 : NmA h2 41 := fun k hk => by
      rw [← hh, gA_wA, if_neg (by omega)]
      exact e3 k hk
    obtain ⟨h3, k1, k2, k3, k4⟩ := x_ml hg htp hn hear hl r (i + 1) (if m < N x + 1 then N x + 1 else m) (upN N x (N x + 1)) h2 (by omega) (fun j hj => by
      have := hr (j + 1) (by rw [List.length_cons]; omega)
      rw [show i + 1 + j = i + (j + 1) by omega, this]
      rfl) (fun q hq => hp q (List.mem_cons_of_mem _ hq)) (H1.cg (s2.mo fun c => isGg_G g95) n2) (prA_g P1 (by rw [← hh, gF_wA]) (by rw [← hh, gA_wA, if_neg (by omega)])) (cnA_up N1 fb a2) (by split <;> omega)
    refine ⟨h3, fun f hf => ?_, k2, k3, smX.tr (smX.tr (e2.mo fun c => isW3_g) s2) k4⟩
    rw [List.length_cons] at hf
    obtain ⟨f, rfl⟩ : ∃ g, f = g + 2 := ⟨f - 2, by omega⟩
    rw [e_X0_mostLeft_31 (hg := hg) (htp := htp), hP.1, if_neg (nI_ge (by omega) (by omega)), inbI (by omega) (by omega), e0, e1, bI_s, e_X0_mostLeft_69 (hg := hg) (htp := htp), fz, inbI fb (by omega), inbI fb (by omega), inbI fb (by omega), v1, nI_1, sA_w, hh, a2, pk_us]
    have ei : (if nI m < nI (N x + 1) then nI (N x + 1) else nI m) = nI (if m < N x + 1 then N x + 1 else m) := by
      by_cases y : m < N x + 1
      · rw [if_pos ((nI_ltI (by omega) (by omega)).mpr y), if_pos y]
      · rw [if_neg (fun z => y ((nI_ltI (by omega) (by omega)).mp z)), if_neg y]
    rw [ei, nI_1, k1 f (by omega)]
    refine rI ?_
    show _ = nI (mlS (fxN (rulH (A 2) TT) A n ear) r (upN N (fxN (rulH (A 2) TT) A n ear p) (N (fxN (rulH (A 2) TT) A n ear p) + 1), if m < N (fxN (rulH (A 2) TT) A n ear p) + 1 then N (fxN (rulH (A 2) TT) A n ear p) + 1 else m)).2
    rw [hfx]
theorem x_mz {A : Nat → Int32} {n t k g ear : Nat} {TT : Nat → TXT} (hg : GuA g tl) (htp : TpA (rulP (A 2))) {l : List Nat} : ∀ (c i : Nat) (h : DT), i + c = 1999 → CX A n t k TT h → prA h g l → (∀ x, x < i → gA h (g + 2) x = nI 0) → ∃ h', (∀ F f, F + (c + 1) ≤ f → ∃ f', F ≤ f' ∧ m_X0_mostLeft X (d + 6) f 3 [(0, vP (some g)), (1, vP (some 1)), (2, vI (nI ear)), (3, vP (rulP (A 2))), (4, vI (nI i))] [] (SK tx tu gu tl, h) = m_X0_mostLeft X (d + 6) f' 31 [(0, vP (some g)), (1, vP (some 1)), (2, vI (nI ear)), (3, vP (rulP (A 2))), (4, vI (nI 0)), (5, vI (nI 0))] [] (SK tx tu gu tl, h')) ∧ CX A n t k TT h' ∧ prA h' g l ∧ cnA h' (g + 2) (fun _ => 0) 0 ∧ smX (isGg g) h h'
  | 0, i, h, hi, H, hP, hz => by
    refine ⟨h, fun F f hf => ?_, H, hP, fun x hx => ⟨hz x (by omega), Nat.le_refl _⟩, smX.rf _ h⟩
    obtain ⟨f, rfl⟩ : ∃ g, f = g + 1 := ⟨f - 1, by omega⟩
    refine ⟨f, by omega, ?_⟩
    rw [e_X0_mostLeft_3 (hg := hg) (htp := htp), show (1998 : Int32) = nI 1998 from rfl, if_pos ((nI_ltI (by omega) (by omega)).mpr (by omega))]
    rfl
  | c + 1, i, h, hi, H, hP, hz => by
    have g95 : 95 ≤ g := by rcases hg with ⟨z, _⟩ | ⟨z, _⟩ <;> omega
    generalize hh : wA h (g + 2) (upd (gA h (g + 2)) i 0) = h1
    have a1 : gA h1 (g + 2) = upd (gA h (g + 2)) i 0 := by rw [← hh, gA_wA']
    have s1 : smX (isGg g) h h1 := by rw [← hh]; exact smX_wA (by unfold isGg; omega)
    have n1 : NmA h1 41 := fun k hk => by
      rw [← hh, gA_wA, if_neg (by omega)]
      exact H.2.2.2.2 k hk
    obtain ⟨h2, k1, k2, k3, k4, k5⟩ := x_mz (ear := ear) hg htp c (i + 1) h1 (by omega) (H.cg (s1.mo fun c => isGg_G g95) n1) (prA_g hP (by rw [← hh, gF_wA]) (by rw [← hh, gA_wA, if_neg (by omega)])) (fun x hx => by
      rw [a1]
      by_cases y : x = i
      · rw [y, pk_us]; rfl
      · rw [pk_un y]; exact hz x (by omega))
    refine ⟨h2, fun F f hf => ?_, k2, k3, k4, s1.tr k5⟩
    obtain ⟨f, rfl⟩ : ∃ g, f = g + 1 := ⟨f - 1, by omega⟩
    obtain ⟨f', f1, f2⟩ := k1 F f (by omega)
    refine ⟨f', f1, ?_⟩
    rw [e_X0_mostLeft_3 (hg := hg) (htp := htp), show (1998 : Int32) = nI 1998 from rfl, if_neg (fun z => by have := (nI_ltI (a := 1998) (b := i) (by omega) (by omega)).mp z; omega), inbI (by omega) (by omega), nI_1, sA_w, hh]
    exact f2
theorem x_mostLeft {A : Nat → Int32} {n t k g ear : Nat} {TT : Nat → TXT} (hg : GuA g tl) (htp : TpA (rulP (A 2))) (hear : ear < n) {l : List Nat} (hl : l.length ≤ 500) (hln : ∀ p ∈ l, p < 100 * n) (h : DT) (H : CX A n t k TT h) (hP : prA h g l) : ∃ h', cal X (d + 7) 4 [vP (some g), vP (some 1), vI (nI ear), vP (rulP (A 2))] (SK tx tu gu tl, h) = some (some (vI (nI (mlS (fxN (rulH (A 2) TT) A n ear) l (fun _ => 0, 0)).2)), (SK tx tu gu tl, h')) ∧ CX A n t k TT h' ∧ prA h' g l ∧ smX (isGg g) h h' := by
  have hn := H.1.1.2.1
  obtain ⟨h1, k1, k2, k3, k4, k5⟩ := x_mz X d tx tu gu tl (ear := ear) hg htp 1999 0 h rfl H hP (fun x hx => absurd hx (by omega))
  obtain ⟨h2, j1, j2, j3, j4⟩ := x_ml X d tx tu gu tl hg htp hn hear hl l 0 0 (fun _ => 0) h1 (by omega) (fun j hj => by rw [Nat.zero_add]) hln k2 k3 k4 (by omega)
  refine ⟨h2, ?_, j2, j3, k5.tr j4⟩
  obtain ⟨f', f1, f2⟩ := k1 900000 999999 (by omega)
  rw [c_X0_mostLeft, e_X0_mostLeft_0 (hg := hg) (htp := htp), show (0 : Int32) = nI 0 from rfl, f2, j1 f' (by omega)]
end LI
