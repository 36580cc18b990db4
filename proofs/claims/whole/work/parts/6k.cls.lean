/-! THE CLASS'S READING: small takes, what is emitted -/
def zFs (t : Nat) (h h' : DT) : Prop := smX (fun c => c = 38 ∨ c = t ∨ c = t + 4) h h' ∧ (∀ z, z ≠ 1 → gF h' t z = gF h t z) ∧ ∀ z, z < 7 → gF h' 38 z = gF h 38 z
def zFr (t : Nat) (h h' : DT) : Prop := smX (fun c => c = 38 ∨ c = t ∨ c = t + 4) h h' ∧ (∀ z, z ≠ 1 → gF h' t z = gF h t z) ∧ ∀ z, z < 7 → z ≠ 2 → z ≠ 3 → gF h' 38 z = gF h 38 z
theorem zFs.rf (t : Nat) (h : DT) : zFs t h h := ⟨smX.rf _ h, fun _ _ => rfl, fun _ _ => rfl⟩
theorem zFs.tr {t : Nat} {a b c : DT} (p : zFs t a b) (q : zFs t b c) : zFs t a c := ⟨p.1.tr q.1, fun z hz => (q.2.1 z hz).trans (p.2.1 z hz), fun z hz => (q.2.2 z hz).trans (p.2.2 z hz)⟩
theorem zFs.fr {t : Nat} {a b c : DT} (p : zFs t a b) (q : zFr t b c) : zFr t a c := ⟨p.1.tr q.1, fun z hz => (q.2.1 z hz).trans (p.2.1 z hz), fun z hz h2 h3 => (q.2.2 z hz h2 h3).trans (p.2.2 z hz)⟩
/-- the class's code so far -/
def CC (h : DT) (t s : Nat) (C : Nat → Int) : Prop := gF h t 1 = nI s ∧ s ≤ 300 ∧ ∀ x, x < s → gA h (t + 4) x = zI (C x) ∧ 0 ≤ C x ∧ C x ≤ 10063
def isT4 (t : Nat) : Prop := t = 52 ∨ t = 57 ∨ t = 62 ∨ t = 67
theorem CC.cg {h h' : DT} {t s : Nat} {C : Nat → Int} (H : CC h t s C) (ht : isT4 t) (q : smX (fun c => c = 38) h h') : CC h' t s C := by
  unfold isT4 at ht
  obtain ⟨a, b, c⟩ := H
  exact ⟨by rw [smF q (by omega)]; exact a, b, fun x hx => by rw [smA q (by omega)]; exact c x hx⟩
theorem zFs_38 {t : Nat} {h h' : DT} (ht : isT4 t) (q : smX (fun c => c = 38) h h') (e : ∀ z, z < 7 → gF h' 38 z = gF h 38 z) : zFs t h h' := by
  unfold isT4 at ht
  exact ⟨q.mo (fun c hc => Or.inl hc), fun z _ => by rw [smF q (by omega)], e⟩
def upC (C : Nat → Int) (s : Nat) (v : Int) : Nat → Int := fun x => if x = s then v else C x
theorem tkn_i {B : Nat → Nat} {L i : Nat} (h : (tkn B L i).1 ≠ 0) : i < L := by
  by_cases g : i < L
  · exact g
  · exact absurd (tkn_0 (by omega)) h
theorem tkn_k {B : Nat → Nat} {L i : Nat} : (tkn B L i).1 < 256 := knd_lt
theorem isW_i {B : Nat → Nat} {L i e : Nat} (h : isW (tkn B L) i e = true) : i < L := tkn_i (by rw [(isW_c h).1]; decide)
section CL
variable (X : XS) (d t : Nat) (tu gu : Option Nat) (tl : List SC)
theorem x_emit (ht : isT4 t) {s : Nat} {C : Nat → Int} {v : Int} (h : DT) (H : CC h t s C) (hs : s < 300) (h0 : 0 ≤ v) (h1 : v ≤ 10063) : ∃ h', cal X (d + 1) 85 [vP (some t), vI (zI v)] (SK (some t) tu gu tl, h) = some (none, (SK (some t) tu gu tl, h')) ∧ CC h' t (s + 1) (upC C s v) ∧ zFs t h h' ∧ gF h' 38 = gF h 38 ∧ gA h' 39 = gA h 39 := by
  unfold isT4 at ht
  obtain ⟨a, b, c⟩ := H
  have q : smX (fun c => c = t ∨ c = t + 4) h (sF (sA h (t + 4) s (zI v)) t 1 (nI (s + 1))) := smX.tr (smX_sA (Or.inr rfl)) (smX_sF (Or.inl rfl))
  refine ⟨sF (sA h (t + 4) s (zI v)) t 1 (nI (s + 1)), ?_, ⟨?_, by omega, fun x hx => ?_⟩, ⟨q.mo (fun c hc => Or.inr hc), fun z hz => ?_, fun z _ => by rw [smF q (by omega)]⟩, smF q (by omega), smA q (by omega)⟩
  · rw [c_X7_emit, e_X7_emit_0 (ht := ht), a, show (300 : Int32) = nI 300 from rfl, if_neg (nI_ge (by omega) (by omega)), inbI (by omega) (by omega), nI_1]
  · rw [gF_sF, if_pos ⟨rfl, rfl⟩]
  · rw [gA_sF, gA_sA]
    unfold upC
    by_cases g : x = s
    · rw [if_pos ⟨rfl, g⟩, if_pos g]
      exact ⟨rfl, h0, h1⟩
    · rw [if_neg (fun y => g y.2), if_neg g]
      exact c x (by omega)
  · rw [gF_sF, if_neg (fun y => hz y.2)]
    rfl
theorem x_fail (ht : isT4 t) (h : DT) (w : Nat) {q : Nat} (h8 : gF h 38 8 = nI q) : ∃ h', cal X (d + 1) 27 [vP (some 38), vI (nI w)] (SK (some t) tu gu tl, h) = some (some (vI 0), (SK (some t) tu gu tl, h')) ∧ gF h' 38 2 = nI w ∧ gF h' 38 3 = nI q ∧ zFr t h h' := by
  unfold isT4 at ht
  refine ⟨sF (sF h 38 2 (nI w)) 38 3 (nI q), ?_, ?_, ?_, smX.tr (smX_sF (Or.inl rfl)) (smX_sF (Or.inl rfl)), fun z _ => ?_, fun z _ h2 h3 => ?_⟩
  · rw [c_X4_fail, e_X4_fail_0 (ht := ht), h8]
  · rw [gF_sF, if_neg (by omega), gF_sF, if_pos ⟨rfl, rfl⟩]
  · rw [gF_sF, if_pos ⟨rfl, rfl⟩]
  · rw [gF_sF, if_neg (by omega), gF_sF, if_neg (by omega)]
  · rw [gF_sF, if_neg (fun y => h3 y.2), gF_sF, if_neg (fun y => h2 y.2)]
/-- what a take comes to: the next token, or a fault at this one -/
def TkO (B : Nat → Nat) (L : Nat) (cl : RR) (h : DT) (i w : Nat) (ok : Prop) : Prop := (ok ∧ i < L ∧ ∃ h', cl = some (some (vI 1), (SK (some t) tu gu tl, h')) ∧ CT h' B L (i + 1) ∧ smX (fun c => c = 38) h h' ∧ ∀ z, z < 7 → gF h' 38 z = gF h 38 z) ∨ (¬ ok ∧ ∃ h', cl = some (some (vI 0), (SK (some t) tu gu tl, h')) ∧ gF h' 38 2 = nI w ∧ gF h' 38 3 = nI (tkn B L i).2.2 ∧ zFr t h h')
theorem x_tw (ht : isT4 t) {B : Nat → Nat} {L i e : Nat} (he : e < 29) (h : DT) (H : CT h B L i) : TkO t tu gu tl B L (cal X (d + 4) 47 [vP (some 38), vE e] (SK (some t) tu gu tl, h)) h i 1 (isW (tkn B L) i e = true) := by
  rw [c_X4_takeWord, e_X4_takeWord_0 (ht := ht), x_isW X (d + 2) t tu gu tl ht he h H, bI_s, e_X4_takeWord_5 (ht := ht)]
  by_cases g : isW (tkn B L) i e = true
  · obtain ⟨h', k1, k2, k3, k4⟩ := x_nxt X d t tu gu tl ht h H.1
    refine Or.inl ⟨g, isW_i g, h', ?_, k2, k4, k3⟩
    rw [g, bz_t, if_neg one0, k1, bV_s]
  · obtain ⟨h', k1, k2, k3, k4⟩ := x_fail X (d + 2) t tu gu tl ht h 1 H.2.1
    refine Or.inr ⟨g, h', ?_, k2, k3, k4⟩
    rw [Bool.eq_false_iff.mpr g, bz_f, if_pos rfl, show (1 : Int32) = nI 1 from rfl, k1, bI_s, if_pos (Or.inl rfl)]
theorem x_ts (ht : isT4 t) {B : Nat → Nat} {L i m : Nat} (h0 : m ≠ 0) (hm : m < 256) (h4 : m ≠ 4) (h5 : m ≠ 5) (h : DT) (H : CT h B L i) : TkO t tu gu tl B L (cal X (d + 4) 48 [vP (some 38), vI (nI m)] (SK (some t) tu gu tl, h)) h i 1 ((tkn B L i).1 = m) := by
  rw [c_X4_takeSign, e_X4_takeSign_0 (ht := ht), H.2.2.1]
  by_cases g : (tkn B L i).1 = m
  · obtain ⟨h', k1, k2, k3, k4⟩ := x_nxt X d t tu gu tl ht h H.1
    refine Or.inl ⟨g, tkn_i (by rw [g]; exact h0), h', ?_, k2, k4, k3⟩
    rw [if_pos ((cK_n tkn_k hm h4 h5).mpr g), k1, bV_s]
  · obtain ⟨h', k1, k2, k3, k4⟩ := x_fail X (d + 2) t tu gu tl ht h 1 H.2.1
    refine Or.inr ⟨g, h', ?_, k2, k3, k4⟩
    rw [if_neg (fun z => g ((cK_n tkn_k hm h4 h5).mp z)), show (1 : Int32) = nI 1 from rfl, k1, bI_s, if_pos (Or.inl rfl)]
theorem x_to (ht : isT4 t) {B : Nat → Nat} {L i o : Nat} (ho : o < 100) (h0 : (tkn B L i).1 ≠ 0) (h : DT) (H : CT h B L i) : TkO t tu gu tl B L (cal X (d + 4) 45 [vP (some 38), vI (nI o)] (SK (some t) tu gu tl, h)) h i 3 (o < 8) := by
  rw [c_X4_takeOpening, e_X4_takeOpening_0 (ht := ht), show (8 : Int32) = nI 8 from rfl]
  by_cases g : o < 8
  · obtain ⟨h', k1, k2, k3, k4⟩ := x_nxt X d t tu gu tl ht h H.1
    refine Or.inl ⟨g, tkn_i h0, h', ?_, k2, k4, k3⟩
    rw [if_pos ((nI_ltI (by omega) (by omega)).mpr g), k1, bV_s]
  · obtain ⟨h', k1, k2, k3, k4⟩ := x_fail X (d + 2) t tu gu tl ht h 3 H.2.1
    refine Or.inr ⟨g, h', ?_, k2, k3, k4⟩
    rw [if_neg (fun z => g ((nI_ltI (by omega) (by omega)).mp z)), show (3 : Int32) = nI 3 from rfl, k1, bI_s, if_pos (Or.inl rfl)]
theorem nI_inR {v lo hi : Nat} (hv : v < 100000) (hh : hi < 100000) (hl : lo < 100000) : (decide (nI lo ≤ nI v) && decide (nI v ≤ nI hi)) = (decide (lo ≤ v) && decide (v ≤ hi)) := by
  rw [decide_eq_decide.mpr (nI_leI (a := lo) (b := v) (by omega) (by omega)), decide_eq_decide.mpr (nI_leI (a := v) (b := hi) (by omega) (by omega))]
theorem nmC_le {B : Nat → Nat} {L : Nat} : ∀ (c p v : Nat), v ≤ 10000 → nmC B L c p v ≤ 10000
  | 0, _, v, h => h
  | c + 1, p, v, h => by
    unfold nmC
    cases hb : decide (p < L) && digB (B p) with
    | false => exact h
    | true =>
      rw [cond_true]
      refine nmC_le c (p + 1) _ ?_
      split <;> omega
theorem tkn_v {B : Nat → Nat} {L i : Nat} (h : (tkn B L i).1 = 1) : (tkn B L i).2.1 ≤ 10000 := by
  show vlT B L (tQ B L i) ≤ 10000
  unfold vlT
  rw [(knd_1 h).2.1, cond_false]
  exact nmC_le _ _ _ (by omega)
/-- what taking a number comes to -/
theorem x_tn (ht : isT4 t) {B : Nat → Nat} {L i lo hi : Nat} (hl : lo < 10000) (hh : hi < 10000) (h : DT) (H : CT h B L i) : TkO t tu gu tl B L (cal X (d + 4) 46 [vP (some 38), vI (nI lo), vI (nI hi)] (SK (some t) tu gu tl, h)) h i (if (tkn B L i).1 = 1 then 2 else 1) ((tkn B L i).1 = 1 ∧ lo ≤ (tkn B L i).2.1 ∧ (tkn B L i).2.1 ≤ hi) := by
  rw [c_X4_takeNumber, e_X4_takeNumber_0 (ht := ht), H.2.2.1, show (1 : Int32) = nI 1 from rfl]
  by_cases g : (tkn B L i).1 = 1
  · have hv := tkn_v g
    rw [if_pos ((cK_n tkn_k (by omega) (by omega) (by omega)).mpr g), x_within X (d + 2) (some t) tu gu tl, bI_s, e_X4_takeNumber_23 (ht := ht), H.2.2.2 g, nI_inR (by omega) (by omega) (by omega), if_pos g]
    by_cases y : lo ≤ (tkn B L i).2.1 ∧ (tkn B L i).2.1 ≤ hi
    · obtain ⟨h', k1, k2, k3, k4⟩ := x_nxt X d t tu gu tl ht h H.1
      refine Or.inl ⟨⟨g, y⟩, tkn_i (by rw [g]; decide), h', ?_, k2, k4, k3⟩
      rw [decide_eq_true y.1, decide_eq_true y.2, show (true && true) = true from rfl, bz_t, if_neg one0, k1, bV_s]
    · obtain ⟨h', k1, k2, k3, k4⟩ := x_fail X (d + 2) t tu gu tl ht h 2 H.2.1
      refine Or.inr ⟨fun z => y z.2, h', ?_, k2, k3, k4⟩
      have e : (decide (lo ≤ (tkn B L i).2.1) && decide ((tkn B L i).2.1 ≤ hi)) = false := by
        rw [Bool.eq_false_iff, ne_eq, Bool.and_eq_true, decide_eq_true_eq, decide_eq_true_eq]
        exact y
      rw [e, bz_f, if_pos rfl, show (2 : Int32) = nI 2 from rfl, k1, bI_s, if_pos (Or.inl rfl)]
  · obtain ⟨h', k1, k2, k3, k4⟩ := x_fail X (d + 2) t tu gu tl ht h 1 H.2.1
    refine Or.inr ⟨fun z => g z.1, h', ?_, by rw [if_neg g]; exact k2, k3, k4⟩
    rw [if_neg (fun z => g ((cK_n tkn_k (by omega) (by omega) (by omega)).mp z)), k1, bI_s, if_pos (Or.inl rfl)]
theorem x_put (ht : isT4 t) {s : Nat} {C : Nat → Int} {v : Int} (h : DT) (H : CC h t s C) (hs : s < 300) (h0 : 0 ≤ v) (h1 : v ≤ 10063) : ∃ h', cal X (d + 2) 44 [vP (some 38), vI (zI v)] (SK (some t) tu gu tl, h) = some (some (vI 1), (SK (some t) tu gu tl, h')) ∧ CC h' t (s + 1) (upC C s v) ∧ zFs t h h' ∧ gF h' 38 = gF h 38 ∧ gA h' 39 = gA h 39 := by
  obtain ⟨h', k1, k2⟩ := x_emit X d t tu gu tl ht h H hs h0 h1
  refine ⟨h', ?_, k2⟩
  rw [c_X4_put, e_X4_put_0 (ht := ht), k1, bV_s]
end CL
