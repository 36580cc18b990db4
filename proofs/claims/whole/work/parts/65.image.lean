/-! IMAGE, BACK -/
def IM (h : DT) (n t k : Nat) : Prop := Inv (gA h 74) n t k ∧ XRow h 16 (gA h 74) ∧ XSteps h 22 (gA h 74) k ∧ XTold h 24 (gA h 74)
section IB
variable (X : XS) (tx tu gu : Option Nat) (tl : List SC)
theorem op_image {n t k : Nat} (h : DT) (H : RA h (gA h 73) n t k) : ∃ v h1 h2, cal X 100 143 [vP (some 0)] (SK tx tu gu tl, h) = some (some v, (SK tx tu gu tl, h1)) ∧ cal X 100 297 [vP (some 72)] (SK tx tu gu tl, h1) = some (some v, (SK tx tu gu tl, h2)) ∧ smX (fun c => 16 ≤ c ∧ c ≤ 30) h h1 ∧ smX (fun c => c = 74) h1 h2 ∧ RA h2 (gA h2 73) n t k ∧ IM h2 n t k := by
  obtain ⟨hI, hR, hS, hT⟩ := id H
  obtain ⟨h1, a1, a2, a3⟩ := x_cprb X 98 tx tu gu tl h hR
  obtain ⟨h2, b1, b2, b3⟩ := x_cpsa X 98 tx tu gu tl h1 (hS.cg fun c _ _ => ⟨smF a2 (by omega), smA a2 (by omega)⟩)
  obtain ⟨h3, c1, c2, c3⟩ := x_cpta X 98 tx tu gu tl h2 (hT.cg fun c _ _ => ⟨(smF b2 (by omega)).trans (smF a2 (by omega)), (smA b2 (by omega)).trans (smA a2 (by omega))⟩)
  obtain ⟨h4, d1, d2, d3⟩ := k_copya X 98 tx tu gu tl h3
  have s3 : smX (fun c => 16 ≤ c ∧ c ≤ 30) h h3 := ((a2.mo (S' := fun c => 16 ≤ c ∧ c ≤ 30) (fun c hc => by omega)).tr (b2.mo (fun c hc => by omega))).tr (c2.mo (fun c hc => by omega))
  have e73 : gA h4 73 = gA h 73 := (smA d2 (by omega)).trans (smA s3 (by omega))
  have e74 : ∀ i, i < 1486 → gA h4 74 i = gA h 73 i := fun i hi => by rw [d3 i hi, smA s3 (by omega)]
  refine ⟨vI (gA h 73 7), h3, h4, ?_, ?_, s3, d2, ?_, ?_⟩
  · rw [c_X10_image, e_X10_image_0, a1, bV_s, e_X10_image_11, b1, bV_s, e_X10_image_22, c1, bV_s, e_X10_image_33, smF s3 (by omega), hR.2.2.2.1]
  · rw [c_X11_image, e_X11_image_0, d1, bV_s, e_X11_image_11, e73]
  · rw [e73]
    exact ⟨hI, XA.cg H.2 fun c _ _ => ⟨(smF d2 (by omega)).trans (smF s3 (by omega)), (smA d2 (by omega)).trans (smA s3 (by omega))⟩⟩
  · have hk := H.k30
    refine ⟨hI.agZ e74, ((a3.cg fun c _ _ => ⟨?_, ?_⟩).ag e74), ((b3.cg fun c _ _ => ⟨?_, ?_⟩).ag hk e74), ((c3.cg fun c _ _ => ⟨smF d2 (by omega), smA d2 (by omega)⟩).ag e74)⟩
    · exact ((smF d2 (by omega)).trans (smF c2 (by omega))).trans (smF b2 (by omega))
    · exact ((smA d2 (by omega)).trans (smA c2 (by omega))).trans (smA b2 (by omega))
    · exact (smF d2 (by omega)).trans (smF c2 (by omega))
    · exact (smA d2 (by omega)).trans (smA c2 (by omega))
theorem op_back {n t k : Nat} (h : DT) (H : IM h n t k) : ∃ v h1 h2, cal X 100 144 [vP (some 0)] (SK tx tu gu tl, h) = some (some v, (SK tx tu gu tl, h1)) ∧ cal X 100 298 [vP (some 72)] (SK tx tu gu tl, h1) = some (some v, (SK tx tu gu tl, h2)) ∧ smX (fun c => 1 ≤ c ∧ c ≤ 15) h h1 ∧ smX (fun c => c = 73) h1 h2 ∧ RA h2 (gA h2 73) n t k ∧ IM h2 n t k := by
  obtain ⟨hI, hR, hS, hT⟩ := id H
  obtain ⟨h1, a1, a2, a3⟩ := x_cprc X 98 tx tu gu tl h hR
  obtain ⟨h2, b1, b2, b3⟩ := x_cpsb X 98 tx tu gu tl h1 (hS.cg fun c _ _ => ⟨smF a2 (by omega), smA a2 (by omega)⟩)
  obtain ⟨h3, c1, c2, c3⟩ := x_cptb X 98 tx tu gu tl h2 (hT.cg fun c _ _ => ⟨(smF b2 (by omega)).trans (smF a2 (by omega)), (smA b2 (by omega)).trans (smA a2 (by omega))⟩)
  obtain ⟨h4, d1, d2, d3⟩ := k_copyb X 98 tx tu gu tl h3
  have s3 : smX (fun c => 1 ≤ c ∧ c ≤ 15) h h3 := ((a2.mo (S' := fun c => 1 ≤ c ∧ c ≤ 15) (fun c hc => by omega)).tr (b2.mo (fun c hc => by omega))).tr (c2.mo (fun c hc => by omega))
  have e74 : gA h4 74 = gA h 74 := (smA d2 (by omega)).trans (smA s3 (by omega))
  have e73 : ∀ i, i < 1486 → gA h4 73 i = gA h 74 i := fun i hi => by rw [d3 i hi, smA s3 (by omega)]
  have x3 : gF h3 1 3 = gA h 74 7 := by
    rw [smF c2 (by omega), smF b2 (by omega)]
    exact a3.2.2.2.1
  have hk : k ≤ 30 := hI.2.2.1.2.1
  refine ⟨vI (gA h 74 7), h3, h4, ?_, ?_, s3, d2, ⟨hI.agZ e73, ((a3.cg fun c _ _ => ⟨?_, ?_⟩).ag e73), ((b3.cg fun c _ _ => ⟨?_, ?_⟩).ag hk e73), ((c3.cg fun c _ _ => ⟨smF d2 (by omega), smA d2 (by omega)⟩).ag e73)⟩, ?_⟩
  · rw [c_X10_back, e_X10_back_0, a1, bV_s, e_X10_back_11, b1, bV_s, e_X10_back_22, c1, bV_s, e_X10_back_33, x3]
  · rw [c_X11_back, e_X11_back_0, d1, bV_s, e_X11_back_11, e73 7 (by omega)]
  · exact ((smF d2 (by omega)).trans (smF c2 (by omega))).trans (smF b2 (by omega))
  · exact ((smA d2 (by omega)).trans (smA c2 (by omega))).trans (smA b2 (by omega))
  · exact (smF d2 (by omega)).trans (smF c2 (by omega))
  · exact (smA d2 (by omega)).trans (smA c2 (by omega))
  · have q : ∀ c, 16 ≤ c → c ≤ 30 → gF h4 c = gF h c ∧ gA h4 c = gA h c := fun c g1 g2 => ⟨(smF d2 (by omega)).trans (smF s3 (by omega)), (smA d2 (by omega)).trans (smA s3 (by omega))⟩
    unfold IM
    rw [e74]
    exact ⟨hI, hR.cg fun c g1 g2 => q c (by omega) (by omega), hS.cg fun c g1 g2 => q c (by omega) (by omega), hT.cg fun c g1 g2 => q c (by omega) (by omega)⟩
end IB
