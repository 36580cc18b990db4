/-! CALLS of own methods: what a call that the small machine makes is in the large one -/
theorem CW.to {B : Nat} {D : va_G} {kc : Nat → ClassId} {E V : Nat → Nat} {X : XS} {s U : State} (h : CW B D kc E V X s) (hvm : s.vm.Alike U.vm) (hR : ∀ (own tx : String) (k a : Nat), vk_R own k tx a s → vk_R own k tx a U) (hN : ∀ w, isNest w = true → va_Nw w s → va_Nw w U) (hh : ∀ q : Nat, q < s.heap.size → ¬ B ≤ q → U.heap[q]? = s.heap[q]?) (hz : B ≤ U.heap.size) : CW B D kc E V X U := by
  obtain ⟨hK, hZ, hT, hsr, hrr, hcs, hio, hX, hXb, hBs, hNw, hAO⟩ := h
  refine ⟨va_K.moved hvm hK, (hZ.moved hvm).kept hh, (hT.moved hvm).kept hh, fun i hi => ?_, fun i q hq => hR _ _ _ _ (hrr i q hq), (hcs.moved hvm).kept hh, (hio.moved hvm).kept hh, (hX.moved hvm).kept (hh _ (Nat.lt_of_lt_of_le hXb hBs) (Nat.not_le.mpr hXb)), hXb, hz, fun w hw hn => hN w hn (hNw w hw hn), hAO.moved hvm⟩
  obtain ⟨h1, h2, h3, h4⟩ := hsr i hi
  exact ⟨(h1.moved hvm).kept hh, (h2.moved hvm).kept hh, (h3.moved hvm).kept hh, (h4.moved hvm).kept hh⟩
theorem CW.warm {B : Nat} {D : va_G} {kc : Nat → ClassId} {E V : Nat → Nat} {X : XS} {s U : State} {Hm : Heap} {locs : List Loc} (h : CW B D kc E V X s) (hW : s.WarmedH U.vm) (hU : U.heap = Hm) (hS : va_S (fun q => B ≤ q) s.heap Hm locs) : CW B D kc E V X U := by
  subst hU
  refine h.to hW.alike (fun _ _ _ _ q => q.warm hW) (fun w hn hw => ?_) hS.2.1 (Nat.le_trans h.2.2.2.2.2.2.2.2.2.1 hS.1)
  cases w <;> first | exact hw.warmM hW | exact hw.warmF hW | exact absurd hn (by simp [isNest])
theorem CW.calling {B : Nat} {D : va_G} {kc : Nat → ClassId} {E V : Nat → Nat} {X : XS} {U : State} (h : CW B D kc E V X U) (g : JFrame) (mk : MethodId) (a : Array Value) : CW B D kc E V X (U.calling g mk a) := by
  refine h.to (Vm.Alike.refl U.vm) (fun _ _ _ _ q => q.same rfl) (fun w hn hw => ?_) (fun _ _ _ => rfl) h.2.2.2.2.2.2.2.2.2.1
  cases w <;> first | exact hw.same rfl rfl | exact absurd hn (by simp [isNest])
def PcM (B : Nat) (D : va_G) (kc : Nat → ClassId) (E V : Nat → Nat) (X : XS) (as : List AV) (H : HP) : Array Value → State → Prop := fun v U => v = (as.map (cv E B)).toArray ∧ va_P D CLS (wsO kc B H) U.heap ∧ CW B D kc E V X U ∧ U.heap.size = B + H.1.length
def QcM (B : Nat) (D : va_G) (kc : Nat → ClassId) (E : Nat → Nat) (r : Option AV) (H' : HP) : Array Value → State → Outcome → State → Prop := fun _ st oc t => oc = .returned (r.map (cv E B)) ∧ va_P D CLS (wsO kc B H') t.heap ∧ va_F (fun q => B ≤ q) st t
def rmD (d mc ms : Nat) : Room := { frames := d + 9, cells := mc, slots := ms, locals := 100 * d + 400 }
def wY (q : MethodName × ByteArray × Nat × Option FieldType × Bool × Nat) : List Cond := Cond.code q.1 q.2.1 q.2.2.1 q.2.2.2.1 :: gtb
def CallOk (l : Launch) (B : Nat) (D : va_G) (kc : Nat → ClassId) (E V : Nat → Nat) (X : XS) (d : Nat) (call : Nat → List AV → HP → RR) : Prop :=
  ∀ (y : Nat) (as : List AV) (H : HP) (r : Option AV) (H' : HP), call y as H = some (r, H') → (H.1.length ≤ H'.1.length ∧ tot H.1 ≤ tot H'.1) ∧ ∀ q, nth YL y = some q → y < 300 → Met l q.1 (wY q) (rmD d (H'.1.length - H.1.length) (tot H'.1 - tot H.1)) (PcM B D kc E V X as H) (QcM B D kc E r H') (H'.1.length - H.1.length) (tot H'.1 - tot H.1) (fun a => B ≤ a)
theorem PcM_blind {B : Nat} {D : va_G} {kc : Nat → ClassId} {E V : Nat → Nat} {X : XS} {as : List AV} {H : HP} : FrameBlind (PcM B D kc E V X as H) := fun a U g mk q => ⟨q.1, q.2.1, q.2.2.1.calling g mk a, q.2.2.2⟩
theorem yOk_at {y : Nat} {q : MethodName × ByteArray × Nat × Option FieldType × Bool × Nat} (h : nth YL y = some q) (hy : y < 300) : Cond.code q.1 q.2.1 q.2.2.1 q.2.2.2.1 ∈ gtb ∧ ∃ p, yOk q p = true := by
  have main : ∀ (A : List (MethodName × ByteArray × Nat × Option FieldType × Bool × Nat)) (P : List (Nat × Nat × Nat × Nat)) (n i : Nat), (A.zip P).all (fun q => yOk q.1 q.2) = true → (P.map fun p => lw_tbl[p.1]?) = (A.take n).map (fun q => some (Cond.code q.1 q.2.1 q.2.2.1 q.2.2.2.1)) → i < n → i < P.length → A[i]? = some q → Cond.code q.1 q.2.1 q.2.2.1 q.2.2.2.1 ∈ gtb ∧ ∃ p, yOk q p = true := by
    intro A P n i h1 h2 hin hiP hq
    have hp : P[i]? = some (P[i]'hiP) := List.getElem?_eq_getElem hiP
    refine ⟨?_, P[i]'hiP, ?_⟩
    · have h3 : (P.map fun p => lw_tbl[p.1]?)[i]? = some (lw_tbl[(P[i]'hiP).1]?) := by rw [List.getElem?_map, hp]; rfl
      rw [h2, List.getElem?_map, List.getElem?_take_of_lt hin, hq] at h3
      exact tblw (Option.some.inj h3).symm rfl
    · have : (q, P[i]'hiP) ∈ A.zip P := by
        apply List.mem_of_getElem? (i := i)
        rw [List.getElem?_zip_eq_some]
        exact ⟨hq, hp⟩
      exact List.all_eq_true.mp h1 _ this
  rw [nth_eq] at h
  unfold YL at h
  have l0 : YL0.length = 50 := rfl
  have l1 : YL1.length = 50 := rfl
  have l2 : YL2.length = 50 := rfl
  have l3 : YL3.length = 50 := rfl
  have l4 : YL4.length = 50 := rfl
  have l5 : YL5.length = 50 := rfl
  have p0 : YP0.length = 50 := rfl
  have p1 : YP1.length = 50 := rfl
  have p2 : YP2.length = 50 := rfl
  have p3 : YP3.length = 50 := rfl
  have p4 : YP4.length = 50 := rfl
  have p5 : YP5.length = 50 := rfl
  by_cases c0 : y < 50
  · rw [List.getElem?_append_left (by omega)] at h
    exact main YL0 YP0 50 y YL0_ok YL0_code c0 (by omega) h
  · rw [List.getElem?_append_right (by omega), l0] at h
    by_cases c1 : y < 100
    · rw [List.getElem?_append_left (by omega)] at h
      exact main YL1 YP1 50 (y - 50) YL1_ok YL1_code (by omega) (by omega) h
    · rw [List.getElem?_append_right (by omega), l1] at h
      by_cases c2 : y < 150
      · rw [List.getElem?_append_left (by omega)] at h
        exact main YL2 YP2 50 (y - 50 - 50) YL2_ok YL2_code (by omega) (by omega) h
      · rw [List.getElem?_append_right (by omega), l2] at h
        by_cases c3 : y < 200
        · rw [List.getElem?_append_left (by omega)] at h
          exact main YL3 YP3 50 (y - 50 - 50 - 50) YL3_ok YL3_code (by omega) (by omega) h
        · rw [List.getElem?_append_right (by omega), l3] at h
          by_cases c4 : y < 250
          · rw [List.getElem?_append_left (by omega)] at h
            exact main YL4 YP4 50 (y - 50 - 50 - 50 - 50) YL4_ok YL4_code (by omega) (by omega) h
          · rw [List.getElem?_append_right (by omega), l4] at h
            rw [List.getElem?_append_left (by omega)] at h
            exact main YL5 YP5 50 (y - 50 - 50 - 50 - 50 - 50) YL5_ok YL5_code (by omega) (by omega) h
theorem wY_good {y : Nat} {q : MethodName × ByteArray × Nat × Option FieldType × Bool × Nat} (h : nth YL y = some q) (hy : y < 300) : GoodIn gtb (wY q) := by
  intro w hw
  have hm : w ∈ gtb := by
    rcases List.mem_cons.mp hw with rfl | hw
    · exact (yOk_at h hy).1
    · exact hw
  exact ⟨hm, good_of_word (List.mem_filter.mp hm).2⟩
theorem popN_inv {n : Nat} {S : ST} {acc : List AV} {k : List AV → ST → RR} {x : Option AV × HP} (h : popN n S acc k = some x) : ∃ as S', as.length = n ∧ S = as.reverse ++ S' ∧ k (as ++ acc) S' = some x := by
  induction n generalizing S acc with
  | zero => exact ⟨[], S, rfl, rfl, h⟩
  | succ n ih =>
    unfold popN at h
    split at h
    · rename_i v S1
      obtain ⟨as, S', h1, h2, h3⟩ := ih h
      refine ⟨as ++ [v], S', by simp [h1], by simp [h2], ?_⟩
      rw [List.append_assoc]
      exact h3
    · cases h
theorem words_eq (E : Nat → Nat) (B : Nat) (S : ST) : ((S.map (cv E B)).map fun v => v.category).sum = words S := by
  induction S with
  | nil => rfl
  | cons v S ih =>
    simp only [List.map_cons, List.sum_cons, words, cat_cv]
    rw [ih]
/-- behind a call -/
theorem callg {T : TT} {B : Nat} {D : va_G} {kc : Nat → ClassId} {E : Nat → Nat} {r : Option AV} {H' : HP} {Hm : Heap} {locs : List Loc} {cells slots mc ms pc : Nat} {ls : Array Slot} {st0 rest : List Value} {a : Array Value} {Q : State → Prop} (hsz : B ≤ T.2.2.2.2.1.heap.size)
    (hr : va_Run T.1 T.2.1 T.2.2.1 T.2.2.2.1 T.2.2.2.2.1 T.2.2.2.2.2.1 T.2.2.2.2.2.2.1 T.2.2.2.2.2.2.2.1 T.2.2.2.2.2.2.2.2.1 T.2.2.2.2.2.2.2.2.2 Hm locs cells slots mc ms (F0 T.2.2.2.2.2.1 pc ls st0) rest (QcM B D kc E r H' a) (fun a => B ≤ a)) (hS : va_S (fun q => B ≤ q) T.2.2.2.2.1.heap Hm locs)
    (kk : ∀ (H1 : Heap) (locs1 : List Loc), va_P D CLS (wsO kc B H') H1 → va_S (fun q => B ≤ q) T.2.2.2.2.1.heap H1 locs1 → WC T H1 locs1 (cells + mc) (slots + ms) Q (pc + 3) ls ((r.map (cv E B)).toList ++ rest)) : WC T Hm locs cells slots Q pc ls st0 := by
  intro t ht X'
  obtain ⟨v, st₀, t', T', Lc, h0, X2, hL, e1, e2, ⟨hv, hp, hz, hk⟩, st⟩ := hr t ht X'
  have hv' : v = r.map (cv E B) := by injection hv
  subst hv'
  rw [h0] at hz hk
  obtain ⟨t2, a1, b1⟩ := kk T'.heap (locs ++ Lc) (by rw [e1]; exact hp)
    ⟨Nat.le_trans hS.1 (by rw [e1]; exact hz), fun q h1 h2 => by rw [e1, hk q (Nat.lt_of_lt_of_le h1 hS.1) h2]; exact hS.2.1 q h1 h2, fun q hq => by
      rcases List.mem_append.mp hq with h | h
      · exact hS.2.2 q h
      · exact hL q h⟩ T' rfl X2
  exact ⟨t2, st t2 a1, b1⟩
