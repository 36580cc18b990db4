/-! the law's own code, in pieces -/
def gdn (own : Nat) (isI : Bool) (cc : ByteArray) (nx : Nat) : List EN → Bool
  | [] => true
  | (pc, _, i, len, ax, cI, cL) :: is => decide (decode cc pc = .ok (i, len)) && chk own isI pc i len ax cI cL && (match is with
    | [] => Nat.beq nx (pc + len)
    | e :: _ => Nat.beq e.1 (pc + len)) && gdn own isI cc nx is
theorem gdn_app {own : Nat} {isI : Bool} {cc : ByteArray} {e : EN} {b : List EN} (hb : gd own isI cc (e :: b) = true) : ∀ {a : List EN}, gdn own isI cc e.1 a = true → gd own isI cc (a ++ e :: b) = true
  | [], _ => hb
  | [(pc, _, i, len, ax, cI, cL)], h => by
    simp only [gdn, Bool.and_eq_true] at h
    simp only [List.cons_append, List.nil_append]
    unfold gd
    simp only [Bool.and_eq_true]
    exact ⟨⟨h.1.1, h.1.2⟩, hb⟩
  | (pc, c0, i, len, ax, cI, cL) :: q :: r, h => by
    unfold gdn at h
    simp only [Bool.and_eq_true] at h
    have := gdn_app hb (a := q :: r) h.2
    rw [List.cons_append, List.cons_append]
    unfold gd
    simp only [Bool.and_eq_true]
    refine ⟨⟨h.1.1, h.1.2⟩, ?_⟩
    rw [List.cons_append] at this
    exact this
set_option maxRecDepth 40000 in
theorem gl_0 : gdn 12 false code 326 k_L_law_0 = true := by decide +kernel
set_option maxRecDepth 40000 in
theorem gl_1 : gdn 12 false code 456 k_L_law_1 = true := by decide +kernel
set_option maxRecDepth 40000 in
theorem gl_2 : gdn 12 false code 590 k_L_law_2 = true := by decide +kernel
set_option maxRecDepth 40000 in
theorem gl_3 : gdn 12 false code 718 k_L_law_3 = true := by decide +kernel
set_option maxRecDepth 40000 in
theorem gl_4 : gdn 12 false code 842 k_L_law_4 = true := by decide +kernel
set_option maxRecDepth 40000 in
theorem gl_5 : gdn 12 false code 974 k_L_law_5 = true := by decide +kernel
set_option maxRecDepth 40000 in
theorem gl_6 : gdn 12 false code 1106 k_L_law_6 = true := by decide +kernel
set_option maxRecDepth 40000 in
theorem gl_7 : gdn 12 false code 1230 k_L_law_7 = true := by decide +kernel
set_option maxRecDepth 40000 in
theorem gl_8 : gdn 12 false code 1368 k_L_law_8 = true := by decide +kernel
set_option maxRecDepth 40000 in
theorem gl_9 : gdn 12 false code 1504 k_L_law_9 = true := by decide +kernel
set_option maxRecDepth 40000 in
theorem gl_10 : gd 12 false code k_L_law_10 = true := by decide +kernel
theorem gls_10 : gd 12 false code (k_L_law_10) = true := gl_10
theorem gls_9 : gd 12 false code (k_L_law_9 ++ (k_L_law_10)) = true := gdn_app (e := (1504, none, .iload_n 3, 1, [], 0, 0)) (b := _) gls_10 gl_9
theorem gls_8 : gd 12 false code (k_L_law_8 ++ (k_L_law_9 ++ (k_L_law_10))) = true := gdn_app (e := (1368, none, .iconst 0, 1, [], 0, 0)) (b := _) gls_9 gl_8
theorem gls_7 : gd 12 false code (k_L_law_7 ++ (k_L_law_8 ++ (k_L_law_9 ++ (k_L_law_10)))) = true := gdn_app (e := (1230, none, .iaload, 1, [], 0, 0)) (b := _) gls_8 gl_7
theorem gls_6 : gd 12 false code (k_L_law_6 ++ (k_L_law_7 ++ (k_L_law_8 ++ (k_L_law_9 ++ (k_L_law_10))))) = true := gdn_app (e := (1106, none, .iconst 0, 1, [], 0, 0)) (b := _) gls_7 gl_6
theorem gls_5 : gd 12 false code (k_L_law_5 ++ (k_L_law_6 ++ (k_L_law_7 ++ (k_L_law_8 ++ (k_L_law_9 ++ (k_L_law_10)))))) = true := gdn_app (e := (974, none, .iaload, 1, [], 0, 0)) (b := _) gls_6 gl_5
theorem gls_4 : gd 12 false code (k_L_law_4 ++ (k_L_law_5 ++ (k_L_law_6 ++ (k_L_law_7 ++ (k_L_law_8 ++ (k_L_law_9 ++ (k_L_law_10))))))) = true := gdn_app (e := (842, some [0, 1, 2, 3], .aload_n 1, 1, [], 0, 0)) (b := _) gls_5 gl_4
theorem gls_3 : gd 12 false code (k_L_law_3 ++ (k_L_law_4 ++ (k_L_law_5 ++ (k_L_law_6 ++ (k_L_law_7 ++ (k_L_law_8 ++ (k_L_law_9 ++ (k_L_law_10)))))))) = true := gdn_app (e := (718, none, .iconst 2, 1, [], 2, 0)) (b := _) gls_4 gl_3
theorem gls_2 : gd 12 false code (k_L_law_2 ++ (k_L_law_3 ++ (k_L_law_4 ++ (k_L_law_5 ++ (k_L_law_6 ++ (k_L_law_7 ++ (k_L_law_8 ++ (k_L_law_9 ++ (k_L_law_10))))))))) = true := gdn_app (e := (590, none, .invokevirtual 67, 3, [1, 244, 1, 1, 11], 0, 0)) (b := _) gls_3 gl_2
theorem gls_1 : gd 12 false code (k_L_law_1 ++ (k_L_law_2 ++ (k_L_law_3 ++ (k_L_law_4 ++ (k_L_law_5 ++ (k_L_law_6 ++ (k_L_law_7 ++ (k_L_law_8 ++ (k_L_law_9 ++ (k_L_law_10)))))))))) = true := gdn_app (e := (456, none, .iadd, 1, [], 0, 0)) (b := _) gls_2 gl_1
theorem gls_0 : gd 12 false code (k_L_law_0 ++ (k_L_law_1 ++ (k_L_law_2 ++ (k_L_law_3 ++ (k_L_law_4 ++ (k_L_law_5 ++ (k_L_law_6 ++ (k_L_law_7 ++ (k_L_law_8 ++ (k_L_law_9 ++ (k_L_law_10))))))))))) = true := gdn_app (e := (326, none, .iadd, 1, [], 0, 0)) (b := _) gls_1 gl_0
theorem g_law : gd 12 false code k_L_law = true := gls_0
