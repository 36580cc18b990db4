/-! TOKENS: letters, figures, what is skipped -/
def letB (v : Nat) : Bool := (decide (97 ≤ v) && decide (v ≤ 122)) || (decide (65 ≤ v) && decide (v ≤ 90))
def digB (v : Nat) : Bool := decide (48 ≤ v) && decide (v ≤ 57)
def blkB (v : Nat) : Bool := decide (v = 32) || decide (v = 10)
/-- where the next token begins, c bytes at most being skipped -/
def skp (B : Nat → Nat) (L : Nat) : Nat → Nat → Nat
  | 0, p => p
  | c + 1, p => bif decide (p < L) && blkB (B p) then skp B L c (p + 1) else p
theorem skp_le {B : Nat → Nat} {L : Nat} : ∀ (c p : Nat), p ≤ skp B L c p
  | 0, p => Nat.le_refl _
  | c + 1, p => by
    unfold skp
    cases decide (p < L) && blkB (B p) with
    | false => exact Nat.le_refl _
    | true => have := skp_le (B := B) (L := L) c (p + 1); exact Nat.le_trans (by omega) this
theorem byt_let : ∀ v, v < 256 → (if nI v < 97 then (if nI v < 65 then (0 : Int32) else if 90 < nI v then 0 else 1) else if nI v ≤ 122 then 1 else if nI v < 65 then 0 else if 90 < nI v then 0 else 1) = bzB (letB v) := by decide +kernel
theorem byt_dig : ∀ v, v < 256 → (if nI v < 48 then (0 : Int32) else if 57 < nI v then 0 else 1) = bzB (digB v) := by decide +kernel
theorem let_m1 : letB 0 = false ∧ digB 0 = false := by decide
section TK
variable (X : XS) (d : Nat) (tx tu gu : Option Nat) (tl : List SC) (h : DT)
theorem iteR {p : Prop} [Decidable p] {a b : Int32} {H : HP} : (if p then (some (some (vI a), H) : RR) else some (some (vI b), H)) = some (some (vI (if p then a else b)), H) := by
  by_cases g : p
  · rw [if_pos g, if_pos g]
  · rw [if_neg g, if_neg g]
theorem x_let {v : Nat} (hv : v < 256) : cal X (d + 1) 53 [vI (nI v)] (SK tx tu gu tl, h) = some (some (vI (bzB (letB v))), (SK tx tu gu tl, h)) := by
  rw [c_X4_isLetter, e_X4_isLetter_0]
  simp only [iteR]
  rw [byt_let v hv]
theorem k_let {v : Nat} (hv : v < 256) : cal X (d + 1) 180 [vI (nI v)] (SK tx tu gu tl, h) = some (some (vI (bzB (letB v))), (SK tx tu gu tl, h)) := by
  rw [c_X11_isLetterByte, e_X11_isLetterByte_0]
  simp only [iteR]
  rw [byt_let v hv]
theorem x_dig {v : Nat} (hv : v < 256) : cal X (d + 1) 54 [vI (nI v)] (SK tx tu gu tl, h) = some (some (vI (bzB (digB v))), (SK tx tu gu tl, h)) := by
  rw [c_X4_isDigit, e_X4_isDigit_0]
  simp only [iteR]
  rw [byt_dig v hv]
theorem k_dig {v : Nat} (hv : v < 256) : cal X (d + 1) 181 [vI (nI v)] (SK tx tu gu tl, h) = some (some (vI (bzB (digB v))), (SK tx tu gu tl, h)) := by
  rw [c_X11_isFigure, e_X11_isFigure_0]
  simp only [iteR]
  rw [byt_dig v hv]
theorem k_let1 : cal X (d + 1) 180 [vI (-1)] (SK tx tu gu tl, h) = some (some (vI (0)), (SK tx tu gu tl, h)) := by
  rw [c_X11_isLetterByte, e_X11_isLetterByte_0, if_pos (by decide), if_pos (by decide)]
theorem k_dig1 : cal X (d + 1) 181 [vI (-1)] (SK tx tu gu tl, h) = some (some (vI (0)), (SK tx tu gu tl, h)) := by
  rw [c_X11_isFigure, e_X11_isFigure_0, if_pos (by decide)]
theorem k_byte {L p : Nat} (hL : gF h 72 4 = nI L) (h3 : L ≤ 300) (hp : p < L) : cal X (d + 1) 179 [vP (some 72), vI (nI p)] (SK tx tu gu tl, h) = some (some (vI (gA h 76 p)), (SK tx tu gu tl, h)) := by
  rw [c_X11_byteAt, e_X11_byteAt_0, hL, if_neg (nI_ge (by omega) (by omega)), inbI (by omega) (by omega)]
theorem k_byte1 {L p : Nat} (hL : gF h 72 4 = nI L) (h3 : L ≤ 300) (hp : L ≤ p) (hp2 : p ≤ 1000) : cal X (d + 1) 179 [vP (some 72), vI (nI p)] (SK tx tu gu tl, h) = some (some (vI (-1)), (SK tx tu gu tl, h)) := by
  rw [c_X11_byteAt, e_X11_byteAt_0, hL, if_pos (nI_le (by omega) (by omega))]
end TK
