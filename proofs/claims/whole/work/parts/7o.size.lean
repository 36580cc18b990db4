/-! SIZES of the heap that the law leaves -/
theorem sk_tot (tx tu gu : Option Nat) (tl : List SC) : (SK tx tu gu tl).length ≤ 1000 + tl.length ∧ tot (SK tx tu gu tl) ≤ 5400000 + tot tl := by
  have nn : ∀ c, c < 12 → NN c ≤ 100 := by decide +kernel
  have n1 := nn 1 (by omega)
  have n2 := nn 2 (by omega)
  have n3 := nn 3 (by omega)
  have n4 := nn 4 (by omega)
  have n5 := nn 5 (by omega)
  have n6 := nn 6 (by omega)
  have n7 := nn 7 (by omega)
  have n8 := nn 8 (by omega)
  have n9 := nn 9 (by omega)
  have n10 := nn 10 (by omega)
  have n11 := nn 11 (by omega)
  unfold SK
  simp only [tot, szC, List.length_cons, List.length_nil]
  omega
theorem sk_size {tx tu gu : Option Nat} {tl : List SC} (H : Late tu gu tl) : (SK tx tu gu tl).length ≤ 600000 ∧ tot (SK tx tu gu tl) ≤ 7302250 := by
  obtain ⟨a, b⟩ := sk_tot tx tu gu tl
  have : tl.length ≤ 1000 ∧ tot tl ≤ 100000 := by
    rcases H with ⟨_, _, rfl⟩ | ⟨_, _, rfl⟩ | ⟨_, _, rfl⟩ | ⟨_, _, rfl⟩ | ⟨_, _, rfl⟩ <;> decide +kernel
  omega
