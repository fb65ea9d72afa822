/-! THE REFERENCE'S GROUP AND SETS -/
theorem sI_at (M : Mem) (k j : Nat) (x : Int32) : (sI M k j x).1 k j = x := by simp [sI]
theorem sI_ne (M : Mem) {k j a b : Nat} (x : Int32) (h : ¬ (a = k ∧ b = j)) : (sI M k j x).1 a b = M.1 a b := by
  unfold sI
  by_cases e : a = k
  · subst e
    have : b ≠ j := fun q => h ⟨rfl, q⟩
    simp [this]
  · simp [e]
theorem sL_at (M : Mem) (k j : Nat) (x : Int64) : (sL M k j x).2 k j = x := by simp [sL]
theorem sL_ne (M : Mem) {k j a b : Nat} (x : Int64) (h : ¬ (a = k ∧ b = j)) : (sL M k j x).2 a b = M.2 a b := by
  unfold sL
  by_cases e : a = k
  · subst e
    have : b ≠ j := fun q => h ⟨rfl, q⟩
    simp [this]
  · simp [e]
theorem ii_pos {k : Nat} (h : k < 2147483648) : (0 : Int32) < ii k ↔ 0 < k := ii_lt (a := 0) (by decide) h
theorem one1 : ((1 : Int32) &&& 1) = 1 := by decide
theorem zero1 : ((0 : Int32) &&& 1) = 0 := by decide
/-- all sums of two sets, of an element and some times another one -/
noncomputable def ams (m n a : Nat) (t : Int) (b : Nat) (u : Prop) : Nat := st (m * n) (fun i => ∃ x, x < m * n ∧ a.testBit x = true ∧ ∃ y, y < m * n ∧ b.testBit y = true ∧ ¬ (u ∧ x = y) ∧ ad m n x (ml m n t y) = i)
theorem ams_lt (m n a : Nat) (t : Int) (b : Nat) (u : Prop) : ams m n a t b u < 2 ^ (m * n) := st_lt _ _
section Mod
variable {M : Mem} {m n : Nat}
theorem mbit_i {k : Nat} (hk : k < 64) : jshl (1 : Int64) (ii k) = ll (2 ^ k) := bit_i hk
end Mod
