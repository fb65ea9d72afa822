/-! THE CALLS, one by one: the class answers as the reference does -/
theorem onV_ok {X : Type} (M : Mem) (f : Mem → Option X) (e : Res × Mem → Option X) : onV (some (.inl none, M)) f e = f M := rfl
theorem onV_thr {X : Type} (E : String) (M : Mem) (f : Mem → Option X) (e : Res × Mem → Option X) : onV (some (.inr E, M)) f e = e (.inr E, M) := rfl
theorem onI_ok {X : Type} (v : Int32) (M : Mem) (f : Int32 → Mem → Option X) (e : Res × Mem → Option X) : onI (some (.inl (some (.int v)), M)) f e = f v M := rfl
theorem onI_thr {X : Type} (E : String) (M : Mem) (f : Int32 → Mem → Option X) (e : Res × Mem → Option X) : onI (some (.inr E, M)) f e = e (.inr E, M) := rfl
theorem onL_ok {X : Type} (v : Int64) (M : Mem) (f : Int64 → Mem → Option X) (e : Res × Mem → Option X) : onL (some (.inl (some (.long v)), M)) f e = f v M := rfl
theorem onL_thr {X : Type} (E : String) (M : Mem) (f : Int64 → Mem → Option X) (e : Res × Mem → Option X) : onL (some (.inr E, M)) f e = e (.inr E, M) := rfl
theorem c10 : ((1 : Int32) = 0) = False := eq_false (by decide)
theorem c00 : ((0 : Int32) = 0) = True := eq_true rfl
theorem cl0 : ((0 : Int32) ≤ 0) = True := eq_true (by decide)
theorem cl1 : ((1 : Int32) ≤ 0) = False := eq_false (by decide)
theorem cl2 : ((2 : Int32) ≤ 0) = False := eq_false (by decide)
theorem cl3 : ((3 : Int32) ≤ 0) = False := eq_false (by decide)
theorem inb0 : inb (0 : Int32) 1 = true := by decide
theorem ix0 : ix (0 : Int32) = 0 := by decide
theorem e1a : ("java/lang/IndexOutOfBoundsException" = "java/lang/IndexOutOfBoundsException") = True := eq_true rfl
theorem e1b : ("java/lang/IndexOutOfBoundsException" = "java/lang/IllegalArgumentException") = False := eq_false (by decide)
theorem e1c : ("java/lang/IndexOutOfBoundsException" = "java/lang/IllegalStateException") = False := eq_false (by decide)
theorem e2a : ("java/lang/IllegalArgumentException" = "java/lang/IllegalArgumentException") = True := eq_true rfl
theorem e2b : ("java/lang/IllegalArgumentException" = "java/lang/IndexOutOfBoundsException") = False := eq_false (by decide)
theorem e2c : ("java/lang/IllegalArgumentException" = "java/lang/IllegalStateException") = False := eq_false (by decide)
theorem e3a : ("java/lang/IllegalStateException" = "java/lang/IllegalStateException") = True := eq_true rfl
theorem e3b : ("java/lang/IllegalStateException" = "java/lang/IndexOutOfBoundsException") = False := eq_false (by decide)
theorem e3c : ("java/lang/IllegalStateException" = "java/lang/IllegalArgumentException") = False := eq_false (by decide)
/-- a number that is none below k -/
def noI (v : Int32) (k : Nat) : Prop := v < 0 ∨ ¬ v < ii k
theorem nIx (v : Int32) {k : Nat} (hk : k < 2147483648) : noI v k ∨ ∃ i, i < k ∧ v = ii i := by
  by_cases c : v < 0
  · exact Or.inl (Or.inl c)
  · obtain ⟨i, hi, rfl⟩ := ii_of c
    by_cases c2 : i < k
    · exact Or.inr ⟨i, c2, rfl⟩
    · exact Or.inl (Or.inr fun z => c2 ((ii_lt hi hk).mp z))
section Css
variable {M : Mem} {m n c : Nat} {a : Nat → Nat} {r : Nat} {q : Nat → Nat} {p w : Nat}
theorem needSet_bad (h : InvP M m n c a r q p w) {v : Int32} (b : noI v c) : d_X7_needSet v M = some (.inr "java/lang/IndexOutOfBoundsException", M) := by
  unfold d_X7_needSet
  rw [h.2.2.1.2.1]
  rcases b with b | b
  · rw [if_pos b]
  · rw [if_neg b]; split <;> rfl
theorem needSet_ok (h : InvP M m n c a r q p w) {i : Nat} (hi : i < c) : d_X7_needSet (ii i) M = some (.inl none, M) := by
  have := h.2.2.1.1
  unfold d_X7_needSet
  rw [h.2.2.1.2.1, if_neg (ii_lt0 (by omega)), if_pos ((ii_lt (by omega) (by omega)).mpr hi)]
theorem needElement_bad (h : InvP M m n c a r q p w) {v : Int32} (b : noI v (m * n)) : d_X7_needElement v M = some (.inr "java/lang/IndexOutOfBoundsException", M) := by
  unfold d_X7_needElement
  rw [h.1.2.2.2.2.2.1]
  rcases b with b | b
  · rw [if_pos b]
  · rw [if_neg b]; split <;> rfl
theorem needElement_ok (h : InvP M m n c a r q p w) {i : Nat} (hi : i < m * n) : d_X7_needElement (ii i) M = some (.inl none, M) := by
  have := h.1.2.2.1
  unfold d_X7_needElement
  rw [h.1.2.2.2.2.2.1, if_neg (ii_lt0 (by omega)), if_pos ((ii_lt (by omega) (by omega)).mpr hi)]
theorem bitsOf_ok (h : InvP M m n c a r q p w) {i : Nat} (hi : i < c) : d_X7_bitsOf (ii i) M = ll (a i) := by
  have := h.2.2.1.1
  unfold d_X7_bitsOf
  rw [if_neg (ii_lt0 (by omega)), if_pos (by rw [show (30 : Int32) = ii 30 from rfl, ii_lt (by omega) (by decide)]; omega), ii_ix (by omega), (h.2.2.1.2.2.2 i hi).1]
theorem inb_ok (h : InvP M m n c a r q p w) {i : Nat} (hi : i < c) : inb (ii i) 30 = true := by
  have := h.2.2.1.1
  exact ii_inb (by omega) (by decide)
theorem set_lt (h : InvP M m n c a r q p w) {i : Nat} (hi : i < c) : a i < 2 ^ (m * n) := (h.2.2.1.2.2.2 i hi).2.2.1
theorem InvP.t (h : InvP M m n c a r q p w) (x : Int32) : InvP (sI M 19 15 x) m n c a r q p w := h.w (Wk.thr M x)
end Css
