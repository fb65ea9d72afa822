/-! MAPS AND IMAGES -/
section Maps
variable {M : Mem} {m n c : Nat} {a : Nat → Nat} {r : Nat} {q : Nat → Nat} {p w : Nat}
theorem pc_one {N x : Nat} (h : x < 2 ^ N) (h0 : x ≠ 0) : 1 ≤ pc x.testBit N := by
  refine Nat.pos_of_ne_zero fun z => h0 (Nat.eq_of_testBit_eq fun i => ?_)
  rw [Nat.zero_testBit]
  by_cases d : i < N
  · exact pc_zero.mp z i d
  · exact tB_hi h (by omega)
theorem ord_of {v : Int32} (h1 : (2 : Int32) ≤ v) (h2 : v ≤ (3 : Int32)) : ∃ r, (r = 2 ∨ r = 3) ∧ v = ii r := by
  have hv : ¬ v < 0 := fun z => by
    have a1 := Int32.le_iff_toInt_le.mp h1
    have a2 := Int32.lt_iff_toInt_lt.mp z
    have a3 : (2 : Int32).toInt = 2 := by decide
    have a4 : (0 : Int32).toInt = 0 := by decide
    omega
  obtain ⟨x, hx, rfl⟩ := ii_of hv
  rw [show (2 : Int32) = ii 2 from rfl, ii_le (by decide) hx] at h1
  rw [show (3 : Int32) = ii 3 from rfl, ii_le hx (by decide)] at h2
  exact ⟨x, by omega, rfl⟩
theorem nmap_r {v1 v2 v3 : Int32} (e : d_X7_isFrom (2 : Int32) v3 (3 : Int32) = 0) : d_X7_needMappable v1 v2 v3 M = some (.inr "java/lang/IllegalArgumentException", M) := by
  unfold d_X7_needMappable
  rw [if_pos e]
theorem six (x : Nat) (hx : x < 1000) : (ii x ≤ (6 : Int32)) ↔ x ≤ 6 := by
  rw [show (6 : Int32) = ii 6 from rfl, ii_le (by omega) (by decide)]
theorem bcN (h : InvP M m n c a r q p w) {i : Nat} (hi : i < c) : d_J13_bitCount_95d88 (d_X7_bitsOf (ii i) M) = ii (pc (a i).testBit (m * n)) := by
  have hN := h.1.2.2.1
  rw [bitsOf_ok h hi, bitCount_i (set64 (set_lt h hi) hN), sz_st (by omega) (set_lt h hi)]
theorem nm_big (h : InvP M m n c a r q p w) {i j : Nat} (hi : i < c) (hj : j < c) {v3 : Int32} (e : d_X7_isFrom (2 : Int32) v3 (3 : Int32) = 1) (hb : ¬ (pc (a i).testBit (m * n) ≤ 6 ∧ pc (a j).testBit (m * n) ≤ 6)) : d_X7_needMappable (ii i) (ii j) v3 M = some (.inr "java/lang/IllegalStateException", M) := by
  have hN := h.1.2.2.1
  have p1 := pc_le (a i).testBit (m * n)
  have p2 := pc_le (a j).testBit (m * n)
  unfold d_X7_needMappable
  rw [e, if_neg (by decide), bcN h hi, bcN h hj]
  by_cases d : pc (a i).testBit (m * n) ≤ 6
  · rw [if_pos ((six _ (by omega)).mpr d), if_neg (fun z => hb ⟨d, (six _ (by omega)).mp z⟩)]
  · rw [if_neg (fun z => d ((six _ (by omega)).mp z))]
theorem nm_ok (h : InvP M m n c a r q p w) {i j : Nat} (hi : i < c) (hj : j < c) {v3 : Int32} (e : d_X7_isFrom (2 : Int32) v3 (3 : Int32) = 1) (h1 : pc (a i).testBit (m * n) ≤ 6) (h2 : pc (a j).testBit (m * n) ≤ 6) : d_X7_needMappable (ii i) (ii j) v3 M = some (.inl none, M) := by
  unfold d_X7_needMappable
  rw [e, if_neg (by decide), bcN h hi, bcN h hj, if_pos ((six _ (by omega)).mpr h1), if_pos ((six _ (by omega)).mpr h2)]
/-! the reference's bars -/
theorem mWk {A D : Mem} (f : Fr (fun k _ => k = 22 ∨ k = 23 ∨ k = 24 ∨ k = 25) A D) : Wk A D := f.wk (by intro k j z; unfold wk; omega)
/-! the image -/
end Maps
