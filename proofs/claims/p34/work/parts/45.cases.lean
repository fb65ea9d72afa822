/-! THE CALLS that change nothing: sums, ways, energies, covers -/
theorem rngN {lo hi : Nat} {v : Int32} (hl : lo < 2147483648) (hh : hi < 2147483648) (h1 : ii lo ≤ v) (h2 : v ≤ ii hi) : ∃ l, v = ii l ∧ lo ≤ l ∧ l ≤ hi := by
  have c : ¬ v < 0 := fun z => by
    have z1 := Int32.lt_iff_toInt_lt.mp z
    have z2 := Int32.le_iff_toInt_le.mp h1
    rw [ii_toInt hl] at z2
    have : (0 : Int32).toInt = 0 := by decide
    omega
  obtain ⟨l, hl', rfl⟩ := ii_of c
  exact ⟨l, rfl, (ii_le hl hl').mp h1, (ii_le hl' hh).mp h2⟩
theorem rngZ {lo hi : Int} {v : Int32} (g1 : -2147483648 ≤ lo) (g2 : lo < 2147483648) (g3 : -2147483648 ≤ hi) (g4 : hi < 2147483648) (h1 : zi lo ≤ v) (h2 : v ≤ zi hi) : ∃ t, v = zi t ∧ lo ≤ t ∧ t ≤ hi := by
  refine ⟨v.toInt, zi_of v, ?_, ?_⟩
  · have := Int32.le_iff_toInt_le.mp h1
    rwa [zi_toInt g1 g2] at this
  · have := Int32.le_iff_toInt_le.mp h2
    rwa [zi_toInt g3 g4] at this
theorem inR (lo v hi : Int32) : d_X7_isFrom lo v hi = 0 ∨ (d_X7_isFrom lo v hi = 1 ∧ lo ≤ v ∧ v ≤ hi) := by
  unfold d_X7_isFrom
  by_cases c : lo ≤ v
  · rw [if_pos c]
    by_cases c2 : v ≤ hi
    · rw [if_pos c2]; exact Or.inr ⟨rfl, c, c2⟩
    · rw [if_neg c2]; exact Or.inl rfl
  · rw [if_neg c]; exact Or.inl rfl
section Cas
variable {M : Mem} {m n c : Nat} {a : Nat → Nat} {r : Nat} {q : Nat → Nat} {p w : Nat}
/-! popular -/
noncomputable def popS (m n x y l : Nat) : Nat := st (m * n) (fun e => l ≤ wy m n x y e)
theorem wy_le (m n x y e : Nat) : wy m n x y e ≤ 64 := sz_le _
theorem cpop (h : InvP M m n c a r q p w) {i j l : Nat} (hi : i < c) (hj : j < c) (hl : l ≤ 36) : iter (g_X7_popular_1 (ii i) (ii j) (ii l) M) 20000 ((0 : Int64), (0 : Int32)) = some (.inl (ll (popS m n (a i) (a j) l), ii (m * n))) := by
  have hN := h.1.2.2.1
  have h2 := h.1.2.2.2.2.2.1
  refine up_set hN (fun e => l ≤ wy m n (a i) (a j) e) ?_ ?_
  · intro k mk hk
    have := wy_le m n (a i) (a j) k
    unfold g_X7_popular_1
    dsimp only
    rw [h2, if_pos ((ii_lt (by omega) (by omega)).mpr hk), bitsOf_ok h hi, bitsOf_ok h hj, waysTo_i h.1 (set_lt h hi) (set_lt h hj) hk, bit_i (by omega), ll_or, ii_inc]
    show some (Sum.inl ((if ii _ < ii l then _ else _), _)) = _
    by_cases z : l ≤ wy m n (a i) (a j) k
    · rw [if_neg (by rw [ii_lt (by omega) (by omega)]; omega), if_pos z]
    · rw [if_pos (by rw [ii_lt (by omega) (by omega)]; omega), if_neg z, Nat.or_zero]
  · unfold g_X7_popular_1
    dsimp only
    rw [h2, if_neg (by rw [ii_lt (by omega) (by omega)]; omega)]
    rfl
theorem iter1 {A B : Type} {g : A → Option (A ⊕ B)} {s : A} {b : B} (h : g s = some (.inr b)) : iter g 20000 s = some b := by
  unfold iter
  rw [h]
/-! energies -/
theorem cenergy (h : InvP M m n c a r q p w) {i j : Nat} (hi : i < c) (hj : j < c) : iter (g_X7_energy_1 (ii i) (ii j) M) 20000 ((0 : Int32), (0 : Int32)) = some (.inl (ii (su (fun e => wy m n (a i) (a j) e * wy m n (a i) (a j) e) (m * n)), ii (m * n))) := by
  have hN := h.1.2.2.1
  have h2 := h.1.2.2.2.2.2.1
  refine up_sum (N := m * n) (by omega) (fun e => wy m n (a i) (a j) e * wy m n (a i) (a j) e) 0 ?_ ?_
  · intro k s hk
    unfold g_X7_energy_1
    dsimp only
    rw [h2, if_pos ((ii_lt (by omega) (by omega)).mpr hk), bitsOf_ok h hi, bitsOf_ok h hj, waysTo_i h.1 (set_lt h hi) (set_lt h hj) hk, ii_inc]
    show some (Sum.inl (ii s + ii _ * ii _, _)) = _
    rw [ii_mul, ii_add]
  · unfold g_X7_energy_1
    dsimp only
    rw [h2, if_neg (by rw [ii_lt (by omega) (by omega)]; omega), Nat.zero_add]
theorem cenergyAnew (h : InvP M m n c a r q p w) {i j : Nat} (hi : i < c) (hj : j < c) : iter (g_X7_energyAnew_1 (ii i) (ii j) M) 20000 ((0 : Int32), (0 : Int32)) = some (.inl (ii (su (fun e => wd m n (a i) e * wd m n (a j) e) (m * n)), ii (m * n))) := by
  have hN := h.1.2.2.1
  have h2 := h.1.2.2.2.2.2.1
  refine up_sum (N := m * n) (by omega) (fun e => wd m n (a i) e * wd m n (a j) e) 0 ?_ ?_
  · intro k s hk
    unfold g_X7_energyAnew_1
    dsimp only
    rw [h2, if_pos ((ii_lt (by omega) (by omega)).mpr hk), bitsOf_ok h hi, bitsOf_ok h hj, waysAsDifference_i h.1 (set_lt h hi) hk, waysAsDifference_i h.1 (set_lt h hj) hk, ii_inc, ii_mul, ii_add]
  · unfold g_X7_energyAnew_1
    dsimp only
    rw [h2, if_neg (by rw [ii_lt (by omega) (by omega)]; omega), Nat.zero_add]
/-! stabilizer, excess, slack -/
theorem stb_lt (x : Nat) : stb m n x < 2 ^ (m * n) := st_lt _ _
end Cas
