/-! THE CALLS that change nothing, 2: covers, sums, orders, rules, what the house is -/
noncomputable def cvS (m n A B : Nat) : Nat → Nat × Nat
  | 0 => (0, 0)
  | k + 1 => if A.testBit k = true ∧ shf m n B k &&& (cvS m n A B k).2 = 0 then ((cvS m n A B k).1 ||| 2 ^ k, (cvS m n A B k).2 ||| shf m n B k) else cvS m n A B k
theorem b_t : ((if true = true then (1 : Int32) else 0) = 0) = False := eq_false (by decide)
theorem b_f : ((if false = true then (1 : Int32) else 0) = 0) = True := eq_true (by decide)
section Cas
variable {M : Mem} {m n c : Nat} {a : Nat → Nat} {r : Nat} {q : Nat → Nat} {p w : Nat}
theorem ccover (h : InvP M m n c a r q p w) {i j : Nat} (hi : i < c) (hj : j < c) : iter (g_X7_cover_1 (ii i) (ii j) M) 20000 ((0 : Int64), (0 : Int64), (0 : Int32)) = some (.inl (ll (cvS m n (a i) (a j) (m * n)).1, ll (cvS m n (a i) (a j) (m * n)).2, ii (m * n))) := by
  have hN := h.1.2.2.1
  have h2 := h.1.2.2.2.2.2.1
  refine it_full (g := g_X7_cover_1 (ii i) (ii j) M) (m * n) (fun k => (ll (cvS m n (a i) (a j) k).1, ll (cvS m n (a i) (a j) k).2, ii k)) (by omega) (fun k hk => ?_) ?_
  · unfold g_X7_cover_1
    dsimp only
    rw [h2, if_pos ((ii_lt (by omega) (by omega)).mpr hk), bitsOf_ok h hi, bitsOf_ok h hj, shifted_i h.1 (set_lt h hj) hk, bit_i (by omega), has_i (set64 (set_lt h hi) hN) (by omega), ll_and, ii_inc]
    have e : cvS m n (a i) (a j) (k + 1) = if (a i).testBit k = true ∧ shf m n (a j) k &&& (cvS m n (a i) (a j) k).2 = 0 then ((cvS m n (a i) (a j) k).1 ||| 2 ^ k, (cvS m n (a i) (a j) k).2 ||| shf m n (a j) k) else cvS m n (a i) (a j) k := rfl
    rw [e]
    cases hb : (a i).testBit k with
    | false =>
      simp only [b_f, if_true, Bool.false_eq_true, false_and, if_false]
    | true =>
      have zz := lc_z (set64 (and_lt (b := (cvS m n (a i) (a j) k).2) (shf_lt (a j) k)) hN)
      by_cases z : shf m n (a j) k &&& (cvS m n (a i) (a j) k).2 = 0
      · simp only [b_t, if_false, eq_true (zz.mpr z), if_true, eq_true z, true_and, ll_or, c10]
      · simp only [b_t, if_false, eq_false (fun y => z (zz.mp y)), eq_false z, and_false, if_true, c10]
  · unfold g_X7_cover_1
    dsimp only
    rw [h2, if_neg (by rw [ii_lt (by omega) (by omega)]; omega)]
/-! sums of so many -/
theorem csums (h : InvP M m n c a r q p w) {i l : Nat} (hi : i < c) (h1 : 1 ≤ l) (h2 : l ≤ 100) : iter (g_X7_sums_1 (ii i) (ii l) M) 20000 (d_X7_bitsOf (ii i) M, (1 : Int32)) = some (.inl (ll (hs m n (a i) (l - 1)), ii l)) := by
  have e : (d_X7_bitsOf (ii i) M, (1 : Int32)) = (ll (hs m n (a i) 0), ii (0 + 1)) := by rw [bitsOf_ok h hi]; rfl
  rw [e]
  refine it_full (g := g_X7_sums_1 (ii i) (ii l) M) (l - 1) (fun k => (ll (hs m n (a i) k), ii (k + 1))) (by omega) (fun k hk => ?_) ?_
  · unfold g_X7_sums_1
    dsimp only
    rw [if_pos ((ii_lt (by omega) (by omega)).mpr (by omega)), bitsOf_ok h hi, sumOf_i h.1 (hs_lt (set_lt h hi) k) (set_lt h hi), ii_inc]
    rfl
  · unfold g_X7_sums_1
    dsimp only
    rw [if_neg (by rw [ii_lt (by omega) (by omega)]; omega), Nat.sub_add_cancel h1]
/-! orders -/
theorem IsOrd.neg (hN : m * n ≤ 36) {x : Nat} {v : Int32} (h : IsOrd m n x v) : v = (-1 : Int32) ↔ ∀ k, hs m n x k ≠ 2 ^ (m * n) - 1 := by
  rcases h with ⟨k, rfl, h1, h2, h3⟩ | ⟨rfl, h1⟩
  · constructor
    · intro z
      rw [show (-1 : Int32) = zi (-1) from rfl, ← zi_ii, zi_eq (by omega) (by omega) (by decide) (by decide)] at z
      omega
    · intro z; exact absurd h2 (z k)
  · exact ⟨fun _ => h1, fun _ => rfl⟩
noncomputable def essS (m n x : Nat) : Nat := st (m * n) (fun e => x.testBit e = true ∧ (¬ ∀ k, hs m n x k ≠ 2 ^ (m * n) - 1) ∧ ∀ k, hs m n (x &&& (2 ^ e ^^^ (2 ^ 64 - 1))) k ≠ 2 ^ (m * n) - 1)
theorem cess (h : InvP M m n c a r q p w) {i : Nat} (hi : i < c) (ho : ¬ ∀ k, hs m n (a i) k ≠ 2 ^ (m * n) - 1) : iter (g_X7_essential_1 (ii i) M) 20000 ((0 : Int64), (0 : Int32)) = some (.inl (ll (essS m n (a i)), ii (m * n))) := by
  have hN := h.1.2.2.1
  have h2 := h.1.2.2.2.2.2.1
  refine up_set hN (fun e => (a i).testBit e = true ∧ (¬ ∀ k, hs m n (a i) k ≠ 2 ^ (m * n) - 1) ∧ ∀ k, hs m n (a i &&& (2 ^ e ^^^ (2 ^ 64 - 1))) k ≠ 2 ^ (m * n) - 1) ?_ ?_
  · intro k mk hk
    unfold g_X7_essential_1
    dsimp only
    rw [h2, if_pos ((ii_lt (by omega) (by omega)).mpr hk), bitsOf_ok h hi, has_i (set64 (set_lt h hi) hN) (by omega), bit_i (by omega), ll_not, ll_and, ii_inc]
    cases hb : (a i).testBit k with
    | false => rw [if_pos (by decide), if_neg (fun z => by cases z.1), Nat.or_zero]
    | true =>
      obtain ⟨o, o1, o2⟩ := orderOf_i h.1 (and_lt (b := 2 ^ k ^^^ (2 ^ 64 - 1)) (set_lt h hi))
      rw [if_neg (by decide), o1]
      show some (Sum.inl ((if o = (-1 : Int32) then ll mk ||| ll _ else ll mk), _)) = _
      by_cases z : o = (-1 : Int32)
      · rw [if_pos z, if_pos ⟨rfl, ho, (o2.neg hN).mp z⟩, ll_or]
      · rw [if_neg z, if_neg (fun y => z ((o2.neg hN).mpr y.2.2)), Nat.or_zero]
  · unfold g_X7_essential_1
    dsimp only
    rw [h2, if_neg (by rw [ii_lt (by omega) (by omega)]; omega)]
    rfl
/-! rules -/
/-! what the house is -/
end Cas
