/-! THE CALLS of greatest subsets -/
section Cas
variable {M : Mem} {m n c : Nat} {a : Nat → Nat} {r : Nat} {q : Nat → Nat} {p w : Nat}
theorem mgreatest_i (h : InvP M m n c a r q p w) {i l : Nat} (hi : i < c) (hl : l < 4) (r2 : d_X8_isIn (ii l) (0 : Int32) (3 : Int32) = 1) (h12 : sz (a i) ≤ 12) : ∃ b, d_X8_greatestOf (ii i) (ii l) M = some (.inl (some (.long (ll b))), sI M 19 15 0) ∧ BB m n l (a i) (a i + 1) b := by
  have hN := h.1.2.2.1
  have hs := set_lt h hi
  have e12 : ii (sz (a i)) ≤ (12 : Int32) := by
    rw [show (12 : Int32) = ii 12 from rfl, ii_le (sz36 _) (by decide)]
    exact h12
  obtain ⟨b, y, h1, h2⟩ := greatestOf_i h.2.1 (fun x => (h.t x).2.1) hl hs (inb_ok h hi) (mem_ok h hi) (ii (sz (a i))) h12
  refine ⟨b, ?_, h2⟩
  simp only [d_X8_greatestOf, d_X8_isRule, isSet_ok h hi, r2, one1, inb_ok h hi, mem_ok h hi, many_N hN hs, if_pos e12, h1, onIt, onV_ok, onV_thr, onI_ok, onI_thr, onL_ok, onL_thr, Option.bind_some, c10, c00, cl0, cl1, cl2, cl3, e1a, e1b, e1c, e2a, e2b, e2c, e3a, e3b, e3c, inb0, ix0, if_true, if_false, reduceIte]
theorem mgreatest_12 (h : InvP M m n c a r q p w) {i l : Nat} (hi : i < c) (r2 : d_X8_isIn (ii l) (0 : Int32) (3 : Int32) = 1) (h12 : ¬ sz (a i) ≤ 12) : d_X8_greatestOf (ii i) (ii l) M = some (.inl (some (.long 0)), sI M 19 15 2) := by
  have hN := h.1.2.2.1
  have hs := set_lt h hi
  have e12 : ¬ ii (sz (a i)) ≤ (12 : Int32) := by
    rw [show (12 : Int32) = ii 12 from rfl, ii_le (sz36 _) (by decide)]
    exact h12
  simp only [d_X8_greatestOf, d_X8_isRule, isSet_ok h hi, r2, one1, inb_ok h hi, mem_ok h hi, many_N hN hs, if_neg e12, onV_ok, onV_thr, onI_ok, onI_thr, onL_ok, onL_thr, Option.bind_some, c10, c00, cl0, cl1, cl2, cl3, e1a, e1b, e1c, e2a, e2b, e2c, e3a, e3b, e3c, inb0, ix0, if_true, if_false, reduceIte]
theorem cs_greatest (h : Inv M) (v1 v2 : Int32) : CsL (d_L_greatest v1 v2) (d_X8_greatest v1 v2) M := by
  obtain ⟨m, n, c, a, r, q, p, w, h⟩ := h
  have hc := h.2.2.1.1
  have hN := h.1.2.2.1
  rcases nIx v1 (show c < 2147483648 by omega) with b1 | ⟨i, hi, rfl⟩
  · exact CsL.thr h 1 0 (by decide) (by simp only [d_L_greatest, d_X7_greatest, needSet_bad h b1, onV_ok, onV_thr, onI_ok, onI_thr, onL_ok, onL_thr, Option.bind_some, c10, c00, cl0, cl1, cl2, cl3, e1a, e1b, e1c, e2a, e2b, e2c, e3a, e3b, e3c, inb0, ix0, if_true, if_false, reduceIte]) (by simp only [d_X8_greatest, d_X8_greatestOf, isSet_bad h b1, onV_ok, onV_thr, onI_ok, onI_thr, onL_ok, onL_thr, Option.bind_some, c10, c00, cl0, cl1, cl2, cl3, e1a, e1b, e1c, e2a, e2b, e2c, e3a, e3b, e3c, inb0, ix0, if_true, if_false, reduceIte])
  rcases inR (0 : Int32) v2 (3 : Int32) with ⟨r1, r2⟩ | ⟨r1, r2, r3, r4⟩
  · exact CsL.thr h 1 0 (by decide) (by simp only [d_L_greatest, d_X7_greatest, d_X7_needRule, needSet_ok h hi, r1, onV_ok, onV_thr, onI_ok, onI_thr, onL_ok, onL_thr, Option.bind_some, c10, c00, cl0, cl1, cl2, cl3, e1a, e1b, e1c, e2a, e2b, e2c, e3a, e3b, e3c, inb0, ix0, if_true, if_false, reduceIte]) (by simp only [d_X8_greatest, d_X8_greatestOf, d_X8_isRule, isSet_ok h hi, r2, zero1, onV_ok, onV_thr, onI_ok, onI_thr, onL_ok, onL_thr, Option.bind_some, c10, c00, cl0, cl1, cl2, cl3, e1a, e1b, e1c, e2a, e2b, e2c, e3a, e3b, e3c, inb0, ix0, if_true, if_false, reduceIte])
  obtain ⟨l, rfl, hl1, hl2⟩ := rngN (lo := 0) (hi := 3) (by decide) (by decide) r3 r4
  have hs := set_lt h hi
  have bc : d_J13_bitCount_95d88 (ll (a i)) = ii (sz (a i)) := bitCount_i (set64 hs hN)
  have e12 : ii (sz (a i)) ≤ (12 : Int32) ↔ sz (a i) ≤ 12 := by rw [show (12 : Int32) = ii 12 from rfl, ii_le (sz36 _) (by decide)]
  by_cases h12 : sz (a i) ≤ 12
  · obtain ⟨b, g1, g2⟩ := byBranches_i h.1 (show l < 4 by omega) hs h12
    refine CsL.ok h (ll b) (by simp only [d_L_greatest, d_X7_greatest, d_X7_needRule, d_X7_needSearchable, needSet_ok h hi, r1, bitsOf_ok h hi, bc, if_pos (e12.mpr h12), g1, onV_ok, onV_thr, onI_ok, onI_thr, onL_ok, onL_thr, Option.bind_some, c10, c00, cl0, cl1, cl2, cl3, e1a, e1b, e1c, e2a, e2b, e2c, e3a, e3b, e3c, inb0, ix0, if_true, if_false, reduceIte]) (fun g => ?_)
    obtain ⟨b', g1', g2'⟩ := mgreatest_i g hi (show l < 4 by omega) r2 h12
    have hS36 : a i < 2 ^ 36 := Nat.lt_of_lt_of_le hs (Nat.pow_le_pow_right (by decide) hN)
    have : b' = b := BB.one hS36 (Nat.lt_succ_self _) hS36 g2' g2
    subst this
    simp only [d_X8_greatest, g1', onV_ok, onV_thr, onI_ok, onI_thr, onL_ok, onL_thr, Option.bind_some, c10, c00, cl0, cl1, cl2, cl3, e1a, e1b, e1c, e2a, e2b, e2c, e3a, e3b, e3c, inb0, ix0, if_true, if_false, reduceIte]
  · exact CsL.thr h 2 0 (by decide) (by simp only [d_L_greatest, d_X7_greatest, d_X7_needRule, d_X7_needSearchable, needSet_ok h hi, r1, bitsOf_ok h hi, bc, if_neg (fun z => h12 (e12.mp z)), onV_ok, onV_thr, onI_ok, onI_thr, onL_ok, onL_thr, Option.bind_some, c10, c00, cl0, cl1, cl2, cl3, e1a, e1b, e1c, e2a, e2b, e2c, e3a, e3b, e3c, inb0, ix0, if_true, if_false, reduceIte]) (by simp only [d_X8_greatest, mgreatest_12 h hi r2 h12, onV_ok, onV_thr, onI_ok, onI_thr, onL_ok, onL_thr, Option.bind_some, c10, c00, cl0, cl1, cl2, cl3, e1a, e1b, e1c, e2a, e2b, e2c, e3a, e3b, e3c, inb0, ix0, if_true, if_false, reduceIte])
theorem cs_greatestAnew (h : Inv M) (v1 v2 : Int32) : CsL (d_L_greatestAnew v1 v2) (d_X8_greatestAnew v1 v2) M := by
  obtain ⟨m, n, c, a, r, q, p, w, h⟩ := h
  have hc := h.2.2.1.1
  have hN := h.1.2.2.1
  rcases nIx v1 (show c < 2147483648 by omega) with b1 | ⟨i, hi, rfl⟩
  · exact CsL.thr h 1 0 (by decide) (by simp only [d_L_greatestAnew, d_X7_greatestAnew, needSet_bad h b1, onV_ok, onV_thr, onI_ok, onI_thr, onL_ok, onL_thr, Option.bind_some, c10, c00, cl0, cl1, cl2, cl3, e1a, e1b, e1c, e2a, e2b, e2c, e3a, e3b, e3c, inb0, ix0, if_true, if_false, reduceIte]) (by simp only [d_X8_greatestAnew, d_X8_greatestOf, isSet_bad h b1, onV_ok, onV_thr, onI_ok, onI_thr, onL_ok, onL_thr, Option.bind_some, c10, c00, cl0, cl1, cl2, cl3, e1a, e1b, e1c, e2a, e2b, e2c, e3a, e3b, e3c, inb0, ix0, if_true, if_false, reduceIte])
  rcases inR (0 : Int32) v2 (3 : Int32) with ⟨r1, r2⟩ | ⟨r1, r2, r3, r4⟩
  · exact CsL.thr h 1 0 (by decide) (by simp only [d_L_greatestAnew, d_X7_greatestAnew, d_X7_needRule, needSet_ok h hi, r1, onV_ok, onV_thr, onI_ok, onI_thr, onL_ok, onL_thr, Option.bind_some, c10, c00, cl0, cl1, cl2, cl3, e1a, e1b, e1c, e2a, e2b, e2c, e3a, e3b, e3c, inb0, ix0, if_true, if_false, reduceIte]) (by simp only [d_X8_greatestAnew, d_X8_greatestOf, d_X8_isRule, isSet_ok h hi, r2, zero1, onV_ok, onV_thr, onI_ok, onI_thr, onL_ok, onL_thr, Option.bind_some, c10, c00, cl0, cl1, cl2, cl3, e1a, e1b, e1c, e2a, e2b, e2c, e3a, e3b, e3c, inb0, ix0, if_true, if_false, reduceIte])
  obtain ⟨l, rfl, hl1, hl2⟩ := rngN (lo := 0) (hi := 3) (by decide) (by decide) r3 r4
  have hs := set_lt h hi
  have bc : d_J13_bitCount_95d88 (ll (a i)) = ii (sz (a i)) := bitCount_i (set64 hs hN)
  have e12 : ii (sz (a i)) ≤ (12 : Int32) ↔ sz (a i) ≤ 12 := by rw [show (12 : Int32) = ii 12 from rfl, ii_le (sz36 _) (by decide)]
  by_cases h12 : sz (a i) ≤ 12
  · obtain ⟨b, g1, g2⟩ := byAll_i h.1 (show l < 4 by omega) hs h12
    refine CsL.ok h (ll b) (by simp only [d_L_greatestAnew, d_X7_greatestAnew, d_X7_needRule, d_X7_needSearchable, needSet_ok h hi, r1, bitsOf_ok h hi, bc, if_pos (e12.mpr h12), g1, onV_ok, onV_thr, onI_ok, onI_thr, onL_ok, onL_thr, Option.bind_some, c10, c00, cl0, cl1, cl2, cl3, e1a, e1b, e1c, e2a, e2b, e2c, e3a, e3b, e3c, inb0, ix0, if_true, if_false, reduceIte]) (fun g => ?_)
    obtain ⟨b', g1', g2'⟩ := mgreatest_i g hi (show l < 4 by omega) r2 h12
    have hS36 : a i < 2 ^ 36 := Nat.lt_of_lt_of_le hs (Nat.pow_le_pow_right (by decide) hN)
    have : b' = b := BB.one hS36 (Nat.lt_succ_self _) (Nat.lt_succ_self _) g2' g2
    subst this
    simp only [d_X8_greatestAnew, g1', onV_ok, onV_thr, onI_ok, onI_thr, onL_ok, onL_thr, Option.bind_some, c10, c00, cl0, cl1, cl2, cl3, e1a, e1b, e1c, e2a, e2b, e2c, e3a, e3b, e3c, inb0, ix0, if_true, if_false, reduceIte]
  · exact CsL.thr h 2 0 (by decide) (by simp only [d_L_greatestAnew, d_X7_greatestAnew, d_X7_needRule, d_X7_needSearchable, needSet_ok h hi, r1, bitsOf_ok h hi, bc, if_neg (fun z => h12 (e12.mp z)), onV_ok, onV_thr, onI_ok, onI_thr, onL_ok, onL_thr, Option.bind_some, c10, c00, cl0, cl1, cl2, cl3, e1a, e1b, e1c, e2a, e2b, e2c, e3a, e3b, e3c, inb0, ix0, if_true, if_false, reduceIte]) (by simp only [d_X8_greatestAnew, mgreatest_12 h hi r2 h12, onV_ok, onV_thr, onI_ok, onI_thr, onL_ok, onL_thr, Option.bind_some, c10, c00, cl0, cl1, cl2, cl3, e1a, e1b, e1c, e2a, e2b, e2c, e3a, e3b, e3c, inb0, ix0, if_true, if_false, reduceIte])
end Cas
