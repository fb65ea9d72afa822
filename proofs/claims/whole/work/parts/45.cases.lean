/-! THE CALLS that change nothing: sums, ways, energies, covers -/
theorem isIn_From (lo v hi : Int32) : d_X8_isIn v lo hi = d_X7_isFrom lo v hi := by
  unfold d_X8_isIn d_X7_isFrom
  by_cases c : v < lo
  · rw [if_pos c, if_neg (fun z => Int32.not_lt.mpr z c)]
  · rw [if_neg c, if_pos (Int32.not_lt.mp c)]
theorem inR (lo v hi : Int32) : (d_X7_isFrom lo v hi = 0 ∧ d_X8_isIn v lo hi = 0) ∨ (d_X7_isFrom lo v hi = 1 ∧ d_X8_isIn v lo hi = 1 ∧ lo ≤ v ∧ v ≤ hi) := by
  rw [isIn_From]
  unfold d_X7_isFrom
  by_cases c : lo ≤ v
  · rw [if_pos c]
    by_cases c2 : v ≤ hi
    · rw [if_pos c2]; exact Or.inr ⟨rfl, rfl, c, c2⟩
    · rw [if_neg c2]; exact Or.inl ⟨rfl, rfl⟩
  · rw [if_neg c]; exact Or.inl ⟨rfl, rfl⟩
theorem rngN {lo hi : Nat} {v : Int32} (hl : lo < 2147483648) (hh : hi < 2147483648) (h1 : ii lo ≤ v) (h2 : v ≤ ii hi) : ∃ l, v = ii l ∧ lo ≤ l ∧ l ≤ hi := by
  have c : ¬ v < 0 := fun z => by
    have z1 := Int32.lt_iff_toInt_lt.mp z
    have z2 := Int32.le_iff_toInt_le.mp h1
    rw [ii_toInt hl] at z2
    have : (0 : Int32).toInt = 0 := by decide
    omega
  obtain ⟨l, hl', rfl⟩ := ii_of c
  exact ⟨l, rfl, (ii_le hl hl').mp h1, (ii_le hl' hh).mp h2⟩
theorem rngZ {lo hi : Int} {v : Int32} (g1 : -2147483648 ≤ lo) (g2 : lo < 2147483648) (g3 : -2147483648 ≤ hi) (g4 : hi < 2147483648) (h1 : zi lo ≤ v) (h2 : v ≤ zi hi) : ∃ t, v = zi t ∧ lo ≤ t ∧ t ≤ hi := by
  refine ⟨v.toInt, zi_of v, ?_, ?_⟩
  · have := Int32.le_iff_toInt_le.mp h1
    rwa [zi_toInt g1 g2] at this
  · have := Int32.le_iff_toInt_le.mp h2
    rwa [zi_toInt g3 g4] at this
section Cas
variable {M : Mem} {m n c : Nat} {a : Nat → Nat} {r : Nat} {q : Nat → Nat} {p w : Nat}
theorem areSets_b1 (h : InvP M m n c a r q p w) {v1 : Int32} (v2 : Int32) (b : noI v1 c) : d_X8_areSets v1 v2 M = some (.inl (some (.int 0)), sI M 19 15 1) := by
  simp only [d_X8_areSets, isSet_bad h b, onV_ok, onV_thr, onI_ok, onI_thr, onL_ok, onL_thr, Option.bind_some, c10, c00, cl0, cl1, cl2, cl3, e1a, e1b, e1c, e2a, e2b, e2c, e3a, e3b, e3c, inb0, ix0, if_true, if_false, reduceIte]
theorem areSets_b2 (h : InvP M m n c a r q p w) {i : Nat} (hi : i < c) {v2 : Int32} (b : noI v2 c) : d_X8_areSets (ii i) v2 M = some (.inl (some (.int 0)), sI M 19 15 1) := by
  simp only [d_X8_areSets, isSet_ok h hi, isSet_bad h b, onV_ok, onV_thr, onI_ok, onI_thr, onL_ok, onL_thr, Option.bind_some, c10, c00, cl0, cl1, cl2, cl3, e1a, e1b, e1c, e2a, e2b, e2c, e3a, e3b, e3c, inb0, ix0, if_true, if_false, reduceIte]
theorem areSets_ok (h : InvP M m n c a r q p w) {i j : Nat} (hi : i < c) (hj : j < c) : d_X8_areSets (ii i) (ii j) M = some (.inl (some (.int 1)), sI M 19 15 0) := by
  simp only [d_X8_areSets, isSet_ok h hi, isSet_ok h hj, onV_ok, onV_thr, onI_ok, onI_thr, onL_ok, onL_thr, Option.bind_some, c10, c00, cl0, cl1, cl2, cl3, e1a, e1b, e1c, e2a, e2b, e2c, e3a, e3b, e3c, inb0, ix0, if_true, if_false, reduceIte]
theorem cs_elements (h : Inv M) (v1 : Int32) : CsL (d_L_elements v1) (d_X8_elements v1) M := by
  obtain ⟨m, n, c, a, r, q, p, w, h⟩ := h
  have hc := h.2.2.1.1
  rcases nIx v1 (show c < 2147483648 by omega) with b1 | ⟨i, hi, rfl⟩
  · exact CsL.thr h 1 0 (by decide) (by simp only [d_L_elements, d_X7_elements, needSet_bad h b1, onV_ok, onV_thr, onI_ok, onI_thr, onL_ok, onL_thr, Option.bind_some, c10, c00, cl0, cl1, cl2, cl3, e1a, e1b, e1c, e2a, e2b, e2c, e3a, e3b, e3c, inb0, ix0, if_true, if_false, reduceIte]) (by simp only [d_X8_elements, isSet_bad h b1, onV_ok, onV_thr, onI_ok, onI_thr, onL_ok, onL_thr, Option.bind_some, c10, c00, cl0, cl1, cl2, cl3, e1a, e1b, e1c, e2a, e2b, e2c, e3a, e3b, e3c, inb0, ix0, if_true, if_false, reduceIte])
  · exact CsL.ok h (ll (a i)) (by simp only [d_L_elements, d_X7_elements, needSet_ok h hi, bitsOf_ok h hi, onV_ok, onV_thr, onI_ok, onI_thr, onL_ok, onL_thr, Option.bind_some, c10, c00, cl0, cl1, cl2, cl3, e1a, e1b, e1c, e2a, e2b, e2c, e3a, e3b, e3c, inb0, ix0, if_true, if_false, reduceIte]) (fun g => by simp only [d_X8_elements, isSet_ok g hi, inb_ok g hi, mem_ok g hi, onV_ok, onV_thr, onI_ok, onI_thr, onL_ok, onL_thr, Option.bind_some, c10, c00, cl0, cl1, cl2, cl3, e1a, e1b, e1c, e2a, e2b, e2c, e3a, e3b, e3c, inb0, ix0, if_true, if_false, reduceIte])
theorem cs_ways (h : Inv M) (v1 v2 v3 : Int32) : CsI (d_L_ways v1 v2 v3) (d_X8_ways v1 v2 v3) M := by
  obtain ⟨m, n, c, a, r, q, p, w, h⟩ := h
  have hc := h.2.2.1.1
  have hN := h.1.2.2.1
  rcases nIx v1 (show c < 2147483648 by omega) with b1 | ⟨i, hi, rfl⟩
  · exact CsI.thr h 1 0 (by decide) (by simp only [d_L_ways, d_X7_ways, needSet_bad h b1, onV_ok, onV_thr, onI_ok, onI_thr, onL_ok, onL_thr, Option.bind_some, c10, c00, cl0, cl1, cl2, cl3, e1a, e1b, e1c, e2a, e2b, e2c, e3a, e3b, e3c, inb0, ix0, if_true, if_false, reduceIte]) (by simp only [d_X8_ways, isSet_bad h b1, onV_ok, onV_thr, onI_ok, onI_thr, onL_ok, onL_thr, Option.bind_some, c10, c00, cl0, cl1, cl2, cl3, e1a, e1b, e1c, e2a, e2b, e2c, e3a, e3b, e3c, inb0, ix0, if_true, if_false, reduceIte])
  rcases nIx v2 (show c < 2147483648 by omega) with b2 | ⟨j, hj, rfl⟩
  · exact CsI.thr h 1 0 (by decide) (by simp only [d_L_ways, d_X7_ways, needSet_ok h hi, needSet_bad h b2, onV_ok, onV_thr, onI_ok, onI_thr, onL_ok, onL_thr, Option.bind_some, c10, c00, cl0, cl1, cl2, cl3, e1a, e1b, e1c, e2a, e2b, e2c, e3a, e3b, e3c, inb0, ix0, if_true, if_false, reduceIte]) (by simp only [d_X8_ways, isSet_ok h hi, isSet_bad h b2, onV_ok, onV_thr, onI_ok, onI_thr, onL_ok, onL_thr, Option.bind_some, c10, c00, cl0, cl1, cl2, cl3, e1a, e1b, e1c, e2a, e2b, e2c, e3a, e3b, e3c, inb0, ix0, if_true, if_false, reduceIte])
  rcases nIx v3 (show m * n < 2147483648 by omega) with b3 | ⟨e, he, rfl⟩
  · exact CsI.thr h 1 0 (by decide) (by simp only [d_L_ways, d_X7_ways, needSet_ok h hi, needSet_ok h hj, needElement_bad h b3, onV_ok, onV_thr, onI_ok, onI_thr, onL_ok, onL_thr, Option.bind_some, c10, c00, cl0, cl1, cl2, cl3, e1a, e1b, e1c, e2a, e2b, e2c, e3a, e3b, e3c, inb0, ix0, if_true, if_false, reduceIte]) (by simp only [d_X8_ways, isSet_ok h hi, isSet_ok h hj, isElement_bad h b3, onV_ok, onV_thr, onI_ok, onI_thr, onL_ok, onL_thr, Option.bind_some, c10, c00, cl0, cl1, cl2, cl3, e1a, e1b, e1c, e2a, e2b, e2c, e3a, e3b, e3c, inb0, ix0, if_true, if_false, reduceIte])
  exact CsI.ok h (ii (wy m n (a i) (a j) e)) (by simp only [d_L_ways, d_X7_ways, needSet_ok h hi, needSet_ok h hj, needElement_ok h he, bitsOf_ok h hi, bitsOf_ok h hj, waysTo_i h.1 (set_lt h hi) (set_lt h hj) he, onV_ok, onV_thr, onI_ok, onI_thr, onL_ok, onL_thr, Option.bind_some, c10, c00, cl0, cl1, cl2, cl3, e1a, e1b, e1c, e2a, e2b, e2c, e3a, e3b, e3c, inb0, ix0, if_true, if_false, reduceIte]) (fun g => by simp only [d_X8_ways, isSet_ok g hi, isSet_ok g hj, isElement_ok g he, inb_ok g hi, inb_ok g hj, mem_ok g hi, mem_ok g hj, mwaysTo_i (g.t 0).2.1 (set_lt h hi) (set_lt h hj) he, onV_ok, onV_thr, onI_ok, onI_thr, onL_ok, onL_thr, Option.bind_some, c10, c00, cl0, cl1, cl2, cl3, e1a, e1b, e1c, e2a, e2b, e2c, e3a, e3b, e3c, inb0, ix0, if_true, if_false, reduceIte])
theorem cs_add (h : Inv M) (v1 v2 v3 : Int32) : CsI (d_L_add v1 v2 v3) (d_X8_add v1 v2 v3) M := by
  obtain ⟨m, n, c, a, r, q, p, w, h⟩ := h
  have hN := h.1.2.2.1
  have hm := h.1.1
  have hn := h.1.2.1
  rcases nIx v1 (show m * n < 2147483648 by omega) with b1 | ⟨i, hi, rfl⟩
  · exact CsI.thr h 1 0 (by decide) (by simp only [d_L_add, d_X7_add, needElement_bad h b1, onV_ok, onV_thr, onI_ok, onI_thr, onL_ok, onL_thr, Option.bind_some, c10, c00, cl0, cl1, cl2, cl3, e1a, e1b, e1c, e2a, e2b, e2c, e3a, e3b, e3c, inb0, ix0, if_true, if_false, reduceIte]) (by simp only [d_X8_add, isElement_bad h b1, onV_ok, onV_thr, onI_ok, onI_thr, onL_ok, onL_thr, Option.bind_some, c10, c00, cl0, cl1, cl2, cl3, e1a, e1b, e1c, e2a, e2b, e2c, e3a, e3b, e3c, inb0, ix0, if_true, if_false, reduceIte])
  rcases nIx v2 (show m * n < 2147483648 by omega) with b2 | ⟨j, hj, rfl⟩
  · exact CsI.thr h 1 0 (by decide) (by simp only [d_L_add, d_X7_add, needElement_ok h hi, needElement_bad h b2, onV_ok, onV_thr, onI_ok, onI_thr, onL_ok, onL_thr, Option.bind_some, c10, c00, cl0, cl1, cl2, cl3, e1a, e1b, e1c, e2a, e2b, e2c, e3a, e3b, e3c, inb0, ix0, if_true, if_false, reduceIte]) (by simp only [d_X8_add, isElement_ok h hi, isElement_bad h b2, onV_ok, onV_thr, onI_ok, onI_thr, onL_ok, onL_thr, Option.bind_some, c10, c00, cl0, cl1, cl2, cl3, e1a, e1b, e1c, e2a, e2b, e2c, e3a, e3b, e3c, inb0, ix0, if_true, if_false, reduceIte])
  by_cases c3 : v3 = 0
  · have e1 : ∀ {M : Mem} (g : InvP M m n c a r q p w), d_X8_plus (ii i) (-1 : Int32) (ii j) M = some (ii (sb m n i j)) := fun g => by
      rw [show (-1 : Int32) = zi (-1) from rfl, mplus_i g.2.1 (by omega) (by omega) (by decide)]
      rfl
    exact CsI.ok h (ii (sb m n i j)) (by simp only [d_L_add, d_X7_add, needElement_ok h hi, needElement_ok h hj, if_pos c3, lessOf_i h.1 hj, plus_i h.1 hi (ng_lt hm hn j), onV_ok, onV_thr, onI_ok, onI_thr, onL_ok, onL_thr, Option.bind_some, c10, c00, cl0, cl1, cl2, cl3, e1a, e1b, e1c, e2a, e2b, e2c, e3a, e3b, e3c, inb0, ix0, if_true, if_false, reduceIte]; rfl) (fun g => by simp only [d_X8_add, isElement_ok g hi, isElement_ok g hj, if_pos c3, e1 (g.t 0), onV_ok, onV_thr, onI_ok, onI_thr, onL_ok, onL_thr, Option.bind_some, c10, c00, cl0, cl1, cl2, cl3, e1a, e1b, e1c, e2a, e2b, e2c, e3a, e3b, e3c, inb0, ix0, if_true, if_false, reduceIte])
  · have e1 : ∀ {M : Mem} (g : InvP M m n c a r q p w), d_X8_plus (ii i) (1 : Int32) (ii j) M = some (ii (ad m n i j)) := fun g => by
      rw [show (1 : Int32) = zi 1 from rfl, mplus_i g.2.1 (by omega) (by omega) (by decide), ml_one hn hj]
    exact CsI.ok h (ii (ad m n i j)) (by simp only [d_L_add, d_X7_add, needElement_ok h hi, needElement_ok h hj, if_neg c3, plus_i h.1 hi hj, onV_ok, onV_thr, onI_ok, onI_thr, onL_ok, onL_thr, Option.bind_some, c10, c00, cl0, cl1, cl2, cl3, e1a, e1b, e1c, e2a, e2b, e2c, e3a, e3b, e3c, inb0, ix0, if_true, if_false, reduceIte]) (fun g => by simp only [d_X8_add, isElement_ok g hi, isElement_ok g hj, if_neg c3, e1 (g.t 0), onV_ok, onV_thr, onI_ok, onI_thr, onL_ok, onL_thr, Option.bind_some, c10, c00, cl0, cl1, cl2, cl3, e1a, e1b, e1c, e2a, e2b, e2c, e3a, e3b, e3c, inb0, ix0, if_true, if_false, reduceIte])
/-! popular -/
noncomputable def popS (m n x y l : Nat) : Nat := st (m * n) (fun e => l ≤ wy m n x y e)
theorem wy_le (m n x y e : Nat) : wy m n x y e ≤ 64 := sz_le _
theorem cpop (h : InvP M m n c a r q p w) {i j l : Nat} (hi : i < c) (hj : j < c) (hl : l ≤ 36) : iter (g_X7_popular_1 (ii i) (ii j) (ii l) M) 20000 ((0 : Int64), (0 : Int32)) = some (.inl (ll (popS m n (a i) (a j) l), ii (m * n))) := by
  have hN := h.1.2.2.1
  have h2 := h.1.2.2.2.2.2.1
  refine up_set hN (fun e => l ≤ wy m n (a i) (a j) e) ?_ ?_
  · intro k mk hk
    have := wy_le m n (a i) (a j) k
    unfold g_X7_popular_1
    dsimp only
    rw [h2, if_pos ((ii_lt (by omega) (by omega)).mpr hk), bitsOf_ok h hi, bitsOf_ok h hj, waysTo_i h.1 (set_lt h hi) (set_lt h hj) hk, bit_i (by omega), ll_or, ii_inc]
    show some (Sum.inl ((if ii _ < ii l then _ else _), _)) = _
    by_cases z : l ≤ wy m n (a i) (a j) k
    · rw [if_neg (by rw [ii_lt (by omega) (by omega)]; omega), if_pos z]
    · rw [if_pos (by rw [ii_lt (by omega) (by omega)]; omega), if_neg z, Nat.or_zero]
  · unfold g_X7_popular_1
    dsimp only
    rw [h2, if_neg (by rw [ii_lt (by omega) (by omega)]; omega)]
    rfl
theorem mpop (h : InvP M m n c a r q p w) {i j l : Nat} (hi : i < c) (hj : j < c) (hl : l ≤ 36) (hr : d_X8_isIn (ii l) (1 : Int32) (36 : Int32) = 1) : iter (g_X8_popular_1 (ii i) (ii j) (ii l) M) 20000 ((0 : Int64), (0 : Int32)) = some (.inl (ll (popS m n (a i) (a j) l), ii (m * n))) := by
  have hN := h.1.2.2.1
  have h2 := msize_i (h.t 0).2.1
  refine up_set hN (fun e => l ≤ wy m n (a i) (a j) e) ?_ ?_
  · intro k mk hk
    have := wy_le m n (a i) (a j) k
    simp only [g_X8_popular_1, isSet_ok h hi, isSet_ok h hj, hr, onV_ok, onV_thr, onI_ok, onI_thr, onL_ok, onL_thr, Option.bind_some, c10, c00, cl0, cl1, cl2, cl3, e1a, e1b, e1c, e2a, e2b, e2c, e3a, e3b, e3c, inb0, ix0, if_true, if_false, reduceIte]
    rw [h2, if_pos ((ii_lt (by omega) (by omega)).mpr hk), if_pos (inb_ok h hi), if_pos (inb_ok h hj), mem_ok h hi, mem_ok h hj, mwaysTo_i (h.t 0).2.1 (set_lt h hi) (set_lt h hj) hk, mbit_i (by omega), ii_inc]
    show some (Sum.inl (ll mk ||| (if ii _ < ii l then (0 : Int64) else _), _)) = _
    by_cases z : l ≤ wy m n (a i) (a j) k
    · rw [if_neg (by rw [ii_lt (by omega) (by omega)]; omega), if_pos z, ll_or]
    · rw [if_pos (by rw [ii_lt (by omega) (by omega)]; omega), if_neg z, ll_0, ll_or]
  · simp only [g_X8_popular_1, isSet_ok h hi, isSet_ok h hj, hr, onV_ok, onV_thr, onI_ok, onI_thr, onL_ok, onL_thr, Option.bind_some, c10, c00, cl0, cl1, cl2, cl3, e1a, e1b, e1c, e2a, e2b, e2c, e3a, e3b, e3c, inb0, ix0, if_true, if_false, reduceIte]
    rw [h2, if_neg (by rw [ii_lt (by omega) (by omega)]; omega)]
    rfl
theorem iter1 {A B : Type} {g : A → Option (A ⊕ B)} {s : A} {b : B} (h : g s = some (.inr b)) : iter g 20000 s = some b := by
  unfold iter
  rw [h]
theorem mpop_thr {v1 v2 v3 : Int32} {t : Int32} (e : (if d_X8_isSet v1 M = 0 then (1 : Int32) else (if d_X8_isSet v2 M = 0 then (1 : Int32) else (if d_X8_isIn v3 (1 : Int32) (36 : Int32) = 0 then (2 : Int32) else (0 : Int32)))) = t) (ht : t ≠ 0) : d_X8_popular v1 v2 v3 M = some (.inl (some (.long 0)), sI M 19 15 t) := by
  unfold d_X8_popular
  rw [iter1 (b := .inl ((0 : Int64), (0 : Int32))), e]
  · rfl
  · unfold g_X8_popular_1
    dsimp only
    rw [e, if_neg ht]
    split <;> rfl
theorem cs_popular (h : Inv M) (v1 v2 v3 : Int32) : CsL (d_L_popular v1 v2 v3) (d_X8_popular v1 v2 v3) M := by
  obtain ⟨m, n, c, a, r, q, p, w, h⟩ := h
  have hc := h.2.2.1.1
  rcases nIx v1 (show c < 2147483648 by omega) with b1 | ⟨i, hi, rfl⟩
  · exact CsL.thr h 1 0 (by decide) (by simp only [d_L_popular, d_X7_popular, needSet_bad h b1, onV_ok, onV_thr, onI_ok, onI_thr, onL_ok, onL_thr, Option.bind_some, c10, c00, cl0, cl1, cl2, cl3, e1a, e1b, e1c, e2a, e2b, e2c, e3a, e3b, e3c, inb0, ix0, if_true, if_false, reduceIte]) (mpop_thr (by simp only [isSet_bad h b1, onV_ok, onV_thr, onI_ok, onI_thr, onL_ok, onL_thr, Option.bind_some, c10, c00, cl0, cl1, cl2, cl3, e1a, e1b, e1c, e2a, e2b, e2c, e3a, e3b, e3c, inb0, ix0, if_true, if_false, reduceIte]) (by decide))
  rcases nIx v2 (show c < 2147483648 by omega) with b2 | ⟨j, hj, rfl⟩
  · exact CsL.thr h 1 0 (by decide) (by simp only [d_L_popular, d_X7_popular, needSet_ok h hi, needSet_bad h b2, onV_ok, onV_thr, onI_ok, onI_thr, onL_ok, onL_thr, Option.bind_some, c10, c00, cl0, cl1, cl2, cl3, e1a, e1b, e1c, e2a, e2b, e2c, e3a, e3b, e3c, inb0, ix0, if_true, if_false, reduceIte]) (mpop_thr (by simp only [isSet_ok h hi, isSet_bad h b2, onV_ok, onV_thr, onI_ok, onI_thr, onL_ok, onL_thr, Option.bind_some, c10, c00, cl0, cl1, cl2, cl3, e1a, e1b, e1c, e2a, e2b, e2c, e3a, e3b, e3c, inb0, ix0, if_true, if_false, reduceIte]) (by decide))
  rcases inR (1 : Int32) v3 (36 : Int32) with ⟨r1, r2⟩ | ⟨r1, r2, r3, r4⟩
  · exact CsL.thr h 2 0 (by decide) (by simp only [d_L_popular, d_X7_popular, needSet_ok h hi, needSet_ok h hj, r1, onV_ok, onV_thr, onI_ok, onI_thr, onL_ok, onL_thr, Option.bind_some, c10, c00, cl0, cl1, cl2, cl3, e1a, e1b, e1c, e2a, e2b, e2c, e3a, e3b, e3c, inb0, ix0, if_true, if_false, reduceIte]) (mpop_thr (by simp only [isSet_ok h hi, isSet_ok h hj, r2, onV_ok, onV_thr, onI_ok, onI_thr, onL_ok, onL_thr, Option.bind_some, c10, c00, cl0, cl1, cl2, cl3, e1a, e1b, e1c, e2a, e2b, e2c, e3a, e3b, e3c, inb0, ix0, if_true, if_false, reduceIte]) (by decide))
  obtain ⟨l, rfl, hl1, hl2⟩ := rngN (lo := 1) (hi := 36) (by decide) (by decide) r3 r4
  exact CsL.ok h (ll (popS m n (a i) (a j) l)) (by simp only [d_L_popular, d_X7_popular, needSet_ok h hi, needSet_ok h hj, r1, cpop h hi hj hl2, onIt, onV_ok, onV_thr, onI_ok, onI_thr, onL_ok, onL_thr, Option.bind_some, c10, c00, cl0, cl1, cl2, cl3, e1a, e1b, e1c, e2a, e2b, e2c, e3a, e3b, e3c, inb0, ix0, if_true, if_false, reduceIte]) (fun g => by simp only [d_X8_popular, mpop g hi hj hl2 r2, isSet_ok g hi, isSet_ok g hj, r2, onIt, onV_ok, onV_thr, onI_ok, onI_thr, onL_ok, onL_thr, Option.bind_some, c10, c00, cl0, cl1, cl2, cl3, e1a, e1b, e1c, e2a, e2b, e2c, e3a, e3b, e3c, inb0, ix0, if_true, if_false, reduceIte])
/-! energies -/
theorem cenergy (h : InvP M m n c a r q p w) {i j : Nat} (hi : i < c) (hj : j < c) : iter (g_X7_energy_1 (ii i) (ii j) M) 20000 ((0 : Int32), (0 : Int32)) = some (.inl (ii (su (fun e => wy m n (a i) (a j) e * wy m n (a i) (a j) e) (m * n)), ii (m * n))) := by
  have hN := h.1.2.2.1
  have h2 := h.1.2.2.2.2.2.1
  refine up_sum (N := m * n) (by omega) (fun e => wy m n (a i) (a j) e * wy m n (a i) (a j) e) 0 ?_ ?_
  · intro k s hk
    unfold g_X7_energy_1
    dsimp only
    rw [h2, if_pos ((ii_lt (by omega) (by omega)).mpr hk), bitsOf_ok h hi, bitsOf_ok h hj, waysTo_i h.1 (set_lt h hi) (set_lt h hj) hk, ii_inc]
    show some (Sum.inl (ii s + ii _ * ii _, _)) = _
    rw [ii_mul, ii_add]
  · unfold g_X7_energy_1
    dsimp only
    rw [h2, if_neg (by rw [ii_lt (by omega) (by omega)]; omega), Nat.zero_add]
theorem menergy (h : InvP M m n c a r q p w) {i j : Nat} (hi : i < c) (hj : j < c) : iter (g_X8_energy_1 (ii i) (ii j) M) 20000 ((0 : Int32), (0 : Int32)) = some (.inl (ii (su (fun e => wy m n (a i) (a j) e * wy m n (a i) (a j) e) (m * n)), ii (m * n))) := by
  have hN := h.1.2.2.1
  have h2 := msize_i h.2.1
  refine up_sum (N := m * n) (by omega) (fun e => wy m n (a i) (a j) e * wy m n (a i) (a j) e) 0 ?_ ?_
  · intro k s hk
    unfold g_X8_energy_1
    dsimp only
    rw [h2, if_pos ((ii_lt (by omega) (by omega)).mpr hk), if_pos (inb_ok h hi), if_pos (inb_ok h hj), mem_ok h hi, mem_ok h hj, mwaysTo_i h.2.1 (set_lt h hi) (set_lt h hj) hk, ii_inc]
    show some (Sum.inl (ii s + ii _ * ii _, _)) = _
    rw [ii_mul, ii_add]
  · unfold g_X8_energy_1
    dsimp only
    rw [h2, if_neg (by rw [ii_lt (by omega) (by omega)]; omega), Nat.zero_add]
theorem cs_energy (h : Inv M) (v1 v2 : Int32) : CsI (d_L_energy v1 v2) (d_X8_energy v1 v2) M := by
  obtain ⟨m, n, c, a, r, q, p, w, h⟩ := h
  have hc := h.2.2.1.1
  rcases nIx v1 (show c < 2147483648 by omega) with b1 | ⟨i, hi, rfl⟩
  · exact CsI.thr h 1 0 (by decide) (by simp only [d_L_energy, d_X7_energy, needSet_bad h b1, onV_ok, onV_thr, onI_ok, onI_thr, onL_ok, onL_thr, Option.bind_some, c10, c00, cl0, cl1, cl2, cl3, e1a, e1b, e1c, e2a, e2b, e2c, e3a, e3b, e3c, inb0, ix0, if_true, if_false, reduceIte]) (by simp only [d_X8_energy, areSets_b1 h v2 b1, onV_ok, onV_thr, onI_ok, onI_thr, onL_ok, onL_thr, Option.bind_some, c10, c00, cl0, cl1, cl2, cl3, e1a, e1b, e1c, e2a, e2b, e2c, e3a, e3b, e3c, inb0, ix0, if_true, if_false, reduceIte])
  rcases nIx v2 (show c < 2147483648 by omega) with b2 | ⟨j, hj, rfl⟩
  · exact CsI.thr h 1 0 (by decide) (by simp only [d_L_energy, d_X7_energy, needSet_ok h hi, needSet_bad h b2, onV_ok, onV_thr, onI_ok, onI_thr, onL_ok, onL_thr, Option.bind_some, c10, c00, cl0, cl1, cl2, cl3, e1a, e1b, e1c, e2a, e2b, e2c, e3a, e3b, e3c, inb0, ix0, if_true, if_false, reduceIte]) (by simp only [d_X8_energy, areSets_b2 h hi b2, onV_ok, onV_thr, onI_ok, onI_thr, onL_ok, onL_thr, Option.bind_some, c10, c00, cl0, cl1, cl2, cl3, e1a, e1b, e1c, e2a, e2b, e2c, e3a, e3b, e3c, inb0, ix0, if_true, if_false, reduceIte])
  exact CsI.ok h (ii (su (fun e => wy m n (a i) (a j) e * wy m n (a i) (a j) e) (m * n))) (by simp only [d_L_energy, d_X7_energy, needSet_ok h hi, needSet_ok h hj, cenergy h hi hj, onIt, onV_ok, onV_thr, onI_ok, onI_thr, onL_ok, onL_thr, Option.bind_some, c10, c00, cl0, cl1, cl2, cl3, e1a, e1b, e1c, e2a, e2b, e2c, e3a, e3b, e3c, inb0, ix0, if_true, if_false, reduceIte]) (fun g => by simp only [d_X8_energy, areSets_ok g hi hj, menergy (g.t 0) hi hj, onIt, onV_ok, onV_thr, onI_ok, onI_thr, onL_ok, onL_thr, Option.bind_some, c10, c00, cl0, cl1, cl2, cl3, e1a, e1b, e1c, e2a, e2b, e2c, e3a, e3b, e3c, inb0, ix0, if_true, if_false, reduceIte])
theorem cenergyAnew (h : InvP M m n c a r q p w) {i j : Nat} (hi : i < c) (hj : j < c) : iter (g_X7_energyAnew_1 (ii i) (ii j) M) 20000 ((0 : Int32), (0 : Int32)) = some (.inl (ii (su (fun e => wd m n (a i) e * wd m n (a j) e) (m * n)), ii (m * n))) := by
  have hN := h.1.2.2.1
  have h2 := h.1.2.2.2.2.2.1
  refine up_sum (N := m * n) (by omega) (fun e => wd m n (a i) e * wd m n (a j) e) 0 ?_ ?_
  · intro k s hk
    unfold g_X7_energyAnew_1
    dsimp only
    rw [h2, if_pos ((ii_lt (by omega) (by omega)).mpr hk), bitsOf_ok h hi, bitsOf_ok h hj, waysAsDifference_i h.1 (set_lt h hi) hk, waysAsDifference_i h.1 (set_lt h hj) hk, ii_inc, ii_mul, ii_add]
  · unfold g_X7_energyAnew_1
    dsimp only
    rw [h2, if_neg (by rw [ii_lt (by omega) (by omega)]; omega), Nat.zero_add]
theorem menergyAnew (h : InvP M m n c a r q p w) {i j : Nat} (hi : i < c) (hj : j < c) : iter (g_X8_energyAnew_1 (ii i) (ii j) M) 20000 ((0 : Int32), (0 : Int32)) = some (.inl (ii (su (fun e => wd m n (a i) e * wd m n (a j) e) (m * n)), ii (m * n))) := by
  have hN := h.1.2.2.1
  have h2 := msize_i h.2.1
  refine up_sum (N := m * n) (by omega) (fun e => wd m n (a i) e * wd m n (a j) e) 0 ?_ ?_
  · intro k s hk
    simp only [g_X8_energyAnew_1, inb_ok h hi, inb_ok h hj, mem_ok h hi, mem_ok h hj, mwaysDiff_i h.2.1 (set_lt h hi) hk, mwaysDiff_i h.2.1 (set_lt h hj) hk, onV_ok, onV_thr, onI_ok, onI_thr, onL_ok, onL_thr, Option.bind_some, c10, c00, cl0, cl1, cl2, cl3, e1a, e1b, e1c, e2a, e2b, e2c, e3a, e3b, e3c, inb0, ix0, if_true, if_false, reduceIte]
    rw [h2, if_pos ((ii_lt (by omega) (by omega)).mpr hk), ii_inc, ii_mul, ii_add]
  · unfold g_X8_energyAnew_1
    dsimp only
    rw [h2, if_neg (by rw [ii_lt (by omega) (by omega)]; omega), Nat.zero_add]
theorem cs_energyAnew (h : Inv M) (v1 v2 : Int32) : CsI (d_L_energyAnew v1 v2) (d_X8_energyAnew v1 v2) M := by
  obtain ⟨m, n, c, a, r, q, p, w, h⟩ := h
  have hc := h.2.2.1.1
  rcases nIx v1 (show c < 2147483648 by omega) with b1 | ⟨i, hi, rfl⟩
  · exact CsI.thr h 1 0 (by decide) (by simp only [d_L_energyAnew, d_X7_energyAnew, needSet_bad h b1, onV_ok, onV_thr, onI_ok, onI_thr, onL_ok, onL_thr, Option.bind_some, c10, c00, cl0, cl1, cl2, cl3, e1a, e1b, e1c, e2a, e2b, e2c, e3a, e3b, e3c, inb0, ix0, if_true, if_false, reduceIte]) (by simp only [d_X8_energyAnew, areSets_b1 h v2 b1, onV_ok, onV_thr, onI_ok, onI_thr, onL_ok, onL_thr, Option.bind_some, c10, c00, cl0, cl1, cl2, cl3, e1a, e1b, e1c, e2a, e2b, e2c, e3a, e3b, e3c, inb0, ix0, if_true, if_false, reduceIte])
  rcases nIx v2 (show c < 2147483648 by omega) with b2 | ⟨j, hj, rfl⟩
  · exact CsI.thr h 1 0 (by decide) (by simp only [d_L_energyAnew, d_X7_energyAnew, needSet_ok h hi, needSet_bad h b2, onV_ok, onV_thr, onI_ok, onI_thr, onL_ok, onL_thr, Option.bind_some, c10, c00, cl0, cl1, cl2, cl3, e1a, e1b, e1c, e2a, e2b, e2c, e3a, e3b, e3c, inb0, ix0, if_true, if_false, reduceIte]) (by simp only [d_X8_energyAnew, areSets_b2 h hi b2, onV_ok, onV_thr, onI_ok, onI_thr, onL_ok, onL_thr, Option.bind_some, c10, c00, cl0, cl1, cl2, cl3, e1a, e1b, e1c, e2a, e2b, e2c, e3a, e3b, e3c, inb0, ix0, if_true, if_false, reduceIte])
  exact CsI.ok h (ii (su (fun e => wd m n (a i) e * wd m n (a j) e) (m * n))) (by simp only [d_L_energyAnew, d_X7_energyAnew, needSet_ok h hi, needSet_ok h hj, cenergyAnew h hi hj, onIt, onV_ok, onV_thr, onI_ok, onI_thr, onL_ok, onL_thr, Option.bind_some, c10, c00, cl0, cl1, cl2, cl3, e1a, e1b, e1c, e2a, e2b, e2c, e3a, e3b, e3c, inb0, ix0, if_true, if_false, reduceIte]) (fun g => by simp only [d_X8_energyAnew, areSets_ok g hi hj, menergyAnew (g.t 0) hi hj, onIt, onV_ok, onV_thr, onI_ok, onI_thr, onL_ok, onL_thr, Option.bind_some, c10, c00, cl0, cl1, cl2, cl3, e1a, e1b, e1c, e2a, e2b, e2c, e3a, e3b, e3c, inb0, ix0, if_true, if_false, reduceIte])
/-! stabilizer, excess, slack -/
theorem cs_stabilizer (h : Inv M) (v1 : Int32) : CsL (d_L_stabilizer v1) (d_X8_stabilizer v1) M := by
  obtain ⟨m, n, c, a, r, q, p, w, h⟩ := h
  have hc := h.2.2.1.1
  rcases nIx v1 (show c < 2147483648 by omega) with b1 | ⟨i, hi, rfl⟩
  · exact CsL.thr h 1 0 (by decide) (by simp only [d_L_stabilizer, d_X7_stabilizer, needSet_bad h b1, onV_ok, onV_thr, onI_ok, onI_thr, onL_ok, onL_thr, Option.bind_some, c10, c00, cl0, cl1, cl2, cl3, e1a, e1b, e1c, e2a, e2b, e2c, e3a, e3b, e3c, inb0, ix0, if_true, if_false, reduceIte]) (by simp only [d_X8_stabilizer, isSet_bad h b1, onV_ok, onV_thr, onI_ok, onI_thr, onL_ok, onL_thr, Option.bind_some, c10, c00, cl0, cl1, cl2, cl3, e1a, e1b, e1c, e2a, e2b, e2c, e3a, e3b, e3c, inb0, ix0, if_true, if_false, reduceIte])
  · exact CsL.ok h (ll (stb m n (a i))) (by simp only [d_L_stabilizer, d_X7_stabilizer, needSet_ok h hi, bitsOf_ok h hi, unmoved_i h.1 (set_lt h hi), onV_ok, onV_thr, onI_ok, onI_thr, onL_ok, onL_thr, Option.bind_some, c10, c00, cl0, cl1, cl2, cl3, e1a, e1b, e1c, e2a, e2b, e2c, e3a, e3b, e3c, inb0, ix0, if_true, if_false, reduceIte]) (fun g => by simp only [d_X8_stabilizer, isSet_ok g hi, inb_ok g hi, mem_ok g hi, mstab_i (g.t 0).2.1 (set_lt h hi), onV_ok, onV_thr, onI_ok, onI_thr, onL_ok, onL_thr, Option.bind_some, c10, c00, cl0, cl1, cl2, cl3, e1a, e1b, e1c, e2a, e2b, e2c, e3a, e3b, e3c, inb0, ix0, if_true, if_false, reduceIte])
theorem stb_lt (x : Nat) : stb m n x < 2 ^ (m * n) := st_lt _ _
theorem cs_excess (h : Inv M) (v1 v2 : Int32) : CsI (d_L_excess v1 v2) (d_X8_excess v1 v2) M := by
  obtain ⟨m, n, c, a, r, q, p, w, h⟩ := h
  have hc := h.2.2.1.1
  have hN := h.1.2.2.1
  rcases nIx v1 (show c < 2147483648 by omega) with b1 | ⟨i, hi, rfl⟩
  · exact CsI.thr h 1 0 (by decide) (by simp only [d_L_excess, d_X7_excess, needSet_bad h b1, onV_ok, onV_thr, onI_ok, onI_thr, onL_ok, onL_thr, Option.bind_some, c10, c00, cl0, cl1, cl2, cl3, e1a, e1b, e1c, e2a, e2b, e2c, e3a, e3b, e3c, inb0, ix0, if_true, if_false, reduceIte]) (by simp only [d_X8_excess, areSets_b1 h v2 b1, onV_ok, onV_thr, onI_ok, onI_thr, onL_ok, onL_thr, Option.bind_some, c10, c00, cl0, cl1, cl2, cl3, e1a, e1b, e1c, e2a, e2b, e2c, e3a, e3b, e3c, inb0, ix0, if_true, if_false, reduceIte])
  rcases nIx v2 (show c < 2147483648 by omega) with b2 | ⟨j, hj, rfl⟩
  · exact CsI.thr h 1 0 (by decide) (by simp only [d_L_excess, d_X7_excess, needSet_ok h hi, needSet_bad h b2, onV_ok, onV_thr, onI_ok, onI_thr, onL_ok, onL_thr, Option.bind_some, c10, c00, cl0, cl1, cl2, cl3, e1a, e1b, e1c, e2a, e2b, e2c, e3a, e3b, e3c, inb0, ix0, if_true, if_false, reduceIte]) (by simp only [d_X8_excess, areSets_b2 h hi b2, onV_ok, onV_thr, onI_ok, onI_thr, onL_ok, onL_thr, Option.bind_some, c10, c00, cl0, cl1, cl2, cl3, e1a, e1b, e1c, e2a, e2b, e2c, e3a, e3b, e3c, inb0, ix0, if_true, if_false, reduceIte])
  have s0 := smo_lt (m := m) (n := n) (a i) (a j)
  have bc : ∀ {x : Nat}, x < 2 ^ (m * n) → d_J13_bitCount_95d88 (ll x) = ii (sz x) := fun hx => bitCount_i (set64 hx hN)
  exact CsI.ok h (((ii (sz (smo m n (a i) (a j))) - ii (sz (smo m n (a i) (stb m n (smo m n (a i) (a j)))))) - ii (sz (smo m n (a j) (stb m n (smo m n (a i) (a j)))))) + ii (sz (stb m n (smo m n (a i) (a j)))))
    (by simp only [d_L_excess, d_X7_excess, needSet_ok h hi, needSet_ok h hj, bitsOf_ok h hi, bitsOf_ok h hj, sumOf_i h.1 (set_lt h hi) (set_lt h hj), unmoved_i h.1 s0, sumOf_i h.1 (set_lt h hi) (stb_lt _), sumOf_i h.1 (set_lt h hj) (stb_lt _), bc s0, bc (stb_lt _), bc (smo_lt _ _), onV_ok, onV_thr, onI_ok, onI_thr, onL_ok, onL_thr, Option.bind_some, c10, c00, cl0, cl1, cl2, cl3, e1a, e1b, e1c, e2a, e2b, e2c, e3a, e3b, e3c, inb0, ix0, if_true, if_false, reduceIte])
    (fun g => by simp only [d_X8_excess, areSets_ok g hi hj, inb_ok g hi, inb_ok g hj, mem_ok (g.t 0) hi, mem_ok (g.t 0) hj, msumOf_i (g.t 0).2.1 (set_lt h hi) (set_lt h hj), mstab_i (g.t 0).2.1 s0, msumOf_i (g.t 0).2.1 (set_lt h hi) (stb_lt _), msumOf_i (g.t 0).2.1 (set_lt h hj) (stb_lt _), many_N hN s0, many_N hN (stb_lt _), many_N hN (smo_lt _ _), onV_ok, onV_thr, onI_ok, onI_thr, onL_ok, onL_thr, Option.bind_some, c10, c00, cl0, cl1, cl2, cl3, e1a, e1b, e1c, e2a, e2b, e2c, e3a, e3b, e3c, inb0, ix0, if_true, if_false, reduceIte])
theorem mdifferences (h : InvP M m n c a r q p w) {i j : Nat} (hi : i < c) (hj : j < c) : d_X8_differences (ii i) (ii j) M = some (ii (sz (smo m n (a i) (mir m n (a j))))) := by
  simp only [d_X8_differences, inb_ok h hi, inb_ok h hj, mem_ok h hi, mem_ok h hj, mdiff_i h.2.1 (set_lt h hi) (set_lt h hj), many_N h.1.2.2.1 (smo_lt _ _), onV_ok, onV_thr, onI_ok, onI_thr, onL_ok, onL_thr, Option.bind_some, c10, c00, cl0, cl1, cl2, cl3, e1a, e1b, e1c, e2a, e2b, e2c, e3a, e3b, e3c, inb0, ix0, if_true, if_false, reduceIte]
theorem cs_slack (h : Inv M) (v1 v2 v3 : Int32) : CsI (d_L_slack v1 v2 v3) (d_X8_slack v1 v2 v3) M := by
  obtain ⟨m, n, c, a, r, q, p, w, h⟩ := h
  have hc := h.2.2.1.1
  have hN := h.1.2.2.1
  rcases nIx v1 (show c < 2147483648 by omega) with b1 | ⟨i, hi, rfl⟩
  · exact CsI.thr h 1 0 (by decide) (by simp only [d_L_slack, d_X7_slack, needSet_bad h b1, onV_ok, onV_thr, onI_ok, onI_thr, onL_ok, onL_thr, Option.bind_some, c10, c00, cl0, cl1, cl2, cl3, e1a, e1b, e1c, e2a, e2b, e2c, e3a, e3b, e3c, inb0, ix0, if_true, if_false, reduceIte]) (by simp only [d_X8_slack, isSet_bad h b1, onV_ok, onV_thr, onI_ok, onI_thr, onL_ok, onL_thr, Option.bind_some, c10, c00, cl0, cl1, cl2, cl3, e1a, e1b, e1c, e2a, e2b, e2c, e3a, e3b, e3c, inb0, ix0, if_true, if_false, reduceIte])
  rcases nIx v2 (show c < 2147483648 by omega) with b2 | ⟨j, hj, rfl⟩
  · exact CsI.thr h 1 0 (by decide) (by simp only [d_L_slack, d_X7_slack, needSet_ok h hi, needSet_bad h b2, onV_ok, onV_thr, onI_ok, onI_thr, onL_ok, onL_thr, Option.bind_some, c10, c00, cl0, cl1, cl2, cl3, e1a, e1b, e1c, e2a, e2b, e2c, e3a, e3b, e3c, inb0, ix0, if_true, if_false, reduceIte]) (by simp only [d_X8_slack, isSet_ok h hi, isSet_bad h b2, onV_ok, onV_thr, onI_ok, onI_thr, onL_ok, onL_thr, Option.bind_some, c10, c00, cl0, cl1, cl2, cl3, e1a, e1b, e1c, e2a, e2b, e2c, e3a, e3b, e3c, inb0, ix0, if_true, if_false, reduceIte])
  rcases nIx v3 (show c < 2147483648 by omega) with b3 | ⟨k, hk, rfl⟩
  · exact CsI.thr h 1 0 (by decide) (by simp only [d_L_slack, d_X7_slack, needSet_ok h hi, needSet_ok h hj, needSet_bad h b3, onV_ok, onV_thr, onI_ok, onI_thr, onL_ok, onL_thr, Option.bind_some, c10, c00, cl0, cl1, cl2, cl3, e1a, e1b, e1c, e2a, e2b, e2c, e3a, e3b, e3c, inb0, ix0, if_true, if_false, reduceIte]) (by simp only [d_X8_slack, isSet_ok h hi, isSet_ok h hj, isSet_bad h b3, onV_ok, onV_thr, onI_ok, onI_thr, onL_ok, onL_thr, Option.bind_some, c10, c00, cl0, cl1, cl2, cl3, e1a, e1b, e1c, e2a, e2b, e2c, e3a, e3b, e3c, inb0, ix0, if_true, if_false, reduceIte])
  have bc : ∀ {x : Nat}, x < 2 ^ (m * n) → d_J13_bitCount_95d88 (ll x) = ii (sz x) := fun hx => bitCount_i (set64 hx hN)
  exact CsI.ok h (ii (sz (smo m n (a i) (mir m n (a j)))) * ii (sz (smo m n (a j) (mir m n (a k)))) - ii (sz (smo m n (a i) (mir m n (a k)))) * ii (sz (a j)))
    (by simp only [d_L_slack, d_X7_slack, needSet_ok h hi, needSet_ok h hj, needSet_ok h hk, bitsOf_ok h hi, bitsOf_ok h hj, bitsOf_ok h hk, differenceOf_i h.1 (set_lt h hi) (set_lt h hj), differenceOf_i h.1 (set_lt h hj) (set_lt h hk), differenceOf_i h.1 (set_lt h hi) (set_lt h hk), bc (smo_lt _ _), bc (set_lt h hj), onV_ok, onV_thr, onI_ok, onI_thr, onL_ok, onL_thr, Option.bind_some, c10, c00, cl0, cl1, cl2, cl3, e1a, e1b, e1c, e2a, e2b, e2c, e3a, e3b, e3c, inb0, ix0, if_true, if_false, reduceIte])
    (fun g => by simp only [d_X8_slack, isSet_ok g hi, isSet_ok g hj, isSet_ok g hk, mdifferences (g.t 0) hi hj, mdifferences (g.t 0) hj hk, mdifferences (g.t 0) hi hk, inb_ok g hj, mem_ok g hj, many_N hN (set_lt h hj), onV_ok, onV_thr, onI_ok, onI_thr, onL_ok, onL_thr, Option.bind_some, c10, c00, cl0, cl1, cl2, cl3, e1a, e1b, e1c, e2a, e2b, e2c, e3a, e3b, e3c, inb0, ix0, if_true, if_false, reduceIte])
end Cas
