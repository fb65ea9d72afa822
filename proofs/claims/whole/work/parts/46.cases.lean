/-! THE CALLS that change nothing, 2: covers, sums, orders, rules, what the house is -/
noncomputable def cvS (m n A B : Nat) : Nat → Nat × Nat
  | 0 => (0, 0)
  | k + 1 => if A.testBit k = true ∧ shf m n B k &&& (cvS m n A B k).2 = 0 then ((cvS m n A B k).1 ||| 2 ^ k, (cvS m n A B k).2 ||| shf m n B k) else cvS m n A B k
/-- a rule's answer goes through -/
def CsZ (F G : Mem → Option (Res × Mem)) (M : Mem) : Prop := ∃ (k b : Int32) (M1 M2 : Mem), F M = some (.inl (some (.int k)), M1) ∧ G M1 = some (.inl (some (.int b)), M2) ∧ M2.1 19 15 = k ∧ (k = 0 → M2.2 29 0 = if b = 0 then (0 : Int64) else 1) ∧ Inv M2
theorem CsZ.thr {F G : Mem → Option (Res × Mem)} {M : Mem} {m n c : Nat} {a : Nat → Nat} {r : Nat} {q : Nat → Nat} {p v : Nat} (h : InvP M m n c a r q p v) (k b : Int32) (hk : k ≠ 0) (hF : F M = some (.inl (some (.int k)), M)) (hG : G M = some (.inl (some (.int b)), sI M 19 15 k)) : CsZ F G M :=
  ⟨k, b, M, _, hF, hG, sI_at M 19 15 k, fun z => (hk z).elim, m, n, c, a, r, q, p, v, h.w (Wk.thr M k)⟩
theorem CsZ.ok {F G : Mem → Option (Res × Mem)} {M : Mem} {m n c : Nat} {a : Nat → Nat} {r : Nat} {q : Nat → Nat} {p v : Nat} (h : InvP M m n c a r q p v) (b : Int32) (hF : F M = some (.inl (some (.int 0)), sL M 29 0 (if b = 0 then (0 : Int64) else 1))) (hG : InvP (sL M 29 0 (if b = 0 then (0 : Int64) else 1)) m n c a r q p v → G (sL M 29 0 (if b = 0 then (0 : Int64) else 1)) = some (.inl (some (.int b)), sI (sL M 29 0 (if b = 0 then (0 : Int64) else 1)) 19 15 0)) : CsZ F G M :=
  have w := (Wk.rf M).out (if b = 0 then (0 : Int64) else 1)
  ⟨0, b, _, _, hF, hG (h.w w), sI_at _ 19 15 0, fun _ => sL_at M 29 0 _, m, n, c, a, r, q, p, v, h.w (w.thr2 0)⟩
theorem b_t : ((if true = true then (1 : Int32) else 0) = 0) = False := eq_false (by decide)
theorem b_f : ((if false = true then (1 : Int32) else 0) = 0) = True := eq_true (by decide)
section Cas
variable {M : Mem} {m n c : Nat} {a : Nat → Nat} {r : Nat} {q : Nat → Nat} {p w : Nat}
theorem ccover (h : InvP M m n c a r q p w) {i j : Nat} (hi : i < c) (hj : j < c) : iter (g_X7_cover_1 (ii i) (ii j) M) 20000 ((0 : Int64), (0 : Int64), (0 : Int32)) = some (.inl (ll (cvS m n (a i) (a j) (m * n)).1, ll (cvS m n (a i) (a j) (m * n)).2, ii (m * n))) := by
  have hN := h.1.2.2.1
  have h2 := h.1.2.2.2.2.2.1
  refine it_full (g := g_X7_cover_1 (ii i) (ii j) M) (m * n) (fun k => (ll (cvS m n (a i) (a j) k).1, ll (cvS m n (a i) (a j) k).2, ii k)) (by omega) (fun k hk => ?_) ?_
  · unfold g_X7_cover_1
    dsimp only
    rw [h2, if_pos ((ii_lt (by omega) (by omega)).mpr hk), bitsOf_ok h hi, bitsOf_ok h hj, shifted_i h.1 (set_lt h hj) hk, bit_i (by omega), has_i (set64 (set_lt h hi) hN) (by omega), ll_and, ii_inc]
    have e : cvS m n (a i) (a j) (k + 1) = if (a i).testBit k = true ∧ shf m n (a j) k &&& (cvS m n (a i) (a j) k).2 = 0 then ((cvS m n (a i) (a j) k).1 ||| 2 ^ k, (cvS m n (a i) (a j) k).2 ||| shf m n (a j) k) else cvS m n (a i) (a j) k := rfl
    rw [e]
    cases hb : (a i).testBit k with
    | false =>
      simp only [b_f, if_true, Bool.false_eq_true, false_and, if_false]
    | true =>
      have zz := lc_z (set64 (and_lt (b := (cvS m n (a i) (a j) k).2) (shf_lt (a j) k)) hN)
      by_cases z : shf m n (a j) k &&& (cvS m n (a i) (a j) k).2 = 0
      · simp only [b_t, if_false, eq_true (zz.mpr z), if_true, eq_true z, true_and, ll_or, c10]
      · simp only [b_t, if_false, eq_false (fun y => z (zz.mp y)), eq_false z, and_false, if_true, c10]
  · unfold g_X7_cover_1
    dsimp only
    rw [h2, if_neg (by rw [ii_lt (by omega) (by omega)]; omega)]
theorem mcover (h : InvP M m n c a r q p w) {i j : Nat} (hi : i < c) (hj : j < c) : iter (g_X8_cover_1 (ii i) (ii j) M) 20000 ((0 : Int64), (0 : Int64), (0 : Int32)) = some (.inl (ll (cvS m n (a i) (a j) (m * n)).1, ll (cvS m n (a i) (a j) (m * n)).2, ii (m * n))) := by
  have hN := h.1.2.2.1
  have hm := h.1.1
  have hn := h.1.2.1
  have h2 := msize_i h.2.1
  refine it_full (g := g_X8_cover_1 (ii i) (ii j) M) (m * n) (fun k => (ll (cvS m n (a i) (a j) k).1, ll (cvS m n (a i) (a j) k).2, ii k)) (by omega) (fun k hk => ?_) ?_
  · unfold g_X8_cover_1
    dsimp only
    rw [h2, if_pos ((ii_lt (by omega) (by omega)).mpr hk), if_pos (inb_ok h hj), mem_ok h hi, mem_ok h hj, mbit_i (by omega), msumOf_i h.2.1 (Nat.pow_lt_pow_right (by decide) hk) (set_lt h hj), smo_one hm hn (set_lt h hj) hk, mhas_i (set64 (set_lt h hi) hN) (by omega), ii_inc]
    show (if inb (ii i) 30 = true then some (Sum.inl ((if (if (a i).testBit k = true then (1 : Int32) else 0) = 0 then ll _ else (if lg_cmp (ll _ &&& ll _) 0 = 0 then _ else ll _)), (if (if (a i).testBit k = true then (1 : Int32) else 0) = 0 then ll _ else (if lg_cmp (ll _ &&& ll _) 0 = 0 then _ else ll _)), _)) else none) = _
    rw [if_pos (inb_ok h hi), ll_and]
    have e : cvS m n (a i) (a j) (k + 1) = if (a i).testBit k = true ∧ shf m n (a j) k &&& (cvS m n (a i) (a j) k).2 = 0 then ((cvS m n (a i) (a j) k).1 ||| 2 ^ k, (cvS m n (a i) (a j) k).2 ||| shf m n (a j) k) else cvS m n (a i) (a j) k := rfl
    rw [e]
    cases hb : (a i).testBit k with
    | false =>
      simp only [b_f, if_true, Bool.false_eq_true, false_and, if_false]
    | true =>
      have zz := lc_z (set64 (and_lt (b := (cvS m n (a i) (a j) k).2) (shf_lt (a j) k)) hN)
      by_cases z : shf m n (a j) k &&& (cvS m n (a i) (a j) k).2 = 0
      · simp only [b_t, if_false, eq_true (zz.mpr z), if_true, eq_true z, true_and, ll_or, c10]
      · simp only [b_t, if_false, eq_false (fun y => z (zz.mp y)), eq_false z, and_false, if_true, c10]
  · unfold g_X8_cover_1
    dsimp only
    rw [h2, if_neg (by rw [ii_lt (by omega) (by omega)]; omega)]
theorem cs_cover (h : Inv M) (v1 v2 : Int32) : CsL (d_L_cover v1 v2) (d_X8_cover v1 v2) M := by
  obtain ⟨m, n, c, a, r, q, p, w, h⟩ := h
  have hc := h.2.2.1.1
  rcases nIx v1 (show c < 2147483648 by omega) with b1 | ⟨i, hi, rfl⟩
  · exact CsL.thr h 1 0 (by decide) (by simp only [d_L_cover, d_X7_cover, needSet_bad h b1, onV_ok, onV_thr, onI_ok, onI_thr, onL_ok, onL_thr, Option.bind_some, c10, c00, cl0, cl1, cl2, cl3, e1a, e1b, e1c, e2a, e2b, e2c, e3a, e3b, e3c, inb0, ix0, if_true, if_false, reduceIte]) (by simp only [d_X8_cover, areSets_b1 h v2 b1, onV_ok, onV_thr, onI_ok, onI_thr, onL_ok, onL_thr, Option.bind_some, c10, c00, cl0, cl1, cl2, cl3, e1a, e1b, e1c, e2a, e2b, e2c, e3a, e3b, e3c, inb0, ix0, if_true, if_false, reduceIte])
  rcases nIx v2 (show c < 2147483648 by omega) with b2 | ⟨j, hj, rfl⟩
  · exact CsL.thr h 1 0 (by decide) (by simp only [d_L_cover, d_X7_cover, needSet_ok h hi, needSet_bad h b2, onV_ok, onV_thr, onI_ok, onI_thr, onL_ok, onL_thr, Option.bind_some, c10, c00, cl0, cl1, cl2, cl3, e1a, e1b, e1c, e2a, e2b, e2c, e3a, e3b, e3c, inb0, ix0, if_true, if_false, reduceIte]) (by simp only [d_X8_cover, areSets_b2 h hi b2, onV_ok, onV_thr, onI_ok, onI_thr, onL_ok, onL_thr, Option.bind_some, c10, c00, cl0, cl1, cl2, cl3, e1a, e1b, e1c, e2a, e2b, e2c, e3a, e3b, e3c, inb0, ix0, if_true, if_false, reduceIte])
  exact CsL.ok h (ll (cvS m n (a i) (a j) (m * n)).1) (by simp only [d_L_cover, d_X7_cover, needSet_ok h hi, needSet_ok h hj, ccover h hi hj, onIt, onV_ok, onV_thr, onI_ok, onI_thr, onL_ok, onL_thr, Option.bind_some, c10, c00, cl0, cl1, cl2, cl3, e1a, e1b, e1c, e2a, e2b, e2c, e3a, e3b, e3c, inb0, ix0, if_true, if_false, reduceIte]) (fun g => by simp only [d_X8_cover, areSets_ok g hi hj, mcover (g.t 0) hi hj, onIt, onV_ok, onV_thr, onI_ok, onI_thr, onL_ok, onL_thr, Option.bind_some, c10, c00, cl0, cl1, cl2, cl3, e1a, e1b, e1c, e2a, e2b, e2c, e3a, e3b, e3c, inb0, ix0, if_true, if_false, reduceIte])
/-! sums of so many -/
theorem csums (h : InvP M m n c a r q p w) {i l : Nat} (hi : i < c) (h1 : 1 ≤ l) (h2 : l ≤ 100) : iter (g_X7_sums_1 (ii i) (ii l) M) 20000 (d_X7_bitsOf (ii i) M, (1 : Int32)) = some (.inl (ll (hs m n (a i) (l - 1)), ii l)) := by
  have e : (d_X7_bitsOf (ii i) M, (1 : Int32)) = (ll (hs m n (a i) 0), ii (0 + 1)) := by rw [bitsOf_ok h hi]; rfl
  rw [e]
  refine it_full (g := g_X7_sums_1 (ii i) (ii l) M) (l - 1) (fun k => (ll (hs m n (a i) k), ii (k + 1))) (by omega) (fun k hk => ?_) ?_
  · unfold g_X7_sums_1
    dsimp only
    rw [if_pos ((ii_lt (by omega) (by omega)).mpr (by omega)), bitsOf_ok h hi, sumOf_i h.1 (hs_lt (set_lt h hi) k) (set_lt h hi), ii_inc]
    rfl
  · unfold g_X7_sums_1
    dsimp only
    rw [if_neg (by rw [ii_lt (by omega) (by omega)]; omega), Nat.sub_add_cancel h1]
theorem msums (h : InvP M m n c a r q p w) {i l : Nat} (hi : i < c) (h1 : 1 ≤ l) (h2 : l ≤ 100) : d_X8_sumsOf (ll (a i)) (ii l) M = some (ll (hs m n (a i) (l - 1))) := by
  unfold d_X8_sumsOf
  have e : (ll (a i), (1 : Int32)) = (ll (hs m n (a i) 0), ii (0 + 1)) := rfl
  rw [e, it_full (g := g_X8_sumsOf_1 (ll (a i)) (ii l) M) (l - 1) (fun k => (ll (hs m n (a i) k), ii (k + 1))) (b := .inl (ll (hs m n (a i) (l - 1)), ii l)) (by omega) ?_ ?_]
  · rfl
  · intro k hk
    unfold g_X8_sumsOf_1
    dsimp only
    rw [if_pos ((ii_lt (by omega) (by omega)).mpr (by omega)), msumOf_i h.2.1 (hs_lt (set_lt h hi) k) (set_lt h hi), ii_inc]
    rfl
  · unfold g_X8_sumsOf_1
    dsimp only
    rw [if_neg (by rw [ii_lt (by omega) (by omega)]; omega), Nat.sub_add_cancel h1]
theorem cs_sums (h : Inv M) (v1 v2 : Int32) : CsL (d_L_sums v1 v2) (d_X8_sums v1 v2) M := by
  obtain ⟨m, n, c, a, r, q, p, w, h⟩ := h
  have hc := h.2.2.1.1
  rcases nIx v1 (show c < 2147483648 by omega) with b1 | ⟨i, hi, rfl⟩
  · exact CsL.thr h 1 0 (by decide) (by simp only [d_L_sums, d_X7_sums, needSet_bad h b1, onV_ok, onV_thr, onI_ok, onI_thr, onL_ok, onL_thr, Option.bind_some, c10, c00, cl0, cl1, cl2, cl3, e1a, e1b, e1c, e2a, e2b, e2c, e3a, e3b, e3c, inb0, ix0, if_true, if_false, reduceIte]) (by simp only [d_X8_sums, isSet_bad h b1, onV_ok, onV_thr, onI_ok, onI_thr, onL_ok, onL_thr, Option.bind_some, c10, c00, cl0, cl1, cl2, cl3, e1a, e1b, e1c, e2a, e2b, e2c, e3a, e3b, e3c, inb0, ix0, if_true, if_false, reduceIte])
  rcases inR (1 : Int32) v2 (100 : Int32) with ⟨r1, r2⟩ | ⟨r1, r2, r3, r4⟩
  · exact CsL.thr h 2 0 (by decide) (by simp only [d_L_sums, d_X7_sums, needSet_ok h hi, r1, onV_ok, onV_thr, onI_ok, onI_thr, onL_ok, onL_thr, Option.bind_some, c10, c00, cl0, cl1, cl2, cl3, e1a, e1b, e1c, e2a, e2b, e2c, e3a, e3b, e3c, inb0, ix0, if_true, if_false, reduceIte]) (by simp only [d_X8_sums, isSet_ok h hi, r2, onV_ok, onV_thr, onI_ok, onI_thr, onL_ok, onL_thr, Option.bind_some, c10, c00, cl0, cl1, cl2, cl3, e1a, e1b, e1c, e2a, e2b, e2c, e3a, e3b, e3c, inb0, ix0, if_true, if_false, reduceIte])
  obtain ⟨l, rfl, hl1, hl2⟩ := rngN (lo := 1) (hi := 100) (by decide) (by decide) r3 r4
  exact CsL.ok h (ll (hs m n (a i) (l - 1))) (by simp only [d_L_sums, d_X7_sums, needSet_ok h hi, r1, csums h hi hl1 hl2, onIt, onV_ok, onV_thr, onI_ok, onI_thr, onL_ok, onL_thr, Option.bind_some, c10, c00, cl0, cl1, cl2, cl3, e1a, e1b, e1c, e2a, e2b, e2c, e3a, e3b, e3c, inb0, ix0, if_true, if_false, reduceIte]) (fun g => by simp only [d_X8_sums, isSet_ok g hi, r2, inb_ok g hi, mem_ok g hi, msums (g.t 0) hi hl1 hl2, onV_ok, onV_thr, onI_ok, onI_thr, onL_ok, onL_thr, Option.bind_some, c10, c00, cl0, cl1, cl2, cl3, e1a, e1b, e1c, e2a, e2b, e2c, e3a, e3b, e3c, inb0, ix0, if_true, if_false, reduceIte])
/-! orders -/
theorem IsOrd.neg (hN : m * n ≤ 36) {x : Nat} {v : Int32} (h : IsOrd m n x v) : v = (-1 : Int32) ↔ ∀ k, hs m n x k ≠ 2 ^ (m * n) - 1 := by
  rcases h with ⟨k, rfl, h1, h2, h3⟩ | ⟨rfl, h1⟩
  · constructor
    · intro z
      rw [show (-1 : Int32) = zi (-1) from rfl, ← zi_ii, zi_eq (by omega) (by omega) (by decide) (by decide)] at z
      omega
    · intro z; exact absurd h2 (z k)
  · exact ⟨fun _ => h1, fun _ => rfl⟩
theorem cs_order (h : Inv M) (v1 : Int32) : CsI (d_L_order v1) (d_X8_order v1) M := by
  obtain ⟨m, n, c, a, r, q, p, w, h⟩ := h
  have hc := h.2.2.1.1
  rcases nIx v1 (show c < 2147483648 by omega) with b1 | ⟨i, hi, rfl⟩
  · exact CsI.thr h 1 0 (by decide) (by simp only [d_L_order, d_X7_order, needSet_bad h b1, onV_ok, onV_thr, onI_ok, onI_thr, onL_ok, onL_thr, Option.bind_some, c10, c00, cl0, cl1, cl2, cl3, e1a, e1b, e1c, e2a, e2b, e2c, e3a, e3b, e3c, inb0, ix0, if_true, if_false, reduceIte]) (by simp only [d_X8_order, isSet_bad h b1, onV_ok, onV_thr, onI_ok, onI_thr, onL_ok, onL_thr, Option.bind_some, c10, c00, cl0, cl1, cl2, cl3, e1a, e1b, e1c, e2a, e2b, e2c, e3a, e3b, e3c, inb0, ix0, if_true, if_false, reduceIte])
  obtain ⟨o, o1, o2⟩ := orderOf_i h.1 (set_lt h hi)
  refine CsI.ok h o (by simp only [d_L_order, d_X7_order, needSet_ok h hi, bitsOf_ok h hi, o1, onV_ok, onV_thr, onI_ok, onI_thr, onL_ok, onL_thr, Option.bind_some, c10, c00, cl0, cl1, cl2, cl3, e1a, e1b, e1c, e2a, e2b, e2c, e3a, e3b, e3c, inb0, ix0, if_true, if_false, reduceIte]) (fun g => ?_)
  obtain ⟨o', o1', o2'⟩ := morderOf_i (g.t 0).2.1 (set_lt h hi)
  rw [o2'.one o2] at o1'
  simp only [d_X8_order, isSet_ok g hi, inb_ok g hi, mem_ok g hi, o1', onV_ok, onV_thr, onI_ok, onI_thr, onL_ok, onL_thr, Option.bind_some, c10, c00, cl0, cl1, cl2, cl3, e1a, e1b, e1c, e2a, e2b, e2c, e3a, e3b, e3c, inb0, ix0, if_true, if_false, reduceIte]
noncomputable def essS (m n x : Nat) : Nat := st (m * n) (fun e => x.testBit e = true ∧ (¬ ∀ k, hs m n x k ≠ 2 ^ (m * n) - 1) ∧ ∀ k, hs m n (x &&& (2 ^ e ^^^ (2 ^ 64 - 1))) k ≠ 2 ^ (m * n) - 1)
theorem cess (h : InvP M m n c a r q p w) {i : Nat} (hi : i < c) (ho : ¬ ∀ k, hs m n (a i) k ≠ 2 ^ (m * n) - 1) : iter (g_X7_essential_1 (ii i) M) 20000 ((0 : Int64), (0 : Int32)) = some (.inl (ll (essS m n (a i)), ii (m * n))) := by
  have hN := h.1.2.2.1
  have h2 := h.1.2.2.2.2.2.1
  refine up_set hN (fun e => (a i).testBit e = true ∧ (¬ ∀ k, hs m n (a i) k ≠ 2 ^ (m * n) - 1) ∧ ∀ k, hs m n (a i &&& (2 ^ e ^^^ (2 ^ 64 - 1))) k ≠ 2 ^ (m * n) - 1) ?_ ?_
  · intro k mk hk
    unfold g_X7_essential_1
    dsimp only
    rw [h2, if_pos ((ii_lt (by omega) (by omega)).mpr hk), bitsOf_ok h hi, has_i (set64 (set_lt h hi) hN) (by omega), bit_i (by omega), ll_not, ll_and, ii_inc]
    cases hb : (a i).testBit k with
    | false => rw [if_pos (by decide), if_neg (fun z => by cases z.1), Nat.or_zero]
    | true =>
      obtain ⟨o, o1, o2⟩ := orderOf_i h.1 (and_lt (b := 2 ^ k ^^^ (2 ^ 64 - 1)) (set_lt h hi))
      rw [if_neg (by decide), o1]
      show some (Sum.inl ((if o = (-1 : Int32) then ll mk ||| ll _ else ll mk), _)) = _
      by_cases z : o = (-1 : Int32)
      · rw [if_pos z, if_pos ⟨rfl, ho, (o2.neg hN).mp z⟩, ll_or]
      · rw [if_neg z, if_neg (fun y => z ((o2.neg hN).mpr y.2.2)), Nat.or_zero]
  · unfold g_X7_essential_1
    dsimp only
    rw [h2, if_neg (by rw [ii_lt (by omega) (by omega)]; omega)]
    rfl
theorem mess (h : InvP M m n c a r q p w) {i : Nat} (hi : i < c) : iter (g_X8_essential_1 (ii i) M) 20000 ((0 : Int64), (0 : Int32)) = some (.inl (ll (essS m n (a i)), ii (m * n))) := by
  have hN := h.1.2.2.1
  have h2 := msize_i (h.t 0).2.1
  refine up_set hN (fun e => (a i).testBit e = true ∧ (¬ ∀ k, hs m n (a i) k ≠ 2 ^ (m * n) - 1) ∧ ∀ k, hs m n (a i &&& (2 ^ e ^^^ (2 ^ 64 - 1))) k ≠ 2 ^ (m * n) - 1) ?_ ?_
  · intro k mk hk
    obtain ⟨o, o1, o2⟩ := morderOf_i (h.t 0).2.1 (set_lt h hi)
    obtain ⟨o', o1', o2'⟩ := morderOf_i (h.t 0).2.1 (and_lt (b := 2 ^ k ^^^ (2 ^ 64 - 1)) (set_lt h hi))
    simp only [g_X8_essential_1, isSet_ok h hi, inb_ok h hi, mem_ok h hi, o1, mbit_i (show k < 64 by omega), ll_not, ll_and, o1', mhas_i (set64 (set_lt h hi) hN) (show k < 64 by omega), onV_ok, onV_thr, onI_ok, onI_thr, onL_ok, onL_thr, Option.bind_some, c10, c00, cl0, cl1, cl2, cl3, e1a, e1b, e1c, e2a, e2b, e2c, e3a, e3b, e3c, inb0, ix0, if_true, if_false, reduceIte]
    rw [h2, if_pos ((ii_lt (by omega) (by omega)).mpr hk), ii_inc, ll_0, ll_or, Nat.or_zero]
    cases hb : (a i).testBit k with
    | false => rw [if_pos (by decide), if_neg (fun z => by cases z.1), Nat.or_zero]
    | true =>
      rw [if_neg (by decide)]
      by_cases z : o = (-1 : Int32)
      · rw [if_pos z, if_pos rfl, if_neg (fun y => y.2.1 ((o2.neg hN).mp z)), Nat.or_zero]
      · rw [if_neg z, if_neg (by decide)]
        by_cases z' : o' = (-1 : Int32)
        · rw [if_pos z', if_pos ⟨rfl, fun y => z ((o2.neg hN).mpr y), (o2'.neg hN).mp z'⟩, ll_or]
        · rw [if_neg z', if_neg (fun y => z' ((o2'.neg hN).mpr y.2.2)), ll_or]
  · simp only [g_X8_essential_1, isSet_ok h hi, onV_ok, onV_thr, onI_ok, onI_thr, onL_ok, onL_thr, Option.bind_some, c10, c00, cl0, cl1, cl2, cl3, e1a, e1b, e1c, e2a, e2b, e2c, e3a, e3b, e3c, inb0, ix0, if_true, if_false, reduceIte]
    rw [h2, if_neg (by rw [ii_lt (by omega) (by omega)]; omega)]
    rfl
theorem mess_thr {v1 : Int32} (e : d_X8_isSet v1 M = 0) : d_X8_essential v1 M = some (.inl (some (.long 0)), sI M 19 15 1) := by
  have e' : (if d_X8_isSet v1 M = 0 then (1 : Int32) else 0) = 1 := if_pos e
  unfold d_X8_essential
  rw [iter1 (b := .inl ((0 : Int64), (0 : Int32))), e']
  · rfl
  · unfold g_X8_essential_1
    dsimp only
    rw [e', if_neg (by decide : ¬ (1 : Int32) = 0)]
    split <;> rfl
theorem cs_essential (h : Inv M) (v1 : Int32) : CsL (d_L_essential v1) (d_X8_essential v1) M := by
  obtain ⟨m, n, c, a, r, q, p, w, h⟩ := h
  have hc := h.2.2.1.1
  have hN := h.1.2.2.1
  rcases nIx v1 (show c < 2147483648 by omega) with b1 | ⟨i, hi, rfl⟩
  · exact CsL.thr h 1 0 (by decide) (by simp only [d_L_essential, d_X7_essential, needSet_bad h b1, onV_ok, onV_thr, onI_ok, onI_thr, onL_ok, onL_thr, Option.bind_some, c10, c00, cl0, cl1, cl2, cl3, e1a, e1b, e1c, e2a, e2b, e2c, e3a, e3b, e3c, inb0, ix0, if_true, if_false, reduceIte]) (mess_thr (isSet_bad h b1))
  obtain ⟨o, o1, o2⟩ := orderOf_i h.1 (set_lt h hi)
  refine CsL.ok h (ll (essS m n (a i))) ?_ (fun g => by simp only [d_X8_essential, mess g hi, isSet_ok g hi, onIt, onV_ok, onV_thr, onI_ok, onI_thr, onL_ok, onL_thr, Option.bind_some, c10, c00, cl0, cl1, cl2, cl3, e1a, e1b, e1c, e2a, e2b, e2c, e3a, e3b, e3c, inb0, ix0, if_true, if_false, reduceIte])
  by_cases z : o = (-1 : Int32)
  · have e0 : essS m n (a i) = 0 := st_false fun e _ y => y.2.1 ((o2.neg hN).mp z)
    simp only [d_L_essential, d_X7_essential, needSet_ok h hi, bitsOf_ok h hi, o1, if_pos z, e0, onV_ok, onV_thr, onI_ok, onI_thr, onL_ok, onL_thr, Option.bind_some, c10, c00, cl0, cl1, cl2, cl3, e1a, e1b, e1c, e2a, e2b, e2c, e3a, e3b, e3c, inb0, ix0, if_true, if_false, reduceIte]
    rfl
  · simp only [d_L_essential, d_X7_essential, needSet_ok h hi, bitsOf_ok h hi, o1, if_neg z, cess h hi (fun y => z ((o2.neg hN).mpr y)), onIt, onV_ok, onV_thr, onI_ok, onI_thr, onL_ok, onL_thr, Option.bind_some, c10, c00, cl0, cl1, cl2, cl3, e1a, e1b, e1c, e2a, e2b, e2c, e3a, e3b, e3c, inb0, ix0, if_true, if_false, reduceIte]
/-! rules -/
theorem cs_keeps (h : Inv M) (v1 v2 : Int32) : CsZ (d_L_keeps v1 v2) (d_X8_keeps v1 v2) M := by
  obtain ⟨m, n, c, a, r, q, p, w, h⟩ := h
  have hc := h.2.2.1.1
  rcases nIx v1 (show c < 2147483648 by omega) with b1 | ⟨i, hi, rfl⟩
  · exact CsZ.thr h 1 0 (by decide) (by simp only [d_L_keeps, d_X7_keeps, needSet_bad h b1, onV_ok, onV_thr, onI_ok, onI_thr, onL_ok, onL_thr, Option.bind_some, c10, c00, cl0, cl1, cl2, cl3, e1a, e1b, e1c, e2a, e2b, e2c, e3a, e3b, e3c, inb0, ix0, if_true, if_false, reduceIte]) (by simp only [d_X8_keeps, isSet_bad h b1, onV_ok, onV_thr, onI_ok, onI_thr, onL_ok, onL_thr, Option.bind_some, c10, c00, cl0, cl1, cl2, cl3, e1a, e1b, e1c, e2a, e2b, e2c, e3a, e3b, e3c, inb0, ix0, if_true, if_false, reduceIte])
  rcases inR (0 : Int32) v2 (3 : Int32) with ⟨r1, r2⟩ | ⟨r1, r2, r3, r4⟩
  · exact CsZ.thr h 1 0 (by decide) (by simp only [d_L_keeps, d_X7_keeps, d_X7_needRule, needSet_ok h hi, r1, onV_ok, onV_thr, onI_ok, onI_thr, onL_ok, onL_thr, Option.bind_some, c10, c00, cl0, cl1, cl2, cl3, e1a, e1b, e1c, e2a, e2b, e2c, e3a, e3b, e3c, inb0, ix0, if_true, if_false, reduceIte]) (by simp only [d_X8_keeps, d_X8_isRule, isSet_ok h hi, r2, zero1, onV_ok, onV_thr, onI_ok, onI_thr, onL_ok, onL_thr, Option.bind_some, c10, c00, cl0, cl1, cl2, cl3, e1a, e1b, e1c, e2a, e2b, e2c, e3a, e3b, e3c, inb0, ix0, if_true, if_false, reduceIte])
  obtain ⟨l, rfl, hl1, hl2⟩ := rngN (lo := 0) (hi := 3) (by decide) (by decide) r3 r4
  refine CsZ.ok h (bI (Keep m n l (a i))) (by simp only [d_L_keeps, d_X7_keeps, d_X7_needRule, needSet_ok h hi, r1, bitsOf_ok h hi, hold_i h.1 (show l < 4 by omega) (set_lt h hi), bI_one, onV_ok, onV_thr, onI_ok, onI_thr, onL_ok, onL_thr, Option.bind_some, c10, c00, cl0, cl1, cl2, cl3, e1a, e1b, e1c, e2a, e2b, e2c, e3a, e3b, e3c, inb0, ix0, if_true, if_false, reduceIte]) (fun g => ?_)
  simp only [d_X8_keeps, d_X8_isRule, isSet_ok g hi, r2, one1, inb_ok g hi, mem_ok g hi, keepsRule_i (g.t 0).2.1 (show l < 4 by omega) (set_lt h hi), onV_ok, onV_thr, onI_ok, onI_thr, onL_ok, onL_thr, Option.bind_some, c10, c00, cl0, cl1, cl2, cl3, e1a, e1b, e1c, e2a, e2b, e2c, e3a, e3b, e3c, inb0, ix0, if_true, if_false, reduceIte]
  by_cases z : Keep m n l (a i)
  · rw [bI_t z, if_neg (by decide)]
  · rw [bI_f z, if_pos rfl]
/-! what the house is -/
theorem cs_of (h : Inv M) (v1 : Int32) : CsI (d_L_of v1) (d_X8_of v1) M := by
  obtain ⟨m, n, c, a, r, q, p, w, h⟩ := h
  obtain ⟨hg, hmi, hs', hr, ht⟩ := id h
  rcases inR (0 : Int32) v1 (4 : Int32) with ⟨r1, r2⟩ | ⟨r1, r2, r3, r4⟩
  · have n0 : ¬ v1 = 0 := fun z => by subst z; revert r1; decide
    have n1 : ¬ v1 = 1 := fun z => by subst z; revert r1; decide
    have n2 : ¬ v1 = 2 := fun z => by subst z; revert r1; decide
    have n3 : ¬ v1 = 3 := fun z => by subst z; revert r1; decide
    have n4 : ¬ v1 = 4 := fun z => by subst z; revert r1; decide
    exact CsI.thr h 1 0 (by decide) (by simp only [d_L_of, d_X7_of, if_neg n0, if_neg n1, if_neg n2, if_neg n3, if_neg n4, onV_ok, onV_thr, onI_ok, onI_thr, onL_ok, onL_thr, Option.bind_some, c10, c00, cl0, cl1, cl2, cl3, e1a, e1b, e1c, e2a, e2b, e2c, e3a, e3b, e3c, inb0, ix0, if_true, if_false, reduceIte]) (by simp only [d_X8_of, r2, onV_ok, onV_thr, onI_ok, onI_thr, onL_ok, onL_thr, Option.bind_some, c10, c00, cl0, cl1, cl2, cl3, e1a, e1b, e1c, e2a, e2b, e2c, e3a, e3b, e3c, inb0, ix0, if_true, if_false, reduceIte])
  obtain ⟨l, rfl, hl1, hl2⟩ := rngN (lo := 0) (hi := 4) (by decide) (by decide) r3 r4
  have d1 : ¬ ii 1 = (0 : Int32) := by decide
  have d2 : ¬ ii 2 = (0 : Int32) ∧ ¬ ii 2 = (1 : Int32) := by decide
  have d3 : ¬ ii 3 = (0 : Int32) ∧ ¬ ii 3 = (1 : Int32) ∧ ¬ ii 3 = (2 : Int32) := by decide
  have d4 : ¬ ii 4 = (0 : Int32) ∧ ¬ ii 4 = (1 : Int32) ∧ ¬ ii 4 = (2 : Int32) ∧ ¬ ii 4 = (3 : Int32) := by decide
  match l, hl2 with
  | 0, _ => exact CsI.ok h (ii m) (by simp only [d_L_of, d_X7_of, if_pos (show ii 0 = (0 : Int32) from rfl), hg.2.2.2.1, onV_ok, onV_thr, onI_ok, onI_thr, onL_ok, onL_thr, Option.bind_some, c10, c00, cl0, cl1, cl2, cl3, e1a, e1b, e1c, e2a, e2b, e2c, e3a, e3b, e3c, inb0, ix0, if_true, if_false, reduceIte]) (fun g => by simp only [d_X8_of, r2, if_pos (show ii 0 = (0 : Int32) from rfl), g.2.1.2.2.2.1, onV_ok, onV_thr, onI_ok, onI_thr, onL_ok, onL_thr, Option.bind_some, c10, c00, cl0, cl1, cl2, cl3, e1a, e1b, e1c, e2a, e2b, e2c, e3a, e3b, e3c, inb0, ix0, if_true, if_false, reduceIte])
  | 1, _ => exact CsI.ok h (ii n) (by simp only [d_L_of, d_X7_of, if_neg d1, if_pos (show ii 1 = (1 : Int32) from rfl), hg.2.2.2.2.1, onV_ok, onV_thr, onI_ok, onI_thr, onL_ok, onL_thr, Option.bind_some, c10, c00, cl0, cl1, cl2, cl3, e1a, e1b, e1c, e2a, e2b, e2c, e3a, e3b, e3c, inb0, ix0, if_true, if_false, reduceIte]) (fun g => by simp only [d_X8_of, r2, if_neg d1, if_pos (show ii 1 = (1 : Int32) from rfl), g.2.1.2.2.2.2, onV_ok, onV_thr, onI_ok, onI_thr, onL_ok, onL_thr, Option.bind_some, c10, c00, cl0, cl1, cl2, cl3, e1a, e1b, e1c, e2a, e2b, e2c, e3a, e3b, e3c, inb0, ix0, if_true, if_false, reduceIte])
  | 2, _ => exact CsI.ok h (ii c) (by simp only [d_L_of, d_X7_of, if_neg d2.1, if_neg d2.2, if_pos (show ii 2 = (2 : Int32) from rfl), hs'.2.1, onV_ok, onV_thr, onI_ok, onI_thr, onL_ok, onL_thr, Option.bind_some, c10, c00, cl0, cl1, cl2, cl3, e1a, e1b, e1c, e2a, e2b, e2c, e3a, e3b, e3c, inb0, ix0, if_true, if_false, reduceIte]) (fun g => by simp only [d_X8_of, r2, if_neg d2.1, if_neg d2.2, if_pos (show ii 2 = (2 : Int32) from rfl), g.2.2.1.2.2.1, onV_ok, onV_thr, onI_ok, onI_thr, onL_ok, onL_thr, Option.bind_some, c10, c00, cl0, cl1, cl2, cl3, e1a, e1b, e1c, e2a, e2b, e2c, e3a, e3b, e3c, inb0, ix0, if_true, if_false, reduceIte])
  | 3, _ => exact CsI.ok h (ii r) (by simp only [d_L_of, d_X7_of, if_neg d3.1, if_neg d3.2.1, if_neg d3.2.2, if_pos (show ii 3 = (3 : Int32) from rfl), hr.2.1, onV_ok, onV_thr, onI_ok, onI_thr, onL_ok, onL_thr, Option.bind_some, c10, c00, cl0, cl1, cl2, cl3, e1a, e1b, e1c, e2a, e2b, e2c, e3a, e3b, e3c, inb0, ix0, if_true, if_false, reduceIte]) (fun g => by simp only [d_X8_of, r2, if_neg d3.1, if_neg d3.2.1, if_neg d3.2.2, if_pos (show ii 3 = (3 : Int32) from rfl), g.2.2.2.1.2.2.1, onV_ok, onV_thr, onI_ok, onI_thr, onL_ok, onL_thr, Option.bind_some, c10, c00, cl0, cl1, cl2, cl3, e1a, e1b, e1c, e2a, e2b, e2c, e3a, e3b, e3c, inb0, ix0, if_true, if_false, reduceIte])
  | 4, _ => exact CsI.ok h (ii p) (by simp only [d_L_of, d_X7_of, if_neg d4.1, if_neg d4.2.1, if_neg d4.2.2.1, if_neg d4.2.2.2, if_pos (show ii 4 = (4 : Int32) from rfl), ht.1, onV_ok, onV_thr, onI_ok, onI_thr, onL_ok, onL_thr, Option.bind_some, c10, c00, cl0, cl1, cl2, cl3, e1a, e1b, e1c, e2a, e2b, e2c, e3a, e3b, e3c, inb0, ix0, if_true, if_false, reduceIte]) (fun g => by simp only [d_X8_of, r2, if_neg d4.1, if_neg d4.2.1, if_neg d4.2.2.1, if_neg d4.2.2.2, g.2.2.2.2.2.1, onV_ok, onV_thr, onI_ok, onI_thr, onL_ok, onL_thr, Option.bind_some, c10, c00, cl0, cl1, cl2, cl3, e1a, e1b, e1c, e2a, e2b, e2c, e3a, e3b, e3c, inb0, ix0, if_true, if_false, reduceIte])
end Cas
