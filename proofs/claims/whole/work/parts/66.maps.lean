/-! MAPS AND IMAGES -/
section Maps
variable {M : Mem} {m n c : Nat} {a : Nat → Nat} {r : Nat} {q : Nat → Nat} {p w : Nat}
theorem pc_one {N x : Nat} (h : x < 2 ^ N) (h0 : x ≠ 0) : 1 ≤ pc x.testBit N := by
  refine Nat.pos_of_ne_zero fun z => h0 (Nat.eq_of_testBit_eq fun i => ?_)
  rw [Nat.zero_testBit]
  by_cases d : i < N
  · exact pc_zero.mp z i d
  · exact tB_hi h (by omega)
theorem ord_of {v : Int32} (h1 : (2 : Int32) ≤ v) (h2 : v ≤ (3 : Int32)) : ∃ r, (r = 2 ∨ r = 3) ∧ v = ii r := by
  have hv : ¬ v < 0 := fun z => by
    have a1 := Int32.le_iff_toInt_le.mp h1
    have a2 := Int32.lt_iff_toInt_lt.mp z
    have a3 : (2 : Int32).toInt = 2 := by decide
    have a4 : (0 : Int32).toInt = 0 := by decide
    omega
  obtain ⟨x, hx, rfl⟩ := ii_of hv
  rw [show (2 : Int32) = ii 2 from rfl, ii_le (by decide) hx] at h1
  rw [show (3 : Int32) = ii 3 from rfl, ii_le hx (by decide)] at h2
  exact ⟨x, by omega, rfl⟩
theorem nmap_r {v1 v2 v3 : Int32} (e : d_X7_isFrom (2 : Int32) v3 (3 : Int32) = 0) : d_X7_needMappable v1 v2 v3 M = some (.inr "java/lang/IllegalArgumentException", M) := by
  unfold d_X7_needMappable
  rw [if_pos e]
theorem six (x : Nat) (hx : x < 1000) : (ii x ≤ (6 : Int32)) ↔ x ≤ 6 := by
  rw [show (6 : Int32) = ii 6 from rfl, ii_le (by omega) (by decide)]
theorem bcN (h : InvP M m n c a r q p w) {i : Nat} (hi : i < c) : d_J13_bitCount_95d88 (d_X7_bitsOf (ii i) M) = ii (pc (a i).testBit (m * n)) := by
  have hN := h.1.2.2.1
  rw [bitsOf_ok h hi, bitCount_i (set64 (set_lt h hi) hN), sz_st (by omega) (set_lt h hi)]
theorem nm_big (h : InvP M m n c a r q p w) {i j : Nat} (hi : i < c) (hj : j < c) {v3 : Int32} (e : d_X7_isFrom (2 : Int32) v3 (3 : Int32) = 1) (hb : ¬ (pc (a i).testBit (m * n) ≤ 6 ∧ pc (a j).testBit (m * n) ≤ 6)) : d_X7_needMappable (ii i) (ii j) v3 M = some (.inr "java/lang/IllegalStateException", M) := by
  have hN := h.1.2.2.1
  have p1 := pc_le (a i).testBit (m * n)
  have p2 := pc_le (a j).testBit (m * n)
  unfold d_X7_needMappable
  rw [e, if_neg (by decide), bcN h hi, bcN h hj]
  by_cases d : pc (a i).testBit (m * n) ≤ 6
  · rw [if_pos ((six _ (by omega)).mpr d), if_neg (fun z => hb ⟨d, (six _ (by omega)).mp z⟩)]
  · rw [if_neg (fun z => d ((six _ (by omega)).mp z))]
theorem nm_ok (h : InvP M m n c a r q p w) {i j : Nat} (hi : i < c) (hj : j < c) {v3 : Int32} (e : d_X7_isFrom (2 : Int32) v3 (3 : Int32) = 1) (h1 : pc (a i).testBit (m * n) ≤ 6) (h2 : pc (a j).testBit (m * n) ≤ 6) : d_X7_needMappable (ii i) (ii j) v3 M = some (.inl none, M) := by
  unfold d_X7_needMappable
  rw [e, if_neg (by decide), bcN h hi, bcN h hj, if_pos ((six _ (by omega)).mpr h1), if_pos ((six _ (by omega)).mpr h2)]
/-! the reference's bars -/
theorem bars_1 (h : InvP M m n c a r q p w) {v1 : Int32} (v2 v3 v4 : Int32) (b : noI v1 c) : d_X8_bars v1 v2 v3 v4 M = some (1 : Int32) := by
  unfold d_X8_bars
  rw [isSet_bad h b, if_pos rfl, if_pos rfl]
theorem bars_2 (h : InvP M m n c a r q p w) {i : Nat} (hi : i < c) {v2 : Int32} (v3 v4 : Int32) (b : noI v2 c) : d_X8_bars (ii i) v2 v3 v4 M = some (1 : Int32) := by
  unfold d_X8_bars
  rw [isSet_ok h hi, if_neg (by decide : ¬ (1 : Int32) = 0), isSet_bad h b, if_pos rfl, if_pos rfl]
theorem bars_3 (h : InvP M m n c a r q p w) {i j : Nat} (hi : i < c) (hj : j < c) (v3 : Int32) : d_X8_bars (ii i) (ii j) v3 (0 : Int32) M = some (1 : Int32) := by
  unfold d_X8_bars
  rw [isSet_ok h hi, if_neg (by decide : ¬ (1 : Int32) = 0), isSet_ok h hj, if_neg (by decide : ¬ (1 : Int32) = 0), if_pos rfl, if_pos rfl]
theorem bars_r (h : InvP M m n c a r q p w) {i j : Nat} (hi : i < c) (hj : j < c) {v3 : Int32} (e : d_X8_isIn v3 (2 : Int32) (3 : Int32) = 0) : d_X8_bars (ii i) (ii j) v3 (1 : Int32) M = some (2 : Int32) := by
  unfold d_X8_bars
  rw [isSet_ok h hi, if_neg (by decide : ¬ (1 : Int32) = 0), isSet_ok h hj, if_neg (by decide : ¬ (1 : Int32) = 0), if_neg (by decide : ¬ (1 : Int32) = 0), if_neg (by decide : ¬ (1 : Int32) = 0), if_pos e]
theorem manyN (h : InvP M m n c a r q p w) {i : Nat} (hi : i < c) : d_X8_many (M.2 20 (ix (ii i))) = some (ii (pc (a i).testBit (m * n))) := by
  have hN := h.1.2.2.1
  have hp36 : 2 ^ (m * n) ≤ 2 ^ 36 := Nat.pow_le_pow_right (by decide) hN
  rw [mem_ok h hi, many_i (Nat.lt_of_lt_of_le (set_lt h hi) hp36), sz_st (by omega) (set_lt h hi)]
theorem bars_big (h : InvP M m n c a r q p w) {i j : Nat} (hi : i < c) (hj : j < c) {v3 : Int32} (e : d_X8_isIn v3 (2 : Int32) (3 : Int32) = 1) (hb : ¬ (pc (a i).testBit (m * n) ≤ 6 ∧ pc (a j).testBit (m * n) ≤ 6)) : d_X8_bars (ii i) (ii j) v3 (1 : Int32) M = some (3 : Int32) := by
  have hN := h.1.2.2.1
  have p1 := pc_le (a i).testBit (m * n)
  have p2 := pc_le (a j).testBit (m * n)
  unfold d_X8_bars
  rw [isSet_ok h hi, if_neg (by decide : ¬ (1 : Int32) = 0), isSet_ok h hj, if_neg (by decide : ¬ (1 : Int32) = 0), if_neg (by decide : ¬ (1 : Int32) = 0), if_neg (by decide : ¬ (1 : Int32) = 0), e, if_neg (by decide : ¬ (1 : Int32) = 0), if_pos (inb_ok h hi), manyN h hi]
  simp only [Option.bind_some]
  by_cases d : pc (a i).testBit (m * n) ≤ 6
  · rw [if_pos ((six _ (by omega)).mpr d), if_pos (inb_ok h hj), manyN h hj]
    simp only [Option.bind_some]
    rw [if_neg (fun z => hb ⟨d, (six _ (by omega)).mp z⟩)]
  · rw [if_neg (fun z => d ((six _ (by omega)).mp z))]
theorem bars_ok (h : InvP M m n c a r q p w) {i j : Nat} (hi : i < c) (hj : j < c) {v3 : Int32} (e : d_X8_isIn v3 (2 : Int32) (3 : Int32) = 1) (h1 : pc (a i).testBit (m * n) ≤ 6) (h2 : pc (a j).testBit (m * n) ≤ 6) : d_X8_bars (ii i) (ii j) v3 (1 : Int32) M = some (0 : Int32) := by
  unfold d_X8_bars
  rw [isSet_ok h hi, if_neg (by decide : ¬ (1 : Int32) = 0), isSet_ok h hj, if_neg (by decide : ¬ (1 : Int32) = 0), if_neg (by decide : ¬ (1 : Int32) = 0), if_neg (by decide : ¬ (1 : Int32) = 0), e, if_neg (by decide : ¬ (1 : Int32) = 0), if_pos (inb_ok h hi), manyN h hi]
  simp only [Option.bind_some]
  rw [if_pos ((six _ (by omega)).mpr h1), if_pos (inb_ok h hj), manyN h hj]
  simp only [Option.bind_some]
  rw [if_pos ((six _ (by omega)).mpr h2)]
theorem mWk {A D : Mem} (f : Fr (fun k _ => k = 22 ∨ k = 23 ∨ k = 24 ∨ k = 25) A D) : Wk A D := f.wk (by intro k j z; unfold wk; omega)
theorem cs_maps (h : Inv M) (v1 v2 v3 : Int32) : CsI (d_L_maps v1 v2 v3) (d_X8_maps v1 v2 v3) M := by
  obtain ⟨m, n, c, a, r, q, p, w, h⟩ := h
  have hc := h.2.2.1.1
  have hN := h.1.2.2.1
  rcases nIx v1 (show c < 2147483648 by omega) with b1 | ⟨i, hi, rfl⟩
  · exact CsI.thr h 1 0 (by decide) (by simp only [d_L_maps, d_X7_maps, needSet_bad h b1, onV_ok, onV_thr, onI_ok, onI_thr, onL_ok, onL_thr, Option.bind_some, c10, c00, cl0, cl1, cl2, cl3, e1a, e1b, e1c, e2a, e2b, e2c, e3a, e3b, e3c, inb0, ix0, if_true, if_false, reduceIte]) (by simp only [d_X8_maps, bars_1 h v2 v3 _ b1, onV_ok, onV_thr, onI_ok, onI_thr, onL_ok, onL_thr, Option.bind_some, c10, c00, cl0, cl1, cl2, cl3, e1a, e1b, e1c, e2a, e2b, e2c, e3a, e3b, e3c, inb0, ix0, if_true, if_false, reduceIte])
  rcases nIx v2 (show c < 2147483648 by omega) with b2 | ⟨j, hj, rfl⟩
  · exact CsI.thr h 1 0 (by decide) (by simp only [d_L_maps, d_X7_maps, needSet_ok h hi, needSet_bad h b2, onV_ok, onV_thr, onI_ok, onI_thr, onL_ok, onL_thr, Option.bind_some, c10, c00, cl0, cl1, cl2, cl3, e1a, e1b, e1c, e2a, e2b, e2c, e3a, e3b, e3c, inb0, ix0, if_true, if_false, reduceIte]) (by simp only [d_X8_maps, bars_2 h hi v3 _ b2, onV_ok, onV_thr, onI_ok, onI_thr, onL_ok, onL_thr, Option.bind_some, c10, c00, cl0, cl1, cl2, cl3, e1a, e1b, e1c, e2a, e2b, e2c, e3a, e3b, e3c, inb0, ix0, if_true, if_false, reduceIte])
  rcases inR 2 v3 3 with ⟨q1, q2⟩ | ⟨q1, q2, q3, q4⟩
  · exact CsI.thr h 2 0 (by decide) (by simp only [d_L_maps, d_X7_maps, needSet_ok h hi, needSet_ok h hj, nmap_r q1, onV_ok, onV_thr, onI_ok, onI_thr, onL_ok, onL_thr, Option.bind_some, c10, c00, cl0, cl1, cl2, cl3, e1a, e1b, e1c, e2a, e2b, e2c, e3a, e3b, e3c, inb0, ix0, if_true, if_false, reduceIte]) (by simp only [d_X8_maps, bars_r h hi hj q2, onV_ok, onV_thr, onI_ok, onI_thr, onL_ok, onL_thr, Option.bind_some, c10, c00, cl0, cl1, cl2, cl3, e1a, e1b, e1c, e2a, e2b, e2c, e3a, e3b, e3c, inb0, ix0, if_true, if_false, reduceIte])
  by_cases big : pc (a i).testBit (m * n) ≤ 6 ∧ pc (a j).testBit (m * n) ≤ 6
  · obtain ⟨o, ho, rfl⟩ := ord_of q3 q4
    have hai := set_lt h hi
    have haj := set_lt h hj
    have h0 : a i ≠ 0 := (h.2.2.1.2.2.2 i hi).2.2.2
    by_cases eq : pc (a i).testBit (m * n) = pc (a j).testBit (m * n)
    · obtain ⟨D, f1, -, f3, -, -, f6⟩ := findAll_i h.1 hai haj ho (pc_one hai h0) big.1 rfl eq.symm
      have f31 := f3.1
      generalize hV : ii (allM m n o (pc (a i).testBit (m * n)) (a i) (a j)).length = V at f31
      have g := (h.w f6).w ((Wk.rf D).out V.toInt64)
      have g0 := g.t 0
      obtain ⟨E, e1, -, -, -, -, e6⟩ := mapsOf_i g0.2.1 hai haj ho (pc_one hai h0) big.1 rfl eq.symm
      refine ⟨0, V, sL D 29 0 V.toInt64, E, ?_, ?_, ?_, fun _ => ?_, m, n, c, a, r, q, p, w, g0.w (mWk e6)⟩
      · simp only [d_L_maps, d_X7_maps, needSet_ok h hi, needSet_ok h hj, nm_ok h hi hj q1 big.1 big.2, bitsOf_ok h hi, bitsOf_ok h hj, f1, f31, onV_ok, onV_thr, onI_ok, onI_thr, onL_ok, onL_thr, Option.bind_some, c10, c00, cl0, cl1, cl2, cl3, e1a, e1b, e1c, e2a, e2b, e2c, e3a, e3b, e3c, inb0, ix0, if_true, if_false, reduceIte]
      · simp only [d_X8_maps, bars_ok g hi hj q2 big.1 big.2, inb_ok g hi, inb_ok g hj, mem_ok g hi, mem_ok g hj, e1, hV, onV_ok, onV_thr, onI_ok, onI_thr, onL_ok, onL_thr, Option.bind_some, c10, c00, cl0, cl1, cl2, cl3, e1a, e1b, e1c, e2a, e2b, e2c, e3a, e3b, e3c, inb0, ix0, if_true, if_false, reduceIte]
      · rw [(e6 19 15 (by show ¬ (19 = 22 ∨ 19 = 23 ∨ 19 = 24 ∨ 19 = 25); decide)).1]
        rfl
      · rw [(e6 29 0 (by show ¬ (29 = 22 ∨ 29 = 23 ∨ 29 = 24 ∨ 29 = 25); decide)).2]
        exact sL_at D 29 0 _
    · obtain ⟨D, f1, -, f3, f6⟩ := findNone_i h.1 hai haj big.1 big.2 eq (ii o)
      have g := (h.w f6).w ((Wk.rf D).out (0 : Int32).toInt64)
      refine ⟨0, 0, sL D 29 0 (0 : Int32).toInt64, sI (sL D 29 0 (0 : Int32).toInt64) 19 15 0, ?_, ?_, ?_, fun _ => ?_, m, n, c, a, r, q, p, w, g.t 0⟩
      · simp only [d_L_maps, d_X7_maps, needSet_ok h hi, needSet_ok h hj, nm_ok h hi hj q1 big.1 big.2, bitsOf_ok h hi, bitsOf_ok h hj, f1, f3, onV_ok, onV_thr, onI_ok, onI_thr, onL_ok, onL_thr, Option.bind_some, c10, c00, cl0, cl1, cl2, cl3, e1a, e1b, e1c, e2a, e2b, e2c, e3a, e3b, e3c, inb0, ix0, if_true, if_false, reduceIte]
      · simp only [d_X8_maps, bars_ok g hi hj q2 big.1 big.2, inb_ok g hi, inb_ok g hj, mem_ok g hi, mem_ok g hj, mapsNone_i hai haj hN eq, onV_ok, onV_thr, onI_ok, onI_thr, onL_ok, onL_thr, Option.bind_some, c10, c00, cl0, cl1, cl2, cl3, e1a, e1b, e1c, e2a, e2b, e2c, e3a, e3b, e3c, inb0, ix0, if_true, if_false, reduceIte]
      · exact sI_at _ _ _ _
      · exact sL_at D 29 0 _
  · exact CsI.thr h 3 0 (by decide) (by simp only [d_L_maps, d_X7_maps, needSet_ok h hi, needSet_ok h hj, nm_big h hi hj q1 big, onV_ok, onV_thr, onI_ok, onI_thr, onL_ok, onL_thr, Option.bind_some, c10, c00, cl0, cl1, cl2, cl3, e1a, e1b, e1c, e2a, e2b, e2c, e3a, e3b, e3c, inb0, ix0, if_true, if_false, reduceIte]) (by simp only [d_X8_maps, bars_big h hi hj q2 big, onV_ok, onV_thr, onI_ok, onI_thr, onL_ok, onL_thr, Option.bind_some, c10, c00, cl0, cl1, cl2, cl3, e1a, e1b, e1c, e2a, e2b, e2c, e3a, e3b, e3c, inb0, ix0, if_true, if_false, reduceIte])
/-! the image -/
theorem place_i (h : InvP M m n c a r q p w) {i : Nat} (hi : i < c) {v : Nat} (hv : v < m * n) : iter (g_X8_image_1 (ii i) (ii v) M) 20000 ((0 : Int32), (0 : Int32)) = some (.inl (ii (pc (a i).testBit v), ii v)) := by
  have hN := h.1.2.2.1
  refine it_full (g := g_X8_image_1 (ii i) (ii v) M) v (fun e => (ii (pc (a i).testBit e), ii e)) (by omega) (fun e he => ?_) ?_
  · unfold g_X8_image_1
    dsimp only
    rw [if_pos ((ii_lt (by omega) (by omega)).mpr he), if_pos (inb_ok h hi), mem_ok h hi, mhas_i (set64 (set_lt h hi) hN) (by omega), pc_succ, ii_inc]
    by_cases d : (a i).testBit e = true
    · rw [if_pos d, if_pos d, if_neg (by decide), ii_inc]
    · rw [if_neg d, if_neg d, if_pos rfl, show (0 : Int32) = ii 0 from rfl, ii_add]
  · unfold g_X8_image_1
    dsimp only
    rw [if_neg (by rw [ii_lt (by omega) (by omega)]; omega)]
theorem cs_image (h : Inv M) (v1 v2 v3 v4 : Int32) : CsI (d_L_image v1 v2 v3 v4) (d_X8_image v1 v2 v3 v4) M := by
  obtain ⟨m, n, c, a, r, q, p, w, h⟩ := h
  have hc := h.2.2.1.1
  have hN := h.1.2.2.1
  rcases nIx v1 (show c < 2147483648 by omega) with b1 | ⟨i, hi, rfl⟩
  · exact CsI.thr h 1 0 (by decide) (by simp only [d_L_image, d_X7_image, needSet_bad h b1, onV_ok, onV_thr, onI_ok, onI_thr, onL_ok, onL_thr, Option.bind_some, c10, c00, cl0, cl1, cl2, cl3, e1a, e1b, e1c, e2a, e2b, e2c, e3a, e3b, e3c, inb0, ix0, if_true, if_false, reduceIte]) (by simp only [d_X8_image, bars_1 h v2 v3 _ b1, onV_ok, onV_thr, onI_ok, onI_thr, onL_ok, onL_thr, Option.bind_some, c10, c00, cl0, cl1, cl2, cl3, e1a, e1b, e1c, e2a, e2b, e2c, e3a, e3b, e3c, inb0, ix0, if_true, if_false, reduceIte])
  rcases nIx v2 (show c < 2147483648 by omega) with b2 | ⟨j, hj, rfl⟩
  · exact CsI.thr h 1 0 (by decide) (by simp only [d_L_image, d_X7_image, needSet_ok h hi, needSet_bad h b2, onV_ok, onV_thr, onI_ok, onI_thr, onL_ok, onL_thr, Option.bind_some, c10, c00, cl0, cl1, cl2, cl3, e1a, e1b, e1c, e2a, e2b, e2c, e3a, e3b, e3c, inb0, ix0, if_true, if_false, reduceIte]) (by simp only [d_X8_image, bars_2 h hi v3 _ b2, onV_ok, onV_thr, onI_ok, onI_thr, onL_ok, onL_thr, Option.bind_some, c10, c00, cl0, cl1, cl2, cl3, e1a, e1b, e1c, e2a, e2b, e2c, e3a, e3b, e3c, inb0, ix0, if_true, if_false, reduceIte])
  rcases nIx v4 (show m * n < 2147483648 by omega) with b4 | ⟨v, hv, rfl⟩
  · exact CsI.thr h 1 0 (by decide) (by simp only [d_L_image, d_X7_image, needSet_ok h hi, needSet_ok h hj, needElement_bad h b4, onV_ok, onV_thr, onI_ok, onI_thr, onL_ok, onL_thr, Option.bind_some, c10, c00, cl0, cl1, cl2, cl3, e1a, e1b, e1c, e2a, e2b, e2c, e3a, e3b, e3c, inb0, ix0, if_true, if_false, reduceIte]) (by simp only [d_X8_image, isElement_bad h b4, bars_3 h hi hj v3, onV_ok, onV_thr, onI_ok, onI_thr, onL_ok, onL_thr, Option.bind_some, c10, c00, cl0, cl1, cl2, cl3, e1a, e1b, e1c, e2a, e2b, e2c, e3a, e3b, e3c, inb0, ix0, if_true, if_false, reduceIte])
  rcases inR 2 v3 3 with ⟨q1, q2⟩ | ⟨q1, q2, q3, q4⟩
  · exact CsI.thr h 2 0 (by decide) (by simp only [d_L_image, d_X7_image, needSet_ok h hi, needSet_ok h hj, needElement_ok h hv, nmap_r q1, onV_ok, onV_thr, onI_ok, onI_thr, onL_ok, onL_thr, Option.bind_some, c10, c00, cl0, cl1, cl2, cl3, e1a, e1b, e1c, e2a, e2b, e2c, e3a, e3b, e3c, inb0, ix0, if_true, if_false, reduceIte]) (by simp only [d_X8_image, isElement_ok h hv, bars_r h hi hj q2, onV_ok, onV_thr, onI_ok, onI_thr, onL_ok, onL_thr, Option.bind_some, c10, c00, cl0, cl1, cl2, cl3, e1a, e1b, e1c, e2a, e2b, e2c, e3a, e3b, e3c, inb0, ix0, if_true, if_false, reduceIte])
  by_cases big : pc (a i).testBit (m * n) ≤ 6 ∧ pc (a j).testBit (m * n) ≤ 6
  · obtain ⟨o, ho, rfl⟩ := ord_of q3 q4
    have hai := set_lt h hi
    have haj := set_lt h hj
    have h0 : a i ≠ 0 := (h.2.2.1.2.2.2 i hi).2.2.2
    have hh : d_X8_has (ll (a i)) (ii v) = if (a i).testBit v then (1 : Int32) else 0 := mhas_i (set64 hai hN) (by omega)
    have hF : ∀ {D : Mem} {b : Int32}, d_X2_findAll (ll (a i)) (ll (a j)) (ii o) M = some (.inl none, D) → d_X2_firstImage (ii v) D = some b → d_L_image (ii i) (ii j) (ii o) (ii v) M = some (.inl (some (.int 0)), sL D 29 0 b.toInt64) := fun f1 f2 => by
      simp only [d_L_image, d_X7_image, needSet_ok h hi, needSet_ok h hj, needElement_ok h hv, nm_ok h hi hj q1 big.1 big.2, bitsOf_ok h hi, bitsOf_ok h hj, f1, f2, onV_ok, onV_thr, onI_ok, onI_thr, onL_ok, onL_thr, Option.bind_some, c10, c00, cl0, cl1, cl2, cl3, e1a, e1b, e1c, e2a, e2b, e2c, e3a, e3b, e3c, inb0, ix0, if_true, if_false, reduceIte]
    -- outside of the set, or nothing found
    by_cases hb : (a i).testBit v = true
    · by_cases eq : pc (a i).testBit (m * n) = pc (a j).testBit (m * n)
      · obtain ⟨D, f1, f2, f3, f4, f5, f6⟩ := findAll_i h.1 hai haj ho (pc_one hai h0) big.1 rfl eq.symm
        by_cases none : allM m n o (pc (a i).testBit (m * n)) (a i) (a j) = []
        · have d9 : D.1 4 9 = 0 := by rw [f3.1, none]; rfl
          have g := (h.w f6).w ((Wk.rf D).out (-1 : Int32).toInt64)
          have g0 := g.t 0
          obtain ⟨E, e1, -, -, -, -, e6⟩ := mapsOf_i g0.2.1 hai haj ho (pc_one hai h0) big.1 rfl eq.symm
          refine ⟨0, (-1 : Int32), _, E, hF f1 (firstNone_i f2 big.1 d9 _), ?_, ?_, fun _ => ?_, m, n, c, a, r, q, p, w, g0.w (mWk e6)⟩
          · rw [none] at e1
            simp only [d_X8_image, isElement_ok g hv, bars_ok g hi hj q2 big.1 big.2, hh, hb, inb_ok g hi, inb_ok g hj, mem_ok g hi, mem_ok g hj, e1, show ii ([] : List (List Nat)).length = (0 : Int32) from rfl, onV_ok, onV_thr, onI_ok, onI_thr, onL_ok, onL_thr, Option.bind_some, c10, c00, cl0, cl1, cl2, cl3, e1a, e1b, e1c, e2a, e2b, e2c, e3a, e3b, e3c, inb0, ix0, if_true, if_false, reduceIte]
          · rw [(e6 19 15 (by show ¬ (19 = 22 ∨ 19 = 23 ∨ 19 = 24 ∨ 19 = 25); decide)).1]
            rfl
          · rw [(e6 29 0 (by show ¬ (29 = 22 ∨ 29 = 23 ∨ 29 = 24 ∨ 29 = 25); decide)).2]
            exact sL_at D 29 0 _
        · have hbb := firstIn_i f2 big.1 f5 f3 f4 none rfl hN hv hb
          generalize hX : gx m n (a j) ((allM m n o (pc (a i).testBit (m * n)) (a i) (a j)).headD []) (pc (a i).testBit v) = X at hbb
          have g := (h.w f6).w ((Wk.rf D).out (ii X).toInt64)
          have g0 := g.t 0
          obtain ⟨E, e1, e2, e3, e4, e5, e6⟩ := mapsOf_i g0.2.1 hai haj ho (pc_one hai h0) big.1 rfl eq.symm
          have gE := g0.w (mWk e6)
          have hp : pc (a i).testBit v < pc (a i).testBit (m * n) := by
            have := pc_up (a i).testBit (show v + 1 ≤ m * n by omega)
            rw [pc_succ, if_pos hb] at this
            omega
          have hlen : 0 < (allM m n o (pc (a i).testBit (m * n)) (a i) (a j)).length := List.length_pos_iff.mpr none
          have hmem : (allM m n o (pc (a i).testBit (m * n)) (a i) (a j)).headD [] ∈ allM m n o (pc (a i).testBit (m * n)) (a i) (a j) := by
            cases hz : allM m n o (pc (a i).testBit (m * n)) (a i) (a j) with
            | nil => exact absurd hz none
            | cons x y => exact List.mem_cons_self
          have hlt := e5 _ hmem _ hp
          refine ⟨0, ii X, _, E, hF f1 hbb, ?_, ?_, fun _ => ?_, m, n, c, a, r, q, p, w, gE⟩
          · simp only [d_X8_image, isElement_ok g hv, bars_ok g hi hj q2 big.1 big.2, hh, hb, inb_ok g hi, inb_ok g hj, mem_ok g hi, mem_ok g hj, e1, if_neg (ii_ne0 hlen (by omega)), place_i gE hi hv, onIt, onV_ok, onV_thr, onI_ok, onI_thr, onL_ok, onL_thr, Option.bind_some, c10, c00, cl0, cl1, cl2, cl3, e1a, e1b, e1c, e2a, e2b, e2c, e3a, e3b, e3c, inb0, ix0, if_true, if_false, reduceIte]
            rw [if_pos (ii_inb (n := 6) (by omega) (by decide)), ii_ix (show pc (a i).testBit v < 2147483648 by omega), e2 none _ hp, if_pos (ii_inb (n := 36) (by omega) (by decide)), ii_ix (by omega), e4 _ hlt, ← hX]
            rfl
          · rw [(e6 19 15 (by show ¬ (19 = 22 ∨ 19 = 23 ∨ 19 = 24 ∨ 19 = 25); decide)).1]
            rfl
          · rw [(e6 29 0 (by show ¬ (29 = 22 ∨ 29 = 23 ∨ 29 = 24 ∨ 29 = 25); decide)).2]
            exact sL_at D 29 0 _
      · obtain ⟨D, f1, f2, f3, f6⟩ := findNone_i h.1 hai haj big.1 big.2 eq (ii o)
        have g := (h.w f6).w ((Wk.rf D).out (-1 : Int32).toInt64)
        refine ⟨0, (-1 : Int32), _, sI (sL D 29 0 (-1 : Int32).toInt64) 19 15 0, hF f1 (firstNone_i f2 big.1 f3 _), ?_, sI_at _ _ _ _, fun _ => sL_at D 29 0 _, m, n, c, a, r, q, p, w, g.t 0⟩
        simp only [d_X8_image, isElement_ok g hv, bars_ok g hi hj q2 big.1 big.2, hh, hb, inb_ok g hi, inb_ok g hj, mem_ok g hi, mem_ok g hj, mapsNone_i hai haj hN eq, onV_ok, onV_thr, onI_ok, onI_thr, onL_ok, onL_thr, Option.bind_some, c10, c00, cl0, cl1, cl2, cl3, e1a, e1b, e1c, e2a, e2b, e2c, e3a, e3b, e3c, inb0, ix0, if_true, if_false, reduceIte]
    · have fin : ∀ {D : Mem}, d_X2_findAll (ll (a i)) (ll (a j)) (ii o) M = some (.inl none, D) → d_X2_firstImage (ii v) D = some (-1 : Int32) → Wk M D → CsI (d_L_image (ii i) (ii j) (ii o) (ii v)) (d_X8_image (ii i) (ii j) (ii o) (ii v)) M := fun {D} f1 f2 f6 => by
        have g := (h.w f6).w ((Wk.rf D).out (-1 : Int32).toInt64)
        refine ⟨0, (-1 : Int32), _, sI (sL D 29 0 (-1 : Int32).toInt64) 19 15 0, hF f1 f2, ?_, sI_at _ _ _ _, fun _ => sL_at D 29 0 _, m, n, c, a, r, q, p, w, g.t 0⟩
        simp only [d_X8_image, isElement_ok g hv, bars_ok g hi hj q2 big.1 big.2, hh, hb, inb_ok g hi, mem_ok g hi, onV_ok, onV_thr, onI_ok, onI_thr, onL_ok, onL_thr, Option.bind_some, c10, c00, cl0, cl1, cl2, cl3, e1a, e1b, e1c, e2a, e2b, e2c, e3a, e3b, e3c, inb0, ix0, if_true, if_false, reduceIte, Bool.false_eq_true]
      by_cases eq : pc (a i).testBit (m * n) = pc (a j).testBit (m * n)
      · obtain ⟨D, f1, f2, f3, f4, f5, f6⟩ := findAll_i h.1 hai haj ho (pc_one hai h0) big.1 rfl eq.symm
        exact fin f1 (firstOut_i f2 big.1 f5 rfl hN hv hb) f6
      · obtain ⟨D, f1, f2, f3, f6⟩ := findNone_i h.1 hai haj big.1 big.2 eq (ii o)
        exact fin f1 (firstNone_i f2 big.1 f3 _) f6
  · exact CsI.thr h 3 0 (by decide) (by simp only [d_L_image, d_X7_image, needSet_ok h hi, needSet_ok h hj, needElement_ok h hv, nm_big h hi hj q1 big, onV_ok, onV_thr, onI_ok, onI_thr, onL_ok, onL_thr, Option.bind_some, c10, c00, cl0, cl1, cl2, cl3, e1a, e1b, e1c, e2a, e2b, e2c, e3a, e3b, e3c, inb0, ix0, if_true, if_false, reduceIte]) (by simp only [d_X8_image, isElement_ok h hv, bars_big h hi hj q2 big, onV_ok, onV_thr, onI_ok, onI_thr, onL_ok, onL_thr, Option.bind_some, c10, c00, cl0, cl1, cl2, cl3, e1a, e1b, e1c, e2a, e2b, e2c, e3a, e3b, e3c, inb0, ix0, if_true, if_false, reduceIte])
end Maps
