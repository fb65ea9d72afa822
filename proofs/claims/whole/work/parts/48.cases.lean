/-! THE CALLS that change the house, 2: moves, the row, the group -/
section Cas
variable {M : Mem} {m n c : Nat} {a : Nat → Nat} {r : Nat} {q : Nat → Nat} {p w : Nat}
noncomputable def mvS (m n s : Nat) (t : Int) (e : Nat) : Nat := shf m n (st (m * n) (fun i => ∃ x, x < m * n ∧ s.testBit x = true ∧ ml m n t x = i)) e
theorem mv_ams (hm : 0 < m) (hn : 0 < n) {s e : Nat} (t : Int) (hs : s < 2 ^ (m * n)) (he : e < m * n) (u : Prop) (hu : ¬ u) : ams m n (2 ^ e) t s u = mvS m n s t e := by
  refine st_congr fun i hi => ?_
  rw [st_bit]
  constructor
  · rintro ⟨x, hx, h1, y, hy, h2, -, h3⟩
    rw [Nat.testBit_two_pow, decide_eq_true_eq] at h1
    subst h1
    exact ⟨sb_lt hm hn i e, y, hy, h2, ((ad_iff hm hn (ml_lt hm hn t y) hi).mp h3)⟩
  · rintro ⟨-, y, hy, h2, h3⟩
    refine ⟨e, he, by rw [Nat.testBit_two_pow, decide_eq_true_eq], y, hy, h2, fun z => hu z.1, ?_⟩
    rw [h3, ad_comm, ad_sb hm hn hi]
theorem mv_ne (hm : 0 < m) (hn : 0 < n) (hN : m * n ≤ 36) {s e : Nat} (t : Int) (hs : s < 2 ^ (m * n)) (h0 : s ≠ 0) (he : e < m * n) : mvS m n s t e ≠ 0 := by
  obtain ⟨y, -, -, hy, -⟩ := low_set (set64 hs hN) (Nat.pos_of_ne_zero h0)
  intro z
  have hl := ad_lt hm hn (ml m n t y) e
  have : (mvS m n s t e).testBit (ad m n (ml m n t y) e) = true := by
    refine (shf_bit _ _ _).mpr ⟨hl, (st_bit _ _ _).mpr ⟨sb_lt hm hn _ _, y, tb_lt hs hy, hy, ?_⟩⟩
    rw [ad_comm, sb_ad hm hn (ml_lt hm hn t y)]
  rw [z, Nat.zero_testBit] at this
  cases this
theorem mv_lt (s : Nat) (t : Int) (e : Nat) : mvS m n s t e < 2 ^ (m * n) := shf_lt _ _
theorem cs_move (h : Inv M) (v1 v2 v3 : Int32) : CsI (d_L_move v1 v2 v3) (d_X8_move v1 v2 v3) M := by
  obtain ⟨m, n, c, a, r, q, p, w, h⟩ := h
  have hc := h.2.2.1.1
  have hN := h.1.2.2.1
  have hm := h.1.1
  have hn := h.1.2.1
  rcases nIx v1 (show c < 2147483648 by omega) with b1 | ⟨i, hi, rfl⟩
  · exact CsI.thr h 1 0 (by decide) (by simp only [d_L_move, d_X7_move, needSet_bad h b1, onV_ok, onV_thr, onI_ok, onI_thr, onL_ok, onL_thr, Option.bind_some, c10, c00, cl0, cl1, cl2, cl3, e1a, e1b, e1c, e2a, e2b, e2c, e3a, e3b, e3c, inb0, ix0, if_true, if_false, reduceIte]) (by simp only [d_X8_move, isSet_bad h b1, onV_ok, onV_thr, onI_ok, onI_thr, onL_ok, onL_thr, Option.bind_some, c10, c00, cl0, cl1, cl2, cl3, e1a, e1b, e1c, e2a, e2b, e2c, e3a, e3b, e3c, inb0, ix0, if_true, if_false, reduceIte])
  rcases nIx v3 (show m * n < 2147483648 by omega) with b3 | ⟨e, he, rfl⟩
  · exact CsI.thr h 1 0 (by decide) (by simp only [d_L_move, d_X7_move, needSet_ok h hi, needElement_bad h b3, onV_ok, onV_thr, onI_ok, onI_thr, onL_ok, onL_thr, Option.bind_some, c10, c00, cl0, cl1, cl2, cl3, e1a, e1b, e1c, e2a, e2b, e2c, e3a, e3b, e3c, inb0, ix0, if_true, if_false, reduceIte]) (by simp only [d_X8_move, isSet_ok h hi, isElement_bad h b3, onV_ok, onV_thr, onI_ok, onI_thr, onL_ok, onL_thr, Option.bind_some, c10, c00, cl0, cl1, cl2, cl3, e1a, e1b, e1c, e2a, e2b, e2c, e3a, e3b, e3c, inb0, ix0, if_true, if_false, reduceIte])
  rcases inR (-100 : Int32) v2 (100 : Int32) with ⟨r1, r2⟩ | ⟨r1, r2, r3, r4⟩
  · exact CsI.thr h 2 0 (by decide) (by simp only [d_L_move, d_X7_move, needSet_ok h hi, needElement_ok h he, r1, onV_ok, onV_thr, onI_ok, onI_thr, onL_ok, onL_thr, Option.bind_some, c10, c00, cl0, cl1, cl2, cl3, e1a, e1b, e1c, e2a, e2b, e2c, e3a, e3b, e3c, inb0, ix0, if_true, if_false, reduceIte]) (by simp only [d_X8_move, isSet_ok h hi, isElement_ok h he, r2, onV_ok, onV_thr, onI_ok, onI_thr, onL_ok, onL_thr, Option.bind_some, c10, c00, cl0, cl1, cl2, cl3, e1a, e1b, e1c, e2a, e2b, e2c, e3a, e3b, e3c, inb0, ix0, if_true, if_false, reduceIte])
  obtain ⟨t, rfl, ht1, ht2⟩ := rngZ (lo := -100) (hi := 100) (by decide) (by decide) (by decide) (by decide) r3 r4
  have hi' := set_lt h hi
  have hs := multiples_i h.1 ⟨ht1, ht2⟩ hi'
  have hsh := shifted_i h.1 (s := st (m * n) (fun i' => ∃ x, x < m * n ∧ (a i).testBit x = true ∧ ml m n t x = i')) (st_lt _ _) he
  have h0 := mv_ne hm hn hN t hi' (h.2.2.1.2.2.2 i hi).2.2.2 he
  have hsh' : d_X1_shifted (ll (st (m * n) (fun i' => ∃ x, x < m * n ∧ (a i).testBit x = true ∧ ml m n t x = i'))) (ii e) M = ll (mvS m n (a i) t e) := hsh
  have am : ∀ {A : Mem}, MI A m n → d_X8_allSums (jshl (1 : Int64) (ii e)) (zi t) (ll (a i)) (0 : Int32) A = some (ll (mvS m n (a i) t e)) := fun g => by
    rw [mbit_i (by omega), allSums_i g (Nat.pow_lt_pow_right (by decide) he) hi' ⟨ht1, ht2⟩, mv_ams hm hn t hi' he _ (fun z => z rfl)]
  by_cases hf : c = 30
  · exact CsI.thr h 3 0 (by decide) (by simp only [d_L_move, d_X7_move, needSet_ok h hi, needElement_ok h he, r1, bitsOf_ok h hi, hs, hsh', keepSet_full h hf, onV_ok, onV_thr, onI_ok, onI_thr, onL_ok, onL_thr, Option.bind_some, c10, c00, cl0, cl1, cl2, cl3, e1a, e1b, e1c, e2a, e2b, e2c, e3a, e3b, e3c, inb0, ix0, if_true, if_false, reduceIte]) (by simp only [d_X8_move, isSet_ok h hi, isElement_ok h he, r2, (full_eq h).mpr hf, onV_ok, onV_thr, onI_ok, onI_thr, onL_ok, onL_thr, Option.bind_some, c10, c00, cl0, cl1, cl2, cl3, e1a, e1b, e1c, e2a, e2b, e2c, e3a, e3b, e3c, inb0, ix0, if_true, if_false, reduceIte])
  · have hc30 : c < 30 := by omega
    refine CsI.kept h hc30 (mv_lt _ _ _) h0 (by simp only [d_L_move, d_X7_move, needSet_ok h hi, needElement_ok h he, r1, bitsOf_ok h hi, hs, hsh', keepSet_ok h hc30 (mv_lt _ _ _) h0, onV_ok, onV_thr, onI_ok, onI_thr, onL_ok, onL_thr, Option.bind_some, c10, c00, cl0, cl1, cl2, cl3, e1a, e1b, e1c, e2a, e2b, e2c, e3a, e3b, e3c, inb0, ix0, if_true, if_false, reduceIte]) (fun _ => ⟨_, ?_, rfl⟩)
    obtain ⟨q1, q2, q3⟩ := newSet h (ll (mvS m n (a i) t e)) (ii c).toInt64 (ii (c + 1))
    generalize hA : sL (sI (sL M 1 c (ll (mvS m n (a i) t e))) 0 2 (ii (c + 1))) 29 0 (ii c).toInt64 = A at q1 q2 q3 ⊢
    have s1 : d_X8_isSet (ii i) A = 1 := by rw [isSet_i q2 (by omega), if_neg (ii_lt0 (by omega)), if_pos ((ii_lt (by omega) (by omega)).mpr hi)]
    have s2 : d_X8_isElement (ii e) A = 1 := by rw [isElement_i q1, if_neg (ii_lt0 (by omega)), if_pos ((ii_lt (by omega) (by omega)).mpr he)]
    have s3 : A.2 20 (ix (ii i)) = ll (a i) := by rw [ii_ix (by omega), q3 i hi]
    have f30 : ¬ A.1 19 2 = (30 : Int32) := by
      rw [q2, show (30 : Int32) = ii 30 from rfl, ii_eq (by omega) (by decide)]
      exact hf
    simp only [d_X8_move, s1, s2, r2, if_neg f30, inb_ok h hi, s3, am (q1.thr 0), enters_ok hc30 (A := sI A 19 15 0) q2, onV_ok, onV_thr, onI_ok, onI_thr, onL_ok, onL_thr, Option.bind_some, c10, c00, cl0, cl1, cl2, cl3, e1a, e1b, e1c, e2a, e2b, e2c, e3a, e3b, e3c, inb0, ix0, if_true, if_false, reduceIte]
/-! the row -/
def rS (r k j : Nat) : Prop := wk k j ∨ (k = 15 ∧ j = r) ∨ (k = 21 ∧ j = r) ∨ (k = 14 ∧ j = 2) ∨ (k = 19 ∧ j = 4)
theorem row_inv (h : InvP M m n c a r q p w) {r' : Nat} {q' : Nat → Nat} {M2 : Mem} (f : Fr (rS r) M M2) (hr : RI M2 (m * n) r' q') : InvP M2 m n c a r' q' p w := by
  obtain ⟨hg, hm, hs', -, ht⟩ := h
  exact ⟨hg.f fun k j hk => f k j (by unfold rS wk; omega), hm.f fun j hj => (f 19 j (by unfold rS wk; omega)).1, hs'.f (f 0 2 (by unfold rS wk; omega)).1 (f 19 2 (by unfold rS wk; omega)).1 fun k j hk => (f k j (by unfold rS wk; omega)).2, hr, ht.f (fun k j hk => (f k j (by unfold rS wk; omega)).1) (f 19 6 (by unfold rS wk; omega)).1 (f 19 7 (by unfold rS wk; omega)).1⟩
theorem cs_put (h : Inv M) (v1 : Int32) : CsI (d_L_put v1) (d_X8_put v1) M := by
  obtain ⟨m, n, c, a, r, q, p, w, h⟩ := h
  have hN := h.1.2.2.1
  obtain ⟨hr12, hr1, hr2, hr3, hr4⟩ := h.2.2.2.1
  rcases nIx v1 (show m * n < 2147483648 by omega) with b1 | ⟨e, he, rfl⟩
  · exact CsI.thr h 1 0 (by decide) (by simp only [d_L_put, d_X7_put, needElement_bad h b1, onV_ok, onV_thr, onI_ok, onI_thr, onL_ok, onL_thr, Option.bind_some, c10, c00, cl0, cl1, cl2, cl3, e1a, e1b, e1c, e2a, e2b, e2c, e3a, e3b, e3c, inb0, ix0, if_true, if_false, reduceIte]) (by simp only [d_X8_put, isElement_bad h b1, onV_ok, onV_thr, onI_ok, onI_thr, onL_ok, onL_thr, Option.bind_some, c10, c00, cl0, cl1, cl2, cl3, e1a, e1b, e1c, e2a, e2b, e2c, e3a, e3b, e3c, inb0, ix0, if_true, if_false, reduceIte])
  have c12 : (ii r < (12 : Int32)) ↔ r < 12 := by rw [show (12 : Int32) = ii 12 from rfl, ii_lt (by omega) (by decide)]
  have d12 : (ii r = (12 : Int32)) ↔ r = 12 := by rw [show (12 : Int32) = ii 12 from rfl, ii_eq (by omega) (by decide)]
  by_cases hf : r = 12
  · have x1 : ¬ M.1 14 2 < (12 : Int32) := by rw [hr1, c12]; omega
    have x2 : M.1 19 4 = (12 : Int32) := by rw [hr2, d12]; exact hf
    exact CsI.thr h 2 0 (by decide) (by simp only [d_L_put, d_X7_put, needElement_ok h he, if_neg x1, onV_ok, onV_thr, onI_ok, onI_thr, onL_ok, onL_thr, Option.bind_some, c10, c00, cl0, cl1, cl2, cl3, e1a, e1b, e1c, e2a, e2b, e2c, e3a, e3b, e3c, inb0, ix0, if_true, if_false, reduceIte]) (by simp only [d_X8_put, isElement_ok h he, if_pos x2, onV_ok, onV_thr, onI_ok, onI_thr, onL_ok, onL_thr, Option.bind_some, c10, c00, cl0, cl1, cl2, cl3, e1a, e1b, e1c, e2a, e2b, e2c, e3a, e3b, e3c, inb0, ix0, if_true, if_false, reduceIte])
  have x1 : M.1 14 2 < (12 : Int32) := by rw [hr1, c12]; omega
  have x2 : ¬ M.1 19 4 = (12 : Int32) := by rw [hr2, d12]; exact hf
  have ap : d_X3_append (ii e) M = sI (sI M 15 r (ii e)) 14 2 (ii (r + 1)) := by
    have lay : d_X7_lay 15 12 (M.1 14 2) (ii e) M = sI M 15 r (ii e) := by
      unfold d_X7_lay
      rw [hr1, if_neg (ii_lt0 (by omega)), if_pos (c12.mpr (by omega)), ii_ix (by omega)]
    unfold d_X3_append
    rw [lay, show (sI M 15 r (ii e)).1 14 2 = M.1 14 2 from rfl, hr1, ii_inc]
  refine ⟨0, ii (r + 1), sL (sI (sI M 15 r (ii e)) 14 2 (ii (r + 1))) 29 0 (ii (r + 1)).toInt64, sI (sI (sI (sL (sI (sI M 15 r (ii e)) 14 2 (ii (r + 1))) 29 0 (ii (r + 1)).toInt64) 19 15 0) 21 r (ii e)) 19 4 (ii (r + 1)), ?_, ?_, rfl, fun _ => rfl, m, n, c, a, r + 1, fun i => if i = r then e else q i, p, w, row_inv h ?_ ⟨by omega, rfl, rfl, hr3, fun i hi => ?_⟩⟩
  · simp only [d_L_put, d_X7_put, needElement_ok h he, if_pos x1, ap, onV_ok, onV_thr, onI_ok, onI_thr, onL_ok, onL_thr, Option.bind_some, c10, c00, cl0, cl1, cl2, cl3, e1a, e1b, e1c, e2a, e2b, e2c, e3a, e3b, e3c, inb0, ix0, if_true, if_false, reduceIte]
    rfl
  · have hA : ∀ A : Mem, A = sL (sI (sI M 15 r (ii e)) 14 2 (ii (r + 1))) 29 0 (ii (r + 1)).toInt64 → MI A m n ∧ A.1 19 4 = ii r := fun A e => by
      subst e
      exact ⟨h.2.1.f fun j _ => rfl, hr2⟩
    obtain ⟨g1, g2⟩ := hA _ rfl
    generalize sL (sI (sI M 15 r (ii e)) 14 2 (ii (r + 1))) 29 0 (ii (r + 1)).toInt64 = A at g1 g2 ⊢
    have s2 : d_X8_isElement (ii e) A = 1 := by rw [isElement_i g1, if_neg (ii_lt0 (by omega)), if_pos ((ii_lt (by omega) (by omega)).mpr he)]
    have x3 : ¬ A.1 19 4 = (12 : Int32) := by rw [g2, d12]; exact hf
    have x4 : inb (ii r) 12 = true := ii_inb (by omega) (by decide)
    simp only [d_X8_put, s2, if_neg x3, onV_ok, onV_thr, onI_ok, onI_thr, onL_ok, onL_thr, Option.bind_some, c10, c00, cl0, cl1, cl2, cl3, e1a, e1b, e1c, e2a, e2b, e2c, e3a, e3b, e3c, inb0, ix0, if_true, if_false, reduceIte]
    rw [g2, if_pos x4, ii_inc, ii_ix (by omega)]
  · exact ((((((Fr.rf (rS r) M).i 15 r _ (by unfold rS; omega)).i 14 2 _ (by unfold rS; omega)).l 29 0 _ (by unfold rS wk; omega)).i 19 15 _ (by unfold rS wk; omega)).i 21 r _ (by unfold rS; omega)).i 19 4 _ (by unfold rS; omega)
  · show (sI M 15 r (ii e)).1 15 i = _ ∧ (sI M 21 r (ii e)).1 21 i = _ ∧ _
    by_cases z : i = r
    · subst z
      rw [sI_at, sI_at]
      simp only [if_true]
      exact ⟨trivial, trivial, he⟩
    · rw [sI_ne _ _ (fun y => z y.2), sI_ne _ _ (fun y => z y.2)]
      simp only [z, if_false]
      exact hr4 i (by omega)
/-- two answers alike -/
def CsW (F G : Mem → Option (Res × Mem)) (M : Mem) : Prop := ∃ (b : Int32) (M1 M2 : Mem), F M = some (.inl (some (.int b)), M1) ∧ G M1 = some (.inl (some (.int b)), M2) ∧ Inv M2
theorem cs_wipe (h : Inv M) : CsW d_X7_wipe d_X8_wipe M := by
  obtain ⟨m, n, c, a, r, q, p, w, h⟩ := h
  obtain ⟨hr12, hr1, hr2, hr3, hr4⟩ := h.2.2.2.1
  refine ⟨ii r, sI M 14 2 0, sI (sI (sI M 14 2 0) 19 15 0) 19 4 0, ?_, ?_, m, n, c, a, 0, q, p, w, row_inv h ?_ ⟨by omega, rfl, rfl, hr3, fun i hi => absurd hi (Nat.not_lt_zero i)⟩⟩
  · unfold d_X7_wipe
    rw [hr1]
    rfl
  · unfold d_X8_wipe
    rw [show (sI M 14 2 0).1 19 4 = M.1 19 4 from rfl, hr2]
  · exact (((Fr.rf (rS r) M).i 14 2 _ (by unfold rS; omega)).i 19 15 _ (by unfold rS wk; omega)).i 19 4 _ (by unfold rS; omega)
/-! the group -/
theorem cs_group (h : Inv M) (v1 v2 : Int32) : CsI (d_L_group v1 v2) (d_X8_group v1 v2) M := by
  obtain ⟨m, n, c, a, r, q, p, w, h⟩ := h
  rcases inR (1 : Int32) v1 (36 : Int32) with ⟨r1, r2⟩ | ⟨r1, r2, r3, r4⟩
  · exact CsI.thr h 1 0 (by decide) (by simp only [d_L_group, d_X7_group, r1, onV_ok, onV_thr, onI_ok, onI_thr, onL_ok, onL_thr, Option.bind_some, c10, c00, cl0, cl1, cl2, cl3, e1a, e1b, e1c, e2a, e2b, e2c, e3a, e3b, e3c, inb0, ix0, if_true, if_false, reduceIte]) (by simp only [d_X8_group, r2, onV_ok, onV_thr, onI_ok, onI_thr, onL_ok, onL_thr, Option.bind_some, c10, c00, cl0, cl1, cl2, cl3, e1a, e1b, e1c, e2a, e2b, e2c, e3a, e3b, e3c, inb0, ix0, if_true, if_false, reduceIte])
  rcases inR (1 : Int32) v2 (36 : Int32) with ⟨s1, s2⟩ | ⟨s1, s2, s3, s4⟩
  · exact CsI.thr h 1 0 (by decide) (by simp only [d_L_group, d_X7_group, r1, s1, onV_ok, onV_thr, onI_ok, onI_thr, onL_ok, onL_thr, Option.bind_some, c10, c00, cl0, cl1, cl2, cl3, e1a, e1b, e1c, e2a, e2b, e2c, e3a, e3b, e3c, inb0, ix0, if_true, if_false, reduceIte]) (by simp only [d_X8_group, r2, s2, onV_ok, onV_thr, onI_ok, onI_thr, onL_ok, onL_thr, Option.bind_some, c10, c00, cl0, cl1, cl2, cl3, e1a, e1b, e1c, e2a, e2b, e2c, e3a, e3b, e3c, inb0, ix0, if_true, if_false, reduceIte])
  obtain ⟨x, rfl, hx1, hx2⟩ := rngN (lo := 1) (hi := 36) (by decide) (by decide) r3 r4
  obtain ⟨y, rfl, hy1, hy2⟩ := rngN (lo := 1) (hi := 36) (by decide) (by decide) s3 s4
  have hxy : x * y ≤ 36 * 36 := Nat.mul_le_mul hx2 hy2
  have e36 : ii x * ii y ≤ (36 : Int32) ↔ x * y ≤ 36 := by rw [ii_mul, show (36 : Int32) = ii 36 from rfl, ii_le (by omega) (by decide)]
  by_cases hN : x * y ≤ 36
  · obtain ⟨B, hB, hG, hf⟩ := begin_i M hx1 hy1 hN
    have g22 := hG.2.2.2.2.2.1
    refine ⟨0, ii (x * y), sL (sI (sI (sI B 0 2 0) 14 2 0) 17 0 0) 29 0 (ii (x * y)).toInt64, sI (sI (sI (sI (sI (sI (sL (sI (sI (sI B 0 2 0) 14 2 0) 17 0 0) 29 0 (ii (x * y)).toInt64) 19 15 0) 19 0 (ii x)) 19 1 (ii y)) 19 2 0) 19 4 0) 19 6 0, ?_, ?_, rfl, fun _ => rfl, x, y, 0, a, 0, q, 0, 0, hG.f (fun k j hk => by rcases hk with rfl | rfl <;> exact ⟨rfl, rfl⟩), ⟨hx1, hy1, hN, rfl, rfl⟩, ⟨by decide, rfl, rfl, fun i hi => absurd hi (Nat.not_lt_zero i)⟩, ⟨by decide, rfl, rfl, ?_, fun i hi => absurd hi (Nat.not_lt_zero i)⟩, ⟨rfl, rfl, by decide, fun z => absurd rfl z⟩⟩
    · simp only [d_L_group, d_X7_group, r1, s1, if_pos (e36.mpr hN), hB, d_X6_forget, d_X3_clear, onV_ok, onV_thr, onI_ok, onI_thr, onL_ok, onL_thr, Option.bind_some, c10, c00, cl0, cl1, cl2, cl3, e1a, e1b, e1c, e2a, e2b, e2c, e3a, e3b, e3c, inb0, ix0, if_true, if_false, reduceIte]
      rw [show (sI (sI (sI B 0 2 0) 14 2 0) 17 0 0).1 2 2 = B.1 2 2 from rfl, g22]
    · simp only [d_X8_group, r2, s2, if_pos (e36.mpr hN), onV_ok, onV_thr, onI_ok, onI_thr, onL_ok, onL_thr, Option.bind_some, c10, c00, cl0, cl1, cl2, cl3, e1a, e1b, e1c, e2a, e2b, e2c, e3a, e3b, e3c, inb0, ix0, if_true, if_false, reduceIte]
      rw [show d_X8_size (sI (sI (sI (sI (sI (sI (sL (sI (sI (sI B 0 2 0) 14 2 0) 17 0 0) 29 0 (ii (x * y)).toInt64) 19 15 0) 19 0 (ii x)) 19 1 (ii y)) 19 2 0) 19 4 0) 19 6 0) = ii x * ii y from rfl, ii_mul]
    · show B.1 16 0 = 0
      rw [(hf 16 0 (by decide) (by decide)).1]
      exact h.2.2.2.1.2.2.2.1
  · exact CsI.thr h 1 0 (by decide) (by simp only [d_L_group, d_X7_group, r1, s1, if_neg (fun z => hN (e36.mp z)), onV_ok, onV_thr, onI_ok, onI_thr, onL_ok, onL_thr, Option.bind_some, c10, c00, cl0, cl1, cl2, cl3, e1a, e1b, e1c, e2a, e2b, e2c, e3a, e3b, e3c, inb0, ix0, if_true, if_false, reduceIte]) (by simp only [d_X8_group, r2, s2, if_neg (fun z => hN (e36.mp z)), onV_ok, onV_thr, onI_ok, onI_thr, onL_ok, onL_thr, Option.bind_some, c10, c00, cl0, cl1, cl2, cl3, e1a, e1b, e1c, e2a, e2b, e2c, e3a, e3b, e3c, inb0, ix0, if_true, if_false, reduceIte])
end Cas
