/-! THE CLASS GOES WITH IT, 2: the calls that change the house, searches, games, maps, rows, transforms -/
section Gob
variable {M : Mem} {s : HS}
theorem go_set (h : Rel M s) (v1 : Int64) : Go (d_X7_set v1 M) (p_set v1 s) := by
  have hN := h.1.2.2.1
  have hall := h.1.2.2.2.2.2.2.1
  obtain ⟨x, hx, rfl⟩ := ll_of v1
  unfold p_set
  rw [ll_nat, Nat.mod_eq_of_lt hx]
  by_cases h0 : x = 0
  · subst h0
    have e := (lc_z (a := 0) (by decide)).mpr rfl
    exact Go.x2 h (by simp only [d_X7_set, e, onV_ok, onV_thr, onI_ok, onI_thr, onL_ok, onL_thr, Option.bind_some, c10, c00, cl0, cl1, cl2, cl3, e1a, e1b, e1c, e2a, e2b, e2c, e3a, e3b, e3c, inb0, ix0, if_true, if_false, reduceIte])
  have e0 : ¬ lg_cmp (ll x) 0 = 0 := fun z => h0 ((lc_z hx).mp z)
  have hx2 : x &&& ((2 ^ (s.1.1 * s.1.2) - 1) ^^^ (2 ^ 64 - 1)) < 18446744073709551616 := Nat.lt_of_le_of_lt Nat.and_le_left hx
  have ec : d_X1_hasAll (ll x) M = if lg_cmp (ll (x &&& ((2 ^ (s.1.1 * s.1.2) - 1) ^^^ (2 ^ 64 - 1)))) 0 = 0 then 1 else 0 := by
    unfold d_X1_hasAll
    rw [hall, ll_not, ll_and]
  rw [show Nat.beq x 0 = false from by rw [← Bool.not_eq_true, nb]; exact h0, Bool.false_or]
  by_cases hin : x < 2 ^ (s.1.1 * s.1.2)
  · have e1 : lg_cmp (ll (x &&& ((2 ^ (s.1.1 * s.1.2) - 1) ^^^ (2 ^ 64 - 1)))) 0 = 0 := (lc_z hx2).mpr ((inAll hx hN).mpr hin)
    rw [show Nat.blt x (2 ^ (s.1.1 * s.1.2)) = true from Nat.ble_eq_true_of_le hin, Bool.not_true, cond_false]
    have g := (go_keep h hin).on (kpP_form s x)
    rw [show d_X7_set (ll x) M = onI (d_X7_keepSet (ll x) M) (fun w M => some (.inl (some (.int w)), M)) (fun r => some r) from by simp only [d_X7_set, if_neg e0, ec, e1, onV_ok, onV_thr, onI_ok, onI_thr, onL_ok, onL_thr, Option.bind_some, c10, c00, cl0, cl1, cl2, cl3, e1a, e1b, e1c, e2a, e2b, e2c, e3a, e3b, e3c, inb0, ix0, if_true, if_false, reduceIte]]
    exact g
  · have e1 : ¬ lg_cmp (ll (x &&& ((2 ^ (s.1.1 * s.1.2) - 1) ^^^ (2 ^ 64 - 1)))) 0 = 0 := fun z => hin ((inAll hx hN).mp ((lc_z hx2).mp z))
    rw [show Nat.blt x (2 ^ (s.1.1 * s.1.2)) = false from by rw [← Bool.not_eq_true]; exact fun z => hin (Nat.le_of_ble_eq_true z), Bool.not_false, cond_true]
    exact Go.x2 h (by simp only [d_X7_set, if_neg e0, ec, if_neg e1, onV_ok, onV_thr, onI_ok, onI_thr, onL_ok, onL_thr, Option.bind_some, c10, c00, cl0, cl1, cl2, cl3, e1a, e1b, e1c, e2a, e2b, e2c, e3a, e3b, e3c, inb0, ix0, if_true, if_false, reduceIte])
theorem go_combine (h : Rel M s) (v1 v2 v3 : Int32) : Go (d_X7_combine v1 v2 v3 M) (p_combine v1 v2 v3 s) := by
  have hm := h.1.1
  have hn := h.1.2.1
  unfold p_combine
  rcases hSet h v2 with b1 | ⟨i, hi, rfl⟩
  · rw [onS_bad h b1]; exact Go.x1 h (by simp only [d_X7_combine, needSet_bad h b1, onV_ok, onV_thr, onI_ok, onI_thr, onL_ok, onL_thr, Option.bind_some, c10, c00, cl0, cl1, cl2, cl3, e1a, e1b, e1c, e2a, e2b, e2c, e3a, e3b, e3c, inb0, ix0, if_true, if_false, reduceIte])
  rw [onS_ok h hi]
  rcases hSet h v3 with b2 | ⟨j, hj, rfl⟩
  · rw [onS_bad h b2]; exact Go.x1 h (by simp only [d_X7_combine, needSet_ok h hi, needSet_bad h b2, onV_ok, onV_thr, onI_ok, onI_thr, onL_ok, onL_thr, Option.bind_some, c10, c00, cl0, cl1, cl2, cl3, e1a, e1b, e1c, e2a, e2b, e2c, e3a, e3b, e3c, inb0, ix0, if_true, if_false, reduceIte])
  rw [onS_ok h hj]
  rcases inR (0 : Int32) v1 (5 : Int32) with r1 | ⟨r1, r3, r4⟩
  · rw [rg_bad (by decide) (by decide) r1]; exact Go.x2 h (by simp only [d_X7_combine, needSet_ok h hi, needSet_ok h hj, r1, onV_ok, onV_thr, onI_ok, onI_thr, onL_ok, onL_thr, Option.bind_some, c10, c00, cl0, cl1, cl2, cl3, e1a, e1b, e1c, e2a, e2b, e2c, e3a, e3b, e3c, inb0, ix0, if_true, if_false, reduceIte])
  obtain ⟨l, rfl, hl1, hl⟩ := rngN (lo := 0) (hi := 5) (by decide) (by decide) r3 r4
  rw [rg_ok hl1 hl (by decide)]
  show Go _ (kpP s (cbC s.1.1 s.1.2 l (gN s.2.1 i) (gN s.2.1 j)))
  have hi' := set_lt h hi
  have hj' := set_lt h hj
  rw [← cbC_eq hm hn l _ hj']
  have g := (go_keep h (comb_lt (l := l) hi' hj')).on (kpP_form s _)
  rw [show d_X7_combine (ii l) (ii i) (ii j) M = onI (d_X7_keepSet (ll (comb s.1.1 s.1.2 l (gN s.2.1 i) (gN s.2.1 j))) M) (fun w M => some (.inl (some (.int w)), M)) (fun r => some r) from by simp only [d_X7_combine, needSet_ok h hi, needSet_ok h hj, r1, bitsOf_ok h hi, bitsOf_ok h hj, ccomb h.1 hl hi' hj', onV_ok, onV_thr, onI_ok, onI_thr, onL_ok, onL_thr, Option.bind_some, c10, c00, cl0, cl1, cl2, cl3, e1a, e1b, e1c, e2a, e2b, e2c, e3a, e3b, e3c, inb0, ix0, if_true, if_false, reduceIte]]
  exact g
theorem go_move (h : Rel M s) (v1 v2 v3 : Int32) : Go (d_X7_move v1 v2 v3 M) (p_move v1 v2 v3 s) := by
  have hm := h.1.1
  have hn := h.1.2.1
  unfold p_move
  rcases hSet h v1 with b1 | ⟨i, hi, rfl⟩
  · rw [onS_bad h b1]; exact Go.x1 h (by simp only [d_X7_move, needSet_bad h b1, onV_ok, onV_thr, onI_ok, onI_thr, onL_ok, onL_thr, Option.bind_some, c10, c00, cl0, cl1, cl2, cl3, e1a, e1b, e1c, e2a, e2b, e2c, e3a, e3b, e3c, inb0, ix0, if_true, if_false, reduceIte])
  rw [onS_ok h hi]
  rcases hEl h v3 with b3 | ⟨e, he, rfl⟩
  · rw [onE_bad h b3]; exact Go.x1 h (by simp only [d_X7_move, needSet_ok h hi, needElement_bad h b3, onV_ok, onV_thr, onI_ok, onI_thr, onL_ok, onL_thr, Option.bind_some, c10, c00, cl0, cl1, cl2, cl3, e1a, e1b, e1c, e2a, e2b, e2c, e3a, e3b, e3c, inb0, ix0, if_true, if_false, reduceIte])
  rw [onE_ok h he]
  rcases inR (-100 : Int32) v2 (100 : Int32) with r1 | ⟨r1, r3, r4⟩
  · rw [rz_bad r1]; exact Go.x2 h (by simp only [d_X7_move, needSet_ok h hi, needElement_ok h he, r1, onV_ok, onV_thr, onI_ok, onI_thr, onL_ok, onL_thr, Option.bind_some, c10, c00, cl0, cl1, cl2, cl3, e1a, e1b, e1c, e2a, e2b, e2c, e3a, e3b, e3c, inb0, ix0, if_true, if_false, reduceIte])
  obtain ⟨t, rfl, ht1, ht2⟩ := rngZ (lo := -100) (hi := 100) (by decide) (by decide) (by decide) (by decide) r3 r4
  rw [rz_ok ht1 ht2]
  show Go _ (kpP s (mvC s.1.1 s.1.2 (gN s.2.1 i) t e))
  have hi' := set_lt h hi
  have hs := multiples_i h.1 ⟨ht1, ht2⟩ hi'
  have hsh := shifted_i h.1 (s := st (s.1.1 * s.1.2) (fun i' => ∃ x, x < s.1.1 * s.1.2 ∧ (gN s.2.1 i).testBit x = true ∧ ml s.1.1 s.1.2 t x = i')) (st_lt _ _) he
  have hsh' : d_X1_shifted (ll (st (s.1.1 * s.1.2) (fun i' => ∃ x, x < s.1.1 * s.1.2 ∧ (gN s.2.1 i).testBit x = true ∧ ml s.1.1 s.1.2 t x = i'))) (ii e) M = ll (mvS s.1.1 s.1.2 (gN s.2.1 i) t e) := hsh
  rw [← mvC_eq hm hn _ t he]
  have g := (go_keep h (mv_lt (gN s.2.1 i) t e)).on (kpP_form s _)
  rw [show d_X7_move (ii i) (zi t) (ii e) M = onI (d_X7_keepSet (ll (mvS s.1.1 s.1.2 (gN s.2.1 i) t e)) M) (fun w M => some (.inl (some (.int w)), M)) (fun r => some r) from by simp only [d_X7_move, needSet_ok h hi, needElement_ok h he, r1, bitsOf_ok h hi, hs, hsh', onV_ok, onV_thr, onI_ok, onI_thr, onL_ok, onL_thr, Option.bind_some, c10, c00, cl0, cl1, cl2, cl3, e1a, e1b, e1c, e2a, e2b, e2c, e3a, e3b, e3c, inb0, ix0, if_true, if_false, reduceIte]]
  exact g
theorem go_put (h : Rel M s) (v1 : Int32) : Go (d_X7_put v1 M) (p_put v1 s) := by
  obtain ⟨hr12, hr1, -, hr3, hr4⟩ := h.2.2.2.1
  unfold p_put
  rcases hEl h v1 with b1 | ⟨e, he, rfl⟩
  · rw [onE_bad h b1]; exact Go.x1 h (by simp only [d_X7_put, needElement_bad h b1, onV_ok, onV_thr, onI_ok, onI_thr, onL_ok, onL_thr, Option.bind_some, c10, c00, cl0, cl1, cl2, cl3, e1a, e1b, e1c, e2a, e2b, e2c, e3a, e3b, e3c, inb0, ix0, if_true, if_false, reduceIte])
  rw [onE_ok h he]
  have c12 : (ii s.2.2.1.length < (12 : Int32)) ↔ s.2.2.1.length < 12 := by rw [show (12 : Int32) = ii 12 from rfl, ii_lt (by omega) (by decide)]
  by_cases hf : 12 ≤ s.2.2.1.length
  · have x1 : ¬ M.1 14 2 < (12 : Int32) := by rw [hr1, c12]; omega
    rw [nble.mpr hf, cond_true]
    exact Go.x3 h (by simp only [d_X7_put, needElement_ok h he, if_neg x1, onV_ok, onV_thr, onI_ok, onI_thr, onL_ok, onL_thr, Option.bind_some, c10, c00, cl0, cl1, cl2, cl3, e1a, e1b, e1c, e2a, e2b, e2c, e3a, e3b, e3c, inb0, ix0, if_true, if_false, reduceIte])
  have x1 : M.1 14 2 < (12 : Int32) := by rw [hr1, c12]; omega
  rw [show Nat.ble 12 s.2.2.1.length = false from by rw [← Bool.not_eq_true, nble]; exact hf, cond_false]
  have ap : d_X3_append (ii e) M = sI (sI M 15 s.2.2.1.length (ii e)) 14 2 (ii (s.2.2.1.length + 1)) := by
    have lay : d_X7_lay 15 12 (M.1 14 2) (ii e) M = sI M 15 s.2.2.1.length (ii e) := by
      unfold d_X7_lay
      rw [hr1, if_neg (ii_lt0 (by omega)), if_pos (c12.mpr (by omega)), ii_ix (by omega)]
    unfold d_X3_append
    rw [lay, show (sI M 15 s.2.2.1.length (ii e)).1 14 2 = M.1 14 2 from rfl, hr1, ii_inc]
  refine ⟨sI (sI M 15 s.2.2.1.length (ii e)) 14 2 (ii (s.2.2.1.length + 1)), ?_, ?_⟩
  · simp only [d_X7_put, needElement_ok h he, if_pos x1, ap, onV_ok, onV_thr, onI_ok, onI_thr, onL_ok, onL_thr, Option.bind_some, c10, c00, cl0, cl1, cl2, cl3, e1a, e1b, e1c, e2a, e2b, e2c, e3a, e3b, e3c, inb0, ix0, if_true, if_false, reduceIte]
    rfl
  · refine row_inv h (((Fr.rf (rS s.2.2.1.length) M).i 15 _ _ (by unfold rS; omega)).i 14 2 _ (by unfold rS; omega)) ?_
    show RI _ _ (s.2.2.1 ++ [e]).length (gN (s.2.2.1 ++ [e]))
    rw [List.length_append, List.length_singleton]
    refine RI.congr (a := fun i => if i = s.2.2.1.length then e else gN s.2.2.1 i) ⟨by omega, rfl, trivial, hr3, fun i hi => ?_⟩ (fun i hi => gN_app s.2.2.1 e i hi)
    show (sI M 15 s.2.2.1.length (ii e)).1 15 i = _ ∧ _ ∧ _
    by_cases z : i = s.2.2.1.length
    · subst z
      rw [sI_at]
      simp only [if_true]
      exact ⟨trivial, trivial, he⟩
    · rw [sI_ne _ _ (fun y => z y.2)]
      simp only [z, if_false]
      exact hr4 i (by omega)
theorem go_wipe (h : Rel M s) : Go (d_X7_wipe M) (p_wipe s) := by
  obtain ⟨hr12, hr1, -, hr3, hr4⟩ := h.2.2.2.1
  refine ⟨sI M 14 2 0, ?_, row_inv h ((Fr.rf (rS s.2.2.1.length) M).i 14 2 _ (by unfold rS; omega)) ⟨Nat.zero_le _, rfl, trivial, hr3, fun i hi => absurd hi (Nat.not_lt_zero i)⟩⟩
  unfold d_X7_wipe
  rw [hr1]
  rfl
theorem go_zero (h : Rel M s) : Go (d_X7_zero M) (p_zero s) := by
  obtain ⟨D, d1, d2⟩ := czero_i h
  refine ⟨D, ?_, h.w d2⟩
  unfold d_X7_zero
  rw [d1]
  rfl
theorem go_group (h : Rel M s) (v1 v2 : Int32) : Go (d_X7_group v1 v2 M) (p_group v1 v2 s) := by
  unfold p_group
  rcases inR (1 : Int32) v1 (36 : Int32) with r1 | ⟨r1, r3, r4⟩
  · rw [rg_bad (by decide) (by decide) r1]; exact Go.x2 h (by simp only [d_X7_group, r1, onV_ok, onV_thr, onI_ok, onI_thr, onL_ok, onL_thr, Option.bind_some, c10, c00, cl0, cl1, cl2, cl3, e1a, e1b, e1c, e2a, e2b, e2c, e3a, e3b, e3c, inb0, ix0, if_true, if_false, reduceIte])
  obtain ⟨x, rfl, hx1, hx2⟩ := rngN (lo := 1) (hi := 36) (by decide) (by decide) r3 r4
  rw [rg_ok hx1 hx2 (by decide)]
  show Go _ (onO (rgN 1 36 v2) (fun y => bif Nat.ble (x * y) 36 then aI (ii (x * y)) ((x, y), [], [], 0, 0) else aX 2 s) (aX 2 s))
  rcases inR (1 : Int32) v2 (36 : Int32) with s1 | ⟨s1, s3, s4⟩
  · rw [rg_bad (by decide) (by decide) s1]; exact Go.x2 h (by simp only [d_X7_group, r1, s1, onV_ok, onV_thr, onI_ok, onI_thr, onL_ok, onL_thr, Option.bind_some, c10, c00, cl0, cl1, cl2, cl3, e1a, e1b, e1c, e2a, e2b, e2c, e3a, e3b, e3c, inb0, ix0, if_true, if_false, reduceIte])
  obtain ⟨y, rfl, hy1, hy2⟩ := rngN (lo := 1) (hi := 36) (by decide) (by decide) s3 s4
  rw [rg_ok hy1 hy2 (by decide)]
  show Go _ (bif Nat.ble (x * y) 36 then aI (ii (x * y)) ((x, y), [], [], 0, 0) else aX 2 s)
  have hxy : x * y ≤ 36 * 36 := Nat.mul_le_mul hx2 hy2
  have e36 : ii x * ii y ≤ (36 : Int32) ↔ x * y ≤ 36 := by rw [ii_mul, show (36 : Int32) = ii 36 from rfl, ii_le (by omega) (by decide)]
  by_cases hN : x * y ≤ 36
  · obtain ⟨B, hB, hG, hf⟩ := begin_i M hx1 hy1 hN
    have g22 := hG.2.2.2.2.2.1
    rw [nble.mpr hN, cond_true]
    refine ⟨sI (sI (sI B 0 2 0) 14 2 0) 17 0 0, ?_, hG.f (fun k j hk => by rcases hk with rfl | rfl <;> exact ⟨rfl, rfl⟩), trivial, ⟨Nat.zero_le 30, rfl, trivial, fun i hi => absurd hi (Nat.not_lt_zero i)⟩, ⟨Nat.zero_le 12, rfl, trivial, ?_, fun i hi => absurd hi (Nat.not_lt_zero i)⟩, ⟨rfl, trivial, Nat.zero_le 9999, fun z => absurd rfl z⟩⟩
    · simp only [d_X7_group, r1, s1, if_pos (e36.mpr hN), hB, d_X6_forget, d_X3_clear, onV_ok, onV_thr, onI_ok, onI_thr, onL_ok, onL_thr, Option.bind_some, c10, c00, cl0, cl1, cl2, cl3, e1a, e1b, e1c, e2a, e2b, e2c, e3a, e3b, e3c, inb0, ix0, if_true, if_false, reduceIte]
      rw [show (sI (sI (sI B 0 2 0) 14 2 0) 17 0 0).1 2 2 = B.1 2 2 from rfl, g22]
      rfl
    · show B.1 16 0 = 0
      rw [(hf 16 0 (by decide) (by decide)).1]
      exact h.2.2.2.1.2.2.2.1
  · rw [show Nat.ble (x * y) 36 = false from by rw [← Bool.not_eq_true, nble]; exact hN, cond_false]
    exact Go.x2 h (by simp only [d_X7_group, r1, s1, if_neg (fun z => hN (e36.mp z)), onV_ok, onV_thr, onI_ok, onI_thr, onL_ok, onL_thr, Option.bind_some, c10, c00, cl0, cl1, cl2, cl3, e1a, e1b, e1c, e2a, e2b, e2c, e3a, e3b, e3c, inb0, ix0, if_true, if_false, reduceIte])
theorem go_constant (h : Rel M s) : Go (d_X7_constant M) (p_constant s) := by
  have hN := h.1.2.2.1
  have h2 := h.1.2.2.2.2.2.1
  have e10 : ii (s.1.1 * s.1.2) ≤ (10 : Int32) ↔ s.1.1 * s.1.2 ≤ 10 := by rw [show (10 : Int32) = ii 10 from rfl, ii_le (by omega) (by decide)]
  unfold p_constant
  by_cases h10 : s.1.1 * s.1.2 ≤ 10
  · rw [nble.mpr h10, cond_true]
    exact Go.i h (by simp only [d_X7_constant, h2, if_pos (e10.mpr h10), cconst_i h.1, onV_ok, onV_thr, onI_ok, onI_thr, onL_ok, onL_thr, Option.bind_some, c10, c00, cl0, cl1, cl2, cl3, e1a, e1b, e1c, e2a, e2b, e2c, e3a, e3b, e3c, inb0, ix0, if_true, if_false, reduceIte])
  · rw [show Nat.ble (s.1.1 * s.1.2) 10 = false from by rw [← Bool.not_eq_true, nble]; exact h10, cond_false]
    exact Go.x3 h (by simp only [d_X7_constant, h2, if_neg (fun z => h10 (e10.mp z)), onV_ok, onV_thr, onI_ok, onI_thr, onL_ok, onL_thr, Option.bind_some, c10, c00, cl0, cl1, cl2, cl3, e1a, e1b, e1c, e2a, e2b, e2c, e3a, e3b, e3c, inb0, ix0, if_true, if_false, reduceIte])
theorem go_greatest (h : Rel M s) (v1 v2 : Int32) : Go (d_X7_greatest v1 v2 M) (p_greatest v1 v2 s) := by
  have hN := h.1.2.2.1
  have hm := h.1.1
  have hn := h.1.2.1
  unfold p_greatest
  rcases hSet h v1 with b1 | ⟨i, hi, rfl⟩
  · rw [onS_bad h b1]; exact Go.x1 h (by simp only [d_X7_greatest, needSet_bad h b1, onV_ok, onV_thr, onI_ok, onI_thr, onL_ok, onL_thr, Option.bind_some, c10, c00, cl0, cl1, cl2, cl3, e1a, e1b, e1c, e2a, e2b, e2c, e3a, e3b, e3c, inb0, ix0, if_true, if_false, reduceIte])
  rw [onS_ok h hi]
  rcases inR (0 : Int32) v2 (3 : Int32) with r1 | ⟨r1, r3, r4⟩
  · rw [rg_bad (by decide) (by decide) r1]; exact Go.x1 h (by simp only [d_X7_greatest, d_X7_needRule, needSet_ok h hi, r1, onV_ok, onV_thr, onI_ok, onI_thr, onL_ok, onL_thr, Option.bind_some, c10, c00, cl0, cl1, cl2, cl3, e1a, e1b, e1c, e2a, e2b, e2c, e3a, e3b, e3c, inb0, ix0, if_true, if_false, reduceIte])
  obtain ⟨l, rfl, hl1, hl2⟩ := rngN (lo := 0) (hi := 3) (by decide) (by decide) r3 r4
  rw [rg_ok hl1 hl2 (by decide)]
  show Go _ (bif Nat.ble (sz (gN s.2.1 i)) 12 then aL (ll (gsC s.1.1 s.1.2 l (gN s.2.1 i) (gN s.2.1 i + 1))) s else aX 3 s)
  have hs := set_lt h hi
  have bc : d_J13_bitCount_95d88 (ll (gN s.2.1 i)) = ii (sz (gN s.2.1 i)) := bitCount_i (set64 hs hN)
  have e12 : ii (sz (gN s.2.1 i)) ≤ (12 : Int32) ↔ sz (gN s.2.1 i) ≤ 12 := by rw [show (12 : Int32) = ii 12 from rfl, ii_le (sz36 _) (by decide)]
  by_cases h12 : sz (gN s.2.1 i) ≤ 12
  · rw [nble.mpr h12, cond_true]
    obtain ⟨b, g1, g2⟩ := byBranches_i h.1 (show l < 4 by omega) hs h12
    have hS36 : gN s.2.1 i < 2 ^ 36 := Nat.lt_of_lt_of_le hs (Nat.pow_le_pow_right (by decide) hN)
    have eb : b = gsC s.1.1 s.1.2 l (gN s.2.1 i) (gN s.2.1 i + 1) := BB.one hS36 hS36 (Nat.lt_succ_self _) g2 (gsC_is hm hn (by omega) hs _)
    rw [← eb]
    exact Go.l h (by simp only [d_X7_greatest, d_X7_needRule, d_X7_needSearchable, needSet_ok h hi, r1, bitsOf_ok h hi, bc, if_pos (e12.mpr h12), g1, onV_ok, onV_thr, onI_ok, onI_thr, onL_ok, onL_thr, Option.bind_some, c10, c00, cl0, cl1, cl2, cl3, e1a, e1b, e1c, e2a, e2b, e2c, e3a, e3b, e3c, inb0, ix0, if_true, if_false, reduceIte])
  · rw [show Nat.ble (sz (gN s.2.1 i)) 12 = false from by rw [← Bool.not_eq_true, nble]; exact h12, cond_false]
    exact Go.x3 h (by simp only [d_X7_greatest, d_X7_needRule, d_X7_needSearchable, needSet_ok h hi, r1, bitsOf_ok h hi, bc, if_neg (fun z => h12 (e12.mp z)), onV_ok, onV_thr, onI_ok, onI_thr, onL_ok, onL_thr, Option.bind_some, c10, c00, cl0, cl1, cl2, cl3, e1a, e1b, e1c, e2a, e2b, e2c, e3a, e3b, e3c, inb0, ix0, if_true, if_false, reduceIte])
theorem go_greatestAnew (h : Rel M s) (v1 v2 : Int32) : Go (d_X7_greatestAnew v1 v2 M) (p_greatest v1 v2 s) := by
  have hN := h.1.2.2.1
  have hm := h.1.1
  have hn := h.1.2.1
  unfold p_greatest
  rcases hSet h v1 with b1 | ⟨i, hi, rfl⟩
  · rw [onS_bad h b1]; exact Go.x1 h (by simp only [d_X7_greatestAnew, needSet_bad h b1, onV_ok, onV_thr, onI_ok, onI_thr, onL_ok, onL_thr, Option.bind_some, c10, c00, cl0, cl1, cl2, cl3, e1a, e1b, e1c, e2a, e2b, e2c, e3a, e3b, e3c, inb0, ix0, if_true, if_false, reduceIte])
  rw [onS_ok h hi]
  rcases inR (0 : Int32) v2 (3 : Int32) with r1 | ⟨r1, r3, r4⟩
  · rw [rg_bad (by decide) (by decide) r1]; exact Go.x1 h (by simp only [d_X7_greatestAnew, d_X7_needRule, needSet_ok h hi, r1, onV_ok, onV_thr, onI_ok, onI_thr, onL_ok, onL_thr, Option.bind_some, c10, c00, cl0, cl1, cl2, cl3, e1a, e1b, e1c, e2a, e2b, e2c, e3a, e3b, e3c, inb0, ix0, if_true, if_false, reduceIte])
  obtain ⟨l, rfl, hl1, hl2⟩ := rngN (lo := 0) (hi := 3) (by decide) (by decide) r3 r4
  rw [rg_ok hl1 hl2 (by decide)]
  show Go _ (bif Nat.ble (sz (gN s.2.1 i)) 12 then aL (ll (gsC s.1.1 s.1.2 l (gN s.2.1 i) (gN s.2.1 i + 1))) s else aX 3 s)
  have hs := set_lt h hi
  have bc : d_J13_bitCount_95d88 (ll (gN s.2.1 i)) = ii (sz (gN s.2.1 i)) := bitCount_i (set64 hs hN)
  have e12 : ii (sz (gN s.2.1 i)) ≤ (12 : Int32) ↔ sz (gN s.2.1 i) ≤ 12 := by rw [show (12 : Int32) = ii 12 from rfl, ii_le (sz36 _) (by decide)]
  by_cases h12 : sz (gN s.2.1 i) ≤ 12
  · rw [nble.mpr h12, cond_true]
    obtain ⟨b, g1, g2⟩ := byAll_i h.1 (show l < 4 by omega) hs h12
    have hS36 : gN s.2.1 i < 2 ^ 36 := Nat.lt_of_lt_of_le hs (Nat.pow_le_pow_right (by decide) hN)
    have eb : b = gsC s.1.1 s.1.2 l (gN s.2.1 i) (gN s.2.1 i + 1) := BB.one hS36 (Nat.lt_succ_self _) (Nat.lt_succ_self _) g2 (gsC_is hm hn (by omega) hs _)
    rw [← eb]
    exact Go.l h (by simp only [d_X7_greatestAnew, d_X7_needRule, d_X7_needSearchable, needSet_ok h hi, r1, bitsOf_ok h hi, bc, if_pos (e12.mpr h12), g1, onV_ok, onV_thr, onI_ok, onI_thr, onL_ok, onL_thr, Option.bind_some, c10, c00, cl0, cl1, cl2, cl3, e1a, e1b, e1c, e2a, e2b, e2c, e3a, e3b, e3c, inb0, ix0, if_true, if_false, reduceIte])
  · rw [show Nat.ble (sz (gN s.2.1 i)) 12 = false from by rw [← Bool.not_eq_true, nble]; exact h12, cond_false]
    exact Go.x3 h (by simp only [d_X7_greatestAnew, d_X7_needRule, d_X7_needSearchable, needSet_ok h hi, r1, bitsOf_ok h hi, bc, if_neg (fun z => h12 (e12.mp z)), onV_ok, onV_thr, onI_ok, onI_thr, onL_ok, onL_thr, Option.bind_some, c10, c00, cl0, cl1, cl2, cl3, e1a, e1b, e1c, e2a, e2b, e2c, e3a, e3b, e3c, inb0, ix0, if_true, if_false, reduceIte])
theorem go_wins (h : Rel M s) (v1 : Int32) (v2 : Int64) : Go (d_X7_wins v1 v2 M) (p_wins v1 v2 s) := by
  have hN := h.1.2.2.1
  have hall := h.1.2.2.2.2.2.2.1
  have h2 := h.1.2.2.2.2.2.1
  have hm := h.1.1
  have hn := h.1.2.1
  unfold p_wins
  rcases inR (0 : Int32) v1 (3 : Int32) with r1 | ⟨r1, r3, r4⟩
  · rw [rg_bad (by decide) (by decide) r1]; exact Go.x1 h (by simp only [d_X7_wins, d_X7_needRule, r1, onV_ok, onV_thr, onI_ok, onI_thr, onL_ok, onL_thr, Option.bind_some, c10, c00, cl0, cl1, cl2, cl3, e1a, e1b, e1c, e2a, e2b, e2c, e3a, e3b, e3c, inb0, ix0, if_true, if_false, reduceIte])
  obtain ⟨l, rfl, hl1, hl2⟩ := rngN (lo := 0) (hi := 3) (by decide) (by decide) r3 r4
  rw [rg_ok hl1 hl2 (by decide)]
  have hl : l < 4 := by omega
  obtain ⟨x, hx, rfl⟩ := ll_of v2
  have hx2 : x &&& ((2 ^ (s.1.1 * s.1.2) - 1) ^^^ (2 ^ 64 - 1)) < 18446744073709551616 := Nat.lt_of_le_of_lt Nat.and_le_left hx
  have ec : d_X1_hasAll (ll x) M = if lg_cmp (ll (x &&& ((2 ^ (s.1.1 * s.1.2) - 1) ^^^ (2 ^ 64 - 1)))) 0 = 0 then 1 else 0 := by
    unfold d_X1_hasAll
    rw [hall, ll_not, ll_and]
  unfold onO
  dsimp only
  rw [ll_nat, Nat.mod_eq_of_lt hx]
  by_cases hin : x < 2 ^ (s.1.1 * s.1.2)
  · have e1 : lg_cmp (ll (x &&& ((2 ^ (s.1.1 * s.1.2) - 1) ^^^ (2 ^ 64 - 1)))) 0 = 0 := (lc_z hx2).mpr ((inAll hx hN).mpr hin)
    rw [show Nat.blt x (2 ^ (s.1.1 * s.1.2)) = true from Nat.ble_eq_true_of_le hin, Bool.not_true, Bool.false_or]
    by_cases ck : Keep s.1.1 s.1.2 l x
    · have k0 : ¬ bI (Keep s.1.1 s.1.2 l x) = 0 := by rw [bI_t ck]; decide
      rw [(kpC_iff hm hn l hin).mpr ck, Bool.not_true, cond_false]
      have e10 : ii (s.1.1 * s.1.2) ≤ (10 : Int32) ↔ s.1.1 * s.1.2 ≤ 10 := by rw [show (10 : Int32) = ii 10 from rfl, ii_le (by omega) (by decide)]
      by_cases h10 : s.1.1 * s.1.2 ≤ 10
      · obtain ⟨D, C, d1, d2, d3⟩ := winning_i h.1 hl h10 hin
        rw [nble.mpr h10, cond_true, ← wnC_eq hm hn hN l hin d3]
        refine ⟨D, ?_, h.w d2⟩
        simp only [d_X7_wins, d_X7_needRule, r1, ec, e1, hold_i h.1 hl hin, if_neg k0, h2, if_pos (e10.mpr h10), ll_i32, d1, onV_ok, onV_thr, onI_ok, onI_thr, onL_ok, onL_thr, Option.bind_some, c10, c00, cl0, cl1, cl2, cl3, e1a, e1b, e1c, e2a, e2b, e2c, e3a, e3b, e3c, inb0, ix0, if_true, if_false, reduceIte]
        rfl
      · rw [show Nat.ble (s.1.1 * s.1.2) 10 = false from by rw [← Bool.not_eq_true, nble]; exact h10, cond_false]
        exact Go.x3 h (by simp only [d_X7_wins, d_X7_needRule, r1, ec, e1, hold_i h.1 hl hin, if_neg k0, h2, if_neg (fun z => h10 (e10.mp z)), onV_ok, onV_thr, onI_ok, onI_thr, onL_ok, onL_thr, Option.bind_some, c10, c00, cl0, cl1, cl2, cl3, e1a, e1b, e1c, e2a, e2b, e2c, e3a, e3b, e3c, inb0, ix0, if_true, if_false, reduceIte])
    · have k0 : bI (Keep s.1.1 s.1.2 l x) = 0 := bI_f ck
      rw [show kpC s.1.1 s.1.2 l x = false from by rw [← Bool.not_eq_true, kpC_iff hm hn l hin]; exact ck, Bool.not_false, cond_true]
      exact Go.x2 h (by simp only [d_X7_wins, d_X7_needRule, r1, ec, e1, hold_i h.1 hl hin, k0, onV_ok, onV_thr, onI_ok, onI_thr, onL_ok, onL_thr, Option.bind_some, c10, c00, cl0, cl1, cl2, cl3, e1a, e1b, e1c, e2a, e2b, e2c, e3a, e3b, e3c, inb0, ix0, if_true, if_false, reduceIte])
  · have e1 : ¬ lg_cmp (ll (x &&& ((2 ^ (s.1.1 * s.1.2) - 1) ^^^ (2 ^ 64 - 1)))) 0 = 0 := fun z => hin ((inAll hx hN).mp ((lc_z hx2).mp z))
    rw [show Nat.blt x (2 ^ (s.1.1 * s.1.2)) = false from by rw [← Bool.not_eq_true]; exact fun z => hin (Nat.le_of_ble_eq_true z), Bool.not_false, Bool.true_or, cond_true]
    exact Go.x2 h (by simp only [d_X7_wins, d_X7_needRule, r1, ec, if_neg e1, onV_ok, onV_thr, onI_ok, onI_thr, onL_ok, onL_thr, Option.bind_some, c10, c00, cl0, cl1, cl2, cl3, e1a, e1b, e1c, e2a, e2b, e2c, e3a, e3b, e3c, inb0, ix0, if_true, if_false, reduceIte])
theorem go_root (h : Rel M s) (v1 v2 : Int32) : Go (d_X7_root v1 v2 M) (p_root v1 v2 s) := by
  have hle := h.1.le
  have hm := h.1.1
  have hn := h.1.2.1
  have g0 := h.1.2.2.2.1
  have g1 := h.1.2.2.2.2.1
  unfold p_root
  rcases inR (2 : Int32) v1 (9999 : Int32) with r1 | ⟨r1, r3, r4⟩
  · rw [rg_bad (by decide) (by decide) r1]; exact Go.x2 h (by simp only [d_X7_root, r1, onV_ok, onV_thr, onI_ok, onI_thr, onL_ok, onL_thr, Option.bind_some, c10, c00, cl0, cl1, cl2, cl3, e1a, e1b, e1c, e2a, e2b, e2c, e3a, e3b, e3c, inb0, ix0, if_true, if_false, reduceIte])
  obtain ⟨x, rfl, hx2, hx9⟩ := rngN (lo := 2) (hi := 9999) (by decide) (by decide) r3 r4
  rw [rg_ok hx2 hx9 (by decide)]
  unfold onO
  dsimp only
  have ex : ii x - (1 : Int32) = ii (x - 1) := by rw [show (1 : Int32) = ii 1 from rfl, ii_sub (by omega)]
  rcases inR (1 : Int32) v2 (ii (x - 1)) with s1 | ⟨s1, s3, s4⟩
  · rw [rg_bad (by decide) (by omega) s1]; exact Go.x2 h (by simp only [d_X7_root, r1, ex, s1, onV_ok, onV_thr, onI_ok, onI_thr, onL_ok, onL_thr, Option.bind_some, c10, c00, cl0, cl1, cl2, cl3, e1a, e1b, e1c, e2a, e2b, e2c, e3a, e3b, e3c, inb0, ix0, if_true, if_false, reduceIte])
  obtain ⟨y, rfl, hy1, hy2⟩ := rngN (lo := 1) (hi := x - 1) (by decide) (by omega) s3 s4
  rw [rg_ok hy1 hy2 (by omega)]
  dsimp only
  have cr := croot_i (n := s.1.2) hx2 hx9 (show y < x by omega) hn hle.2
  by_cases cp : Prm x
  · have k0 : ¬ bI (Prm x) = 0 := by rw [bI_t cp]; decide
    rw [(prC_iff x).mpr cp, Bool.true_and]
    by_cases co : Od x y s.1.2
    · have e0 : ¬ bI (Od x y s.1.2) = 0 := by rw [bI_t co]; decide
      rw [(orC_iff x y _).mpr co, Bool.not_true, cond_false]
      by_cases cm : s.1.1 = 1
      · rw [nb.mpr cm, cond_true]
        obtain ⟨D, d1, d2, d3, d4, d5⟩ := beginT_i M hx2 hx9 (show y < x by omega) hle.2
        have g0' : M.1 2 0 = (1 : Int32) := by rw [g0, cm]; rfl
        refine ⟨D, ?_, root_inv h (fun k j hk => d5 k j (by unfold tS at hk; omega)) ⟨d2, trivial, hx9, fun _ => ⟨cm, d3, trivial, ⟨cp, hx9, hy1, (show y < x by omega), co⟩, d4⟩⟩⟩
        simp only [d_X7_root, r1, ex, s1, cprime_i hx2 hx9, if_neg k0, g1, cr, if_neg e0, g0', d1, onV_ok, onV_thr, onI_ok, onI_thr, onL_ok, onL_thr, Option.bind_some, c10, c00, cl0, cl1, cl2, cl3, e1a, e1b, e1c, e2a, e2b, e2c, e3a, e3b, e3c, inb0, ix0, if_true, if_false, reduceIte]
        rfl
      · have em : ¬ ii s.1.1 = (1 : Int32) := fun z => cm ((ii_eq (b := 1) (by omega) (by decide)).mp z)
        rw [show Nat.beq s.1.1 1 = false from by rw [← Bool.not_eq_true, nb]; exact cm, cond_false]
        exact Go.x3 h (by simp only [d_X7_root, r1, ex, s1, cprime_i hx2 hx9, if_neg k0, g1, cr, if_neg e0, g0, if_neg em, onV_ok, onV_thr, onI_ok, onI_thr, onL_ok, onL_thr, Option.bind_some, c10, c00, cl0, cl1, cl2, cl3, e1a, e1b, e1c, e2a, e2b, e2c, e3a, e3b, e3c, inb0, ix0, if_true, if_false, reduceIte])
    · have e0 : bI (Od x y s.1.2) = 0 := bI_f co
      rw [show orC x y s.1.2 = false from by rw [← Bool.not_eq_true, orC_iff]; exact co, Bool.not_false, cond_true]
      exact Go.x2 h (by simp only [d_X7_root, r1, ex, s1, cprime_i hx2 hx9, if_neg k0, g1, cr, e0, onV_ok, onV_thr, onI_ok, onI_thr, onL_ok, onL_thr, Option.bind_some, c10, c00, cl0, cl1, cl2, cl3, e1a, e1b, e1c, e2a, e2b, e2c, e3a, e3b, e3c, inb0, ix0, if_true, if_false, reduceIte])
  · have k0 : bI (Prm x) = 0 := bI_f cp
    rw [show prC x = false from by rw [← Bool.not_eq_true, prC_iff]; exact cp, Bool.false_and, Bool.not_false, cond_true]
    exact Go.x2 h (by simp only [d_X7_root, r1, ex, s1, cprime_i hx2 hx9, k0, onV_ok, onV_thr, onI_ok, onI_thr, onL_ok, onL_thr, Option.bind_some, c10, c00, cl0, cl1, cl2, cl3, e1a, e1b, e1c, e2a, e2b, e2c, e3a, e3b, e3c, inb0, ix0, if_true, if_false, reduceIte])
theorem go_transform (h : Rel M s) (v1 v2 : Int32) : Go (d_X7_transform v1 v2 M) (p_transform v1 v2 s) := by
  have hle := h.1.le
  have hn := h.1.2.1
  have g1 := h.1.2.2.2.2.1
  have hp9 := h.2.2.2.2.2.2.1
  unfold p_transform
  rcases hSet h v1 with b1 | ⟨i, hi, rfl⟩
  · rw [onS_bad h b1]; exact Go.x1 h (by simp only [d_X7_transform, needSet_bad h b1, onV_ok, onV_thr, onI_ok, onI_thr, onL_ok, onL_thr, Option.bind_some, c10, c00, cl0, cl1, cl2, cl3, e1a, e1b, e1c, e2a, e2b, e2c, e3a, e3b, e3c, inb0, ix0, if_true, if_false, reduceIte])
  rw [onS_ok h hi]
  have en : ii s.1.2 - (1 : Int32) = ii (s.1.2 - 1) := by rw [show (1 : Int32) = ii 1 from rfl, ii_sub hn]
  rcases inR (0 : Int32) v2 (ii (s.1.2 - 1)) with r1 | ⟨r1, r3, r4⟩
  · rw [rg_bad (by decide) (by omega) r1]; exact Go.x2 h (by simp only [d_X7_transform, needSet_ok h hi, g1, en, r1, onV_ok, onV_thr, onI_ok, onI_thr, onL_ok, onL_thr, Option.bind_some, c10, c00, cl0, cl1, cl2, cl3, e1a, e1b, e1c, e2a, e2b, e2c, e3a, e3b, e3c, inb0, ix0, if_true, if_false, reduceIte])
  obtain ⟨k, rfl, hk0, hk⟩ := rngN (lo := 0) (hi := s.1.2 - 1) (by decide) (by omega) r3 r4
  rw [rg_ok hk0 hk (by omega)]
  unfold onO
  dsimp only
  by_cases hp : s.2.2.2.1 = 0
  · rw [nb.mpr hp, cond_true]
    exact Go.x3 h (by simp only [d_X7_transform, needSet_ok h hi, g1, en, r1, needRoot_no h hp, onV_ok, onV_thr, onI_ok, onI_thr, onL_ok, onL_thr, Option.bind_some, c10, c00, cl0, cl1, cl2, cl3, e1a, e1b, e1c, e2a, e2b, e2c, e3a, e3b, e3c, inb0, ix0, if_true, if_false, reduceIte])
  rw [show Nat.beq s.2.2.2.1 0 = false from by rw [← Bool.not_eq_true, nb]; exact hp, cond_false]
  obtain ⟨e1, t1, t7, ⟨hpr, -, hw1, hw2, ho, -⟩, t18⟩ := h.2.2.2.2.2.2.2 hp
  have t0 := h.2.2.2.2.1
  have hS : gN s.2.1 i < 2 ^ s.1.2 := by have := set_lt h hi; rwa [e1, Nat.one_mul] at this
  exact Go.i h (by simp only [d_X7_transform, needSet_ok h hi, g1, en, r1, needRoot_ok h hp, bitsOf_ok h hi, valueAt_i t0 t1 t18 hpr.1 hp9 ho hn hle.2 (show k < s.1.2 by omega) hS, onV_ok, onV_thr, onI_ok, onI_thr, onL_ok, onL_thr, Option.bind_some, c10, c00, cl0, cl1, cl2, cl3, e1a, e1b, e1c, e2a, e2b, e2c, e3a, e3b, e3c, inb0, ix0, if_true, if_false, reduceIte])
theorem go_waysAnew (h : Rel M s) (v1 v2 v3 : Int32) : Go (d_X7_waysAnew v1 v2 v3 M) (p_waysAnew v1 v2 v3 s) := by
  have hle := h.1.le
  have hn := h.1.2.1
  have hp9 := h.2.2.2.2.2.2.1
  unfold p_waysAnew
  rcases hSet h v1 with b1 | ⟨i, hi, rfl⟩
  · rw [onS_bad h b1]; exact Go.x1 h (by simp only [d_X7_waysAnew, needSet_bad h b1, onV_ok, onV_thr, onI_ok, onI_thr, onL_ok, onL_thr, Option.bind_some, c10, c00, cl0, cl1, cl2, cl3, e1a, e1b, e1c, e2a, e2b, e2c, e3a, e3b, e3c, inb0, ix0, if_true, if_false, reduceIte])
  rw [onS_ok h hi]
  rcases hSet h v2 with b2 | ⟨j, hj, rfl⟩
  · rw [onS_bad h b2]; exact Go.x1 h (by simp only [d_X7_waysAnew, needSet_ok h hi, needSet_bad h b2, onV_ok, onV_thr, onI_ok, onI_thr, onL_ok, onL_thr, Option.bind_some, c10, c00, cl0, cl1, cl2, cl3, e1a, e1b, e1c, e2a, e2b, e2c, e3a, e3b, e3c, inb0, ix0, if_true, if_false, reduceIte])
  rw [onS_ok h hj]
  rcases hEl h v3 with b3 | ⟨e, he, rfl⟩
  · rw [onE_bad h b3]; exact Go.x1 h (by simp only [d_X7_waysAnew, needSet_ok h hi, needSet_ok h hj, needElement_bad h b3, onV_ok, onV_thr, onI_ok, onI_thr, onL_ok, onL_thr, Option.bind_some, c10, c00, cl0, cl1, cl2, cl3, e1a, e1b, e1c, e2a, e2b, e2c, e3a, e3b, e3c, inb0, ix0, if_true, if_false, reduceIte])
  rw [onE_ok h he]
  by_cases hp : s.2.2.2.1 = 0
  · rw [nb.mpr hp, cond_true]
    exact Go.x3 h (by simp only [d_X7_waysAnew, needSet_ok h hi, needSet_ok h hj, needElement_ok h he, needRoot_no h hp, onV_ok, onV_thr, onI_ok, onI_thr, onL_ok, onL_thr, Option.bind_some, c10, c00, cl0, cl1, cl2, cl3, e1a, e1b, e1c, e2a, e2b, e2c, e3a, e3b, e3c, inb0, ix0, if_true, if_false, reduceIte])
  rw [show Nat.beq s.2.2.2.1 0 = false from by rw [← Bool.not_eq_true, nb]; exact hp, cond_false]
  obtain ⟨e1, t1, t7, ⟨hpr, -, hw1, hw2, ho, -⟩, t18⟩ := h.2.2.2.2.2.2.2 hp
  have t0 := h.2.2.2.2.1
  have hA : gN s.2.1 i < 2 ^ s.1.2 := by have := set_lt h hi; rwa [e1, Nat.one_mul] at this
  have hB : gN s.2.1 j < 2 ^ s.1.2 := by have := set_lt h hj; rwa [e1, Nat.one_mul] at this
  have hen : e < s.1.2 := by rwa [e1, Nat.one_mul] at he
  exact Go.i h (by simp only [d_X7_waysAnew, needSet_ok h hi, needSet_ok h hj, needElement_ok h he, needRoot_ok h hp, bitsOf_ok h hi, bitsOf_ok h hj, cwaysTo_i t0 t1 t18 hpr.1 hp9 ho hn hle.2 hen hA hB, onV_ok, onV_thr, onI_ok, onI_thr, onL_ok, onL_thr, Option.bind_some, c10, c00, cl0, cl1, cl2, cl3, e1a, e1b, e1c, e2a, e2b, e2c, e3a, e3b, e3c, inb0, ix0, if_true, if_false, reduceIte])
theorem small_iff {m n x y : Nat} : smallB m n x y = true ↔ pc x.testBit (m * n) ≤ 6 ∧ pc y.testBit (m * n) ≤ 6 := by
  unfold smallB
  rw [Bool.and_eq_true, nble, nble]
theorem go_maps (h : Rel M s) (v1 v2 v3 : Int32) : Go (d_X7_maps v1 v2 v3 M) (p_maps v1 v2 v3 s) := by
  unfold p_maps
  rcases hSet h v1 with b1 | ⟨i, hi, rfl⟩
  · rw [onS_bad h b1]; exact Go.x1 h (by simp only [d_X7_maps, needSet_bad h b1, onV_ok, onV_thr, onI_ok, onI_thr, onL_ok, onL_thr, Option.bind_some, c10, c00, cl0, cl1, cl2, cl3, e1a, e1b, e1c, e2a, e2b, e2c, e3a, e3b, e3c, inb0, ix0, if_true, if_false, reduceIte])
  rw [onS_ok h hi]
  rcases hSet h v2 with b2 | ⟨j, hj, rfl⟩
  · rw [onS_bad h b2]; exact Go.x1 h (by simp only [d_X7_maps, needSet_ok h hi, needSet_bad h b2, onV_ok, onV_thr, onI_ok, onI_thr, onL_ok, onL_thr, Option.bind_some, c10, c00, cl0, cl1, cl2, cl3, e1a, e1b, e1c, e2a, e2b, e2c, e3a, e3b, e3c, inb0, ix0, if_true, if_false, reduceIte])
  rw [onS_ok h hj]
  rcases inR 2 v3 3 with q1 | ⟨q1, q3, q4⟩
  · rw [rg_bad (by decide) (by decide) q1]; exact Go.x2 h (by simp only [d_X7_maps, needSet_ok h hi, needSet_ok h hj, nmap_r q1, onV_ok, onV_thr, onI_ok, onI_thr, onL_ok, onL_thr, Option.bind_some, c10, c00, cl0, cl1, cl2, cl3, e1a, e1b, e1c, e2a, e2b, e2c, e3a, e3b, e3c, inb0, ix0, if_true, if_false, reduceIte])
  obtain ⟨o, ho, rfl⟩ := ord_of q3 q4
  rw [rg_ok (by omega : 2 ≤ o) (by omega : o ≤ 3) (by decide)]
  unfold onO
  dsimp only
  by_cases big : pc (gN s.2.1 i).testBit (s.1.1 * s.1.2) ≤ 6 ∧ pc (gN s.2.1 j).testBit (s.1.1 * s.1.2) ≤ 6
  · rw [small_iff.mpr big, cond_true]
    have hai := set_lt h hi
    have haj := set_lt h hj
    have h0 : gN s.2.1 i ≠ 0 := (h.2.2.1.2.2.2 i hi).2.2.2
    unfold mpC
    by_cases eq : pc (gN s.2.1 i).testBit (s.1.1 * s.1.2) = pc (gN s.2.1 j).testBit (s.1.1 * s.1.2)
    · obtain ⟨D, f1, -, f3, -, -, f6⟩ := findAll_i h.1 hai haj ho (pc_one hai h0) big.1 rfl eq.symm
      rw [nb.mpr eq, cond_true, ← alC_eq]
      refine ⟨D, ?_, h.w f6⟩
      simp only [d_X7_maps, needSet_ok h hi, needSet_ok h hj, nm_ok h hi hj q1 big.1 big.2, bitsOf_ok h hi, bitsOf_ok h hj, f1, f3.1, onV_ok, onV_thr, onI_ok, onI_thr, onL_ok, onL_thr, Option.bind_some, c10, c00, cl0, cl1, cl2, cl3, e1a, e1b, e1c, e2a, e2b, e2c, e3a, e3b, e3c, inb0, ix0, if_true, if_false, reduceIte]
      rfl
    · obtain ⟨D, f1, -, f3, f6⟩ := findNone_i h.1 hai haj big.1 big.2 eq (ii o)
      rw [show Nat.beq (pc (gN s.2.1 i).testBit (s.1.1 * s.1.2)) (pc (gN s.2.1 j).testBit (s.1.1 * s.1.2)) = false from by rw [← Bool.not_eq_true, nb]; exact eq, cond_false]
      refine ⟨D, ?_, h.w f6⟩
      simp only [d_X7_maps, needSet_ok h hi, needSet_ok h hj, nm_ok h hi hj q1 big.1 big.2, bitsOf_ok h hi, bitsOf_ok h hj, f1, f3, onV_ok, onV_thr, onI_ok, onI_thr, onL_ok, onL_thr, Option.bind_some, c10, c00, cl0, cl1, cl2, cl3, e1a, e1b, e1c, e2a, e2b, e2c, e3a, e3b, e3c, inb0, ix0, if_true, if_false, reduceIte]
      rfl
  · rw [show smallB s.1.1 s.1.2 (gN s.2.1 i) (gN s.2.1 j) = false from by rw [← Bool.not_eq_true, small_iff]; exact big, cond_false]
    exact Go.x3 h (by simp only [d_X7_maps, needSet_ok h hi, needSet_ok h hj, nm_big h hi hj q1 big, onV_ok, onV_thr, onI_ok, onI_thr, onL_ok, onL_thr, Option.bind_some, c10, c00, cl0, cl1, cl2, cl3, e1a, e1b, e1c, e2a, e2b, e2c, e3a, e3b, e3c, inb0, ix0, if_true, if_false, reduceIte])
theorem go_image (h : Rel M s) (v1 v2 v3 v4 : Int32) : Go (d_X7_image v1 v2 v3 v4 M) (p_image v1 v2 v3 v4 s) := by
  have hN := h.1.2.2.1
  unfold p_image
  rcases hSet h v1 with b1 | ⟨i, hi, rfl⟩
  · rw [onS_bad h b1]; exact Go.x1 h (by simp only [d_X7_image, needSet_bad h b1, onV_ok, onV_thr, onI_ok, onI_thr, onL_ok, onL_thr, Option.bind_some, c10, c00, cl0, cl1, cl2, cl3, e1a, e1b, e1c, e2a, e2b, e2c, e3a, e3b, e3c, inb0, ix0, if_true, if_false, reduceIte])
  rw [onS_ok h hi]
  rcases hSet h v2 with b2 | ⟨j, hj, rfl⟩
  · rw [onS_bad h b2]; exact Go.x1 h (by simp only [d_X7_image, needSet_ok h hi, needSet_bad h b2, onV_ok, onV_thr, onI_ok, onI_thr, onL_ok, onL_thr, Option.bind_some, c10, c00, cl0, cl1, cl2, cl3, e1a, e1b, e1c, e2a, e2b, e2c, e3a, e3b, e3c, inb0, ix0, if_true, if_false, reduceIte])
  rw [onS_ok h hj]
  rcases hEl h v4 with b4 | ⟨v, hv, rfl⟩
  · rw [onE_bad h b4]; exact Go.x1 h (by simp only [d_X7_image, needSet_ok h hi, needSet_ok h hj, needElement_bad h b4, onV_ok, onV_thr, onI_ok, onI_thr, onL_ok, onL_thr, Option.bind_some, c10, c00, cl0, cl1, cl2, cl3, e1a, e1b, e1c, e2a, e2b, e2c, e3a, e3b, e3c, inb0, ix0, if_true, if_false, reduceIte])
  rw [onE_ok h hv]
  rcases inR 2 v3 3 with q1 | ⟨q1, q3, q4⟩
  · rw [rg_bad (by decide) (by decide) q1]; exact Go.x2 h (by simp only [d_X7_image, needSet_ok h hi, needSet_ok h hj, needElement_ok h hv, nmap_r q1, onV_ok, onV_thr, onI_ok, onI_thr, onL_ok, onL_thr, Option.bind_some, c10, c00, cl0, cl1, cl2, cl3, e1a, e1b, e1c, e2a, e2b, e2c, e3a, e3b, e3c, inb0, ix0, if_true, if_false, reduceIte])
  obtain ⟨o, ho, rfl⟩ := ord_of q3 q4
  rw [rg_ok (by omega : 2 ≤ o) (by omega : o ≤ 3) (by decide)]
  unfold onO
  dsimp only
  by_cases big : pc (gN s.2.1 i).testBit (s.1.1 * s.1.2) ≤ 6 ∧ pc (gN s.2.1 j).testBit (s.1.1 * s.1.2) ≤ 6
  · rw [small_iff.mpr big, cond_true]
    have hai := set_lt h hi
    have haj := set_lt h hj
    have h0 : gN s.2.1 i ≠ 0 := (h.2.2.1.2.2.2 i hi).2.2.2
    have fin : ∀ {D : Mem} {b : Int32}, d_X2_findAll (ll (gN s.2.1 i)) (ll (gN s.2.1 j)) (ii o) M = some (.inl none, D) → d_X2_firstImage (ii v) D = some b → Wk M D → Go (d_X7_image (ii i) (ii j) (ii o) (ii v) M) (aI b s) := fun {D b} f1 f2 f6 => by
      refine ⟨D, ?_, h.w f6⟩
      simp only [d_X7_image, needSet_ok h hi, needSet_ok h hj, needElement_ok h hv, nm_ok h hi hj q1 big.1 big.2, bitsOf_ok h hi, bitsOf_ok h hj, f1, f2, onV_ok, onV_thr, onI_ok, onI_thr, onL_ok, onL_thr, Option.bind_some, c10, c00, cl0, cl1, cl2, cl3, e1a, e1b, e1c, e2a, e2b, e2c, e3a, e3b, e3c, inb0, ix0, if_true, if_false, reduceIte]
      rfl
    unfold imC
    by_cases eq : pc (gN s.2.1 i).testBit (s.1.1 * s.1.2) = pc (gN s.2.1 j).testBit (s.1.1 * s.1.2)
    · obtain ⟨D, f1, f2, f3, f4, f5, f6⟩ := findAll_i h.1 hai haj ho (pc_one hai h0) big.1 rfl eq.symm
      rw [nb.mpr eq, Bool.true_and]
      cases hb : (gN s.2.1 i).testBit v with
      | false =>
        rw [cond_false]
        exact fin f1 (firstOut_i f2 big.1 f5 rfl hN hv (by rw [hb]; decide)) f6
      | true =>
        rw [cond_true, ← alC_eq]
        by_cases none : allM s.1.1 s.1.2 o (pc (gN s.2.1 i).testBit (s.1.1 * s.1.2)) (gN s.2.1 i) (gN s.2.1 j) = []
        · have d9 : D.1 4 9 = 0 := by rw [f3.1, none]; rfl
          rw [none]
          exact fin f1 (firstNone_i f2 big.1 d9 _) f6
        · have hbb := firstIn_i f2 big.1 f5 f3 f4 none rfl hN hv hb
          cases hz : allM s.1.1 s.1.2 o (pc (gN s.2.1 i).testBit (s.1.1 * s.1.2)) (gN s.2.1 i) (gN s.2.1 j) with
          | nil => exact absurd hz none
          | cons l r =>
            rw [hz] at hbb
            exact fin f1 hbb f6
    · obtain ⟨D, f1, f2, f3, f6⟩ := findNone_i h.1 hai haj big.1 big.2 eq (ii o)
      rw [show Nat.beq (pc (gN s.2.1 i).testBit (s.1.1 * s.1.2)) (pc (gN s.2.1 j).testBit (s.1.1 * s.1.2)) = false from by rw [← Bool.not_eq_true, nb]; exact eq, Bool.false_and, cond_false]
      exact fin f1 (firstNone_i f2 big.1 f3 _) f6
  · rw [show smallB s.1.1 s.1.2 (gN s.2.1 i) (gN s.2.1 j) = false from by rw [← Bool.not_eq_true, small_iff]; exact big, cond_false]
    exact Go.x3 h (by simp only [d_X7_image, needSet_ok h hi, needSet_ok h hj, needElement_ok h hv, nm_big h hi hj q1 big, onV_ok, onV_thr, onI_ok, onI_thr, onL_ok, onL_thr, Option.bind_some, c10, c00, cl0, cl1, cl2, cl3, e1a, e1b, e1c, e2a, e2b, e2c, e3a, e3b, e3c, inb0, ix0, if_true, if_false, reduceIte])
end Gob
