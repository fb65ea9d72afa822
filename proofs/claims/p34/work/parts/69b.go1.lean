/-! THE CLASS GOES WITH IT, 1: the calls that change nothing -/
section Goa
variable {M : Mem} {s : HS}
theorem go_elements (h : Rel M s) (v1 : Int32) : Go (d_X7_elements v1 M) (p_elements v1 s) := by
  unfold p_elements
  rcases hSet h v1 with b1 | ⟨i, hi, rfl⟩
  · rw [onS_bad h b1]; exact Go.x1 h (by simp only [d_X7_elements, needSet_bad h b1, onV_ok, onV_thr, onI_ok, onI_thr, onL_ok, onL_thr, Option.bind_some, c10, c00, cl0, cl1, cl2, cl3, e1a, e1b, e1c, e2a, e2b, e2c, e3a, e3b, e3c, inb0, ix0, if_true, if_false, reduceIte])
  rw [onS_ok h hi]
  exact Go.l h (by simp only [d_X7_elements, needSet_ok h hi, bitsOf_ok h hi, onV_ok, onV_thr, onI_ok, onI_thr, onL_ok, onL_thr, Option.bind_some, c10, c00, cl0, cl1, cl2, cl3, e1a, e1b, e1c, e2a, e2b, e2c, e3a, e3b, e3c, inb0, ix0, if_true, if_false, reduceIte])
theorem go_ways (h : Rel M s) (v1 v2 v3 : Int32) : Go (d_X7_ways v1 v2 v3 M) (p_ways v1 v2 v3 s) := by
  have hm := h.1.1
  have hn := h.1.2.1
  unfold p_ways
  rcases hSet h v1 with b1 | ⟨i, hi, rfl⟩
  · rw [onS_bad h b1]; exact Go.x1 h (by simp only [d_X7_ways, needSet_bad h b1, onV_ok, onV_thr, onI_ok, onI_thr, onL_ok, onL_thr, Option.bind_some, c10, c00, cl0, cl1, cl2, cl3, e1a, e1b, e1c, e2a, e2b, e2c, e3a, e3b, e3c, inb0, ix0, if_true, if_false, reduceIte])
  rw [onS_ok h hi]
  rcases hSet h v2 with b2 | ⟨j, hj, rfl⟩
  · rw [onS_bad h b2]; exact Go.x1 h (by simp only [d_X7_ways, needSet_ok h hi, needSet_bad h b2, onV_ok, onV_thr, onI_ok, onI_thr, onL_ok, onL_thr, Option.bind_some, c10, c00, cl0, cl1, cl2, cl3, e1a, e1b, e1c, e2a, e2b, e2c, e3a, e3b, e3c, inb0, ix0, if_true, if_false, reduceIte])
  rw [onS_ok h hj]
  rcases hEl h v3 with b3 | ⟨e, he, rfl⟩
  · rw [onE_bad h b3]; exact Go.x1 h (by simp only [d_X7_ways, needSet_ok h hi, needSet_ok h hj, needElement_bad h b3, onV_ok, onV_thr, onI_ok, onI_thr, onL_ok, onL_thr, Option.bind_some, c10, c00, cl0, cl1, cl2, cl3, e1a, e1b, e1c, e2a, e2b, e2c, e3a, e3b, e3c, inb0, ix0, if_true, if_false, reduceIte])
  rw [onE_ok h he, ← wyC_eq hm hn _ _ he]
  exact Go.i h (by simp only [d_X7_ways, needSet_ok h hi, needSet_ok h hj, needElement_ok h he, bitsOf_ok h hi, bitsOf_ok h hj, waysTo_i h.1 (set_lt h hi) (set_lt h hj) he, onV_ok, onV_thr, onI_ok, onI_thr, onL_ok, onL_thr, Option.bind_some, c10, c00, cl0, cl1, cl2, cl3, e1a, e1b, e1c, e2a, e2b, e2c, e3a, e3b, e3c, inb0, ix0, if_true, if_false, reduceIte])
theorem go_add (h : Rel M s) (v1 v2 v3 : Int32) : Go (d_X7_add v1 v2 v3 M) (p_add v1 v2 v3 s) := by
  have hm := h.1.1
  have hn := h.1.2.1
  unfold p_add
  rcases hEl h v1 with b1 | ⟨i, hi, rfl⟩
  · rw [onE_bad h b1]; exact Go.x1 h (by simp only [d_X7_add, needElement_bad h b1, onV_ok, onV_thr, onI_ok, onI_thr, onL_ok, onL_thr, Option.bind_some, c10, c00, cl0, cl1, cl2, cl3, e1a, e1b, e1c, e2a, e2b, e2c, e3a, e3b, e3c, inb0, ix0, if_true, if_false, reduceIte])
  rw [onE_ok h hi]
  rcases hEl h v2 with b2 | ⟨j, hj, rfl⟩
  · rw [onE_bad h b2]; exact Go.x1 h (by simp only [d_X7_add, needElement_ok h hi, needElement_bad h b2, onV_ok, onV_thr, onI_ok, onI_thr, onL_ok, onL_thr, Option.bind_some, c10, c00, cl0, cl1, cl2, cl3, e1a, e1b, e1c, e2a, e2b, e2c, e3a, e3b, e3c, inb0, ix0, if_true, if_false, reduceIte])
  rw [onE_ok h hj, ← ngC_eq hm hn hj]
  by_cases c3 : v3 = 0
  · rw [decide_eq_true c3, cond_true]
    exact Go.i h (by simp only [d_X7_add, needElement_ok h hi, needElement_ok h hj, if_pos c3, lessOf_i h.1 hj, plus_i h.1 hi (ng_lt hm hn j), onV_ok, onV_thr, onI_ok, onI_thr, onL_ok, onL_thr, Option.bind_some, c10, c00, cl0, cl1, cl2, cl3, e1a, e1b, e1c, e2a, e2b, e2c, e3a, e3b, e3c, inb0, ix0, if_true, if_false, reduceIte])
  · rw [decide_eq_false c3, cond_false]
    exact Go.i h (by simp only [d_X7_add, needElement_ok h hi, needElement_ok h hj, if_neg c3, plus_i h.1 hi hj, onV_ok, onV_thr, onI_ok, onI_thr, onL_ok, onL_thr, Option.bind_some, c10, c00, cl0, cl1, cl2, cl3, e1a, e1b, e1c, e2a, e2b, e2c, e3a, e3b, e3c, inb0, ix0, if_true, if_false, reduceIte])
theorem go_popular (h : Rel M s) (v1 v2 v3 : Int32) : Go (d_X7_popular v1 v2 v3 M) (p_popular v1 v2 v3 s) := by
  have hm := h.1.1
  have hn := h.1.2.1
  unfold p_popular
  rcases hSet h v1 with b1 | ⟨i, hi, rfl⟩
  · rw [onS_bad h b1]; exact Go.x1 h (by simp only [d_X7_popular, needSet_bad h b1, onV_ok, onV_thr, onI_ok, onI_thr, onL_ok, onL_thr, Option.bind_some, c10, c00, cl0, cl1, cl2, cl3, e1a, e1b, e1c, e2a, e2b, e2c, e3a, e3b, e3c, inb0, ix0, if_true, if_false, reduceIte])
  rw [onS_ok h hi]
  rcases hSet h v2 with b2 | ⟨j, hj, rfl⟩
  · rw [onS_bad h b2]; exact Go.x1 h (by simp only [d_X7_popular, needSet_ok h hi, needSet_bad h b2, onV_ok, onV_thr, onI_ok, onI_thr, onL_ok, onL_thr, Option.bind_some, c10, c00, cl0, cl1, cl2, cl3, e1a, e1b, e1c, e2a, e2b, e2c, e3a, e3b, e3c, inb0, ix0, if_true, if_false, reduceIte])
  rw [onS_ok h hj]
  rcases inR (1 : Int32) v3 (36 : Int32) with r1 | ⟨r1, r3, r4⟩
  · rw [rg_bad (by decide) (by decide) r1]; exact Go.x2 h (by simp only [d_X7_popular, needSet_ok h hi, needSet_ok h hj, r1, onV_ok, onV_thr, onI_ok, onI_thr, onL_ok, onL_thr, Option.bind_some, c10, c00, cl0, cl1, cl2, cl3, e1a, e1b, e1c, e2a, e2b, e2c, e3a, e3b, e3c, inb0, ix0, if_true, if_false, reduceIte])
  obtain ⟨l, rfl, hl1, hl2⟩ := rngN (lo := 1) (hi := 36) (by decide) (by decide) r3 r4
  rw [rg_ok hl1 hl2 (by decide)]
  show Go _ (aL (ll (popC s.1.1 s.1.2 (gN s.2.1 i) (gN s.2.1 j) l)) s)
  rw [← popC_eq hm hn]
  exact Go.l h (by simp only [d_X7_popular, needSet_ok h hi, needSet_ok h hj, r1, cpop h hi hj hl2, onIt, onV_ok, onV_thr, onI_ok, onI_thr, onL_ok, onL_thr, Option.bind_some, c10, c00, cl0, cl1, cl2, cl3, e1a, e1b, e1c, e2a, e2b, e2c, e3a, e3b, e3c, inb0, ix0, if_true, if_false, reduceIte])
theorem go_energy (h : Rel M s) (v1 v2 : Int32) : Go (d_X7_energy v1 v2 M) (p_energy v1 v2 s) := by
  have hm := h.1.1
  have hn := h.1.2.1
  unfold p_energy
  rcases hSet h v1 with b1 | ⟨i, hi, rfl⟩
  · rw [onS_bad h b1]; exact Go.x1 h (by simp only [d_X7_energy, needSet_bad h b1, onV_ok, onV_thr, onI_ok, onI_thr, onL_ok, onL_thr, Option.bind_some, c10, c00, cl0, cl1, cl2, cl3, e1a, e1b, e1c, e2a, e2b, e2c, e3a, e3b, e3c, inb0, ix0, if_true, if_false, reduceIte])
  rw [onS_ok h hi]
  rcases hSet h v2 with b2 | ⟨j, hj, rfl⟩
  · rw [onS_bad h b2]; exact Go.x1 h (by simp only [d_X7_energy, needSet_ok h hi, needSet_bad h b2, onV_ok, onV_thr, onI_ok, onI_thr, onL_ok, onL_thr, Option.bind_some, c10, c00, cl0, cl1, cl2, cl3, e1a, e1b, e1c, e2a, e2b, e2c, e3a, e3b, e3c, inb0, ix0, if_true, if_false, reduceIte])
  rw [onS_ok h hj, ← enC_eq hm hn]
  exact Go.i h (by simp only [d_X7_energy, needSet_ok h hi, needSet_ok h hj, cenergy h hi hj, onIt, onV_ok, onV_thr, onI_ok, onI_thr, onL_ok, onL_thr, Option.bind_some, c10, c00, cl0, cl1, cl2, cl3, e1a, e1b, e1c, e2a, e2b, e2c, e3a, e3b, e3c, inb0, ix0, if_true, if_false, reduceIte])
theorem go_energyAnew (h : Rel M s) (v1 v2 : Int32) : Go (d_X7_energyAnew v1 v2 M) (p_energyAnew v1 v2 s) := by
  have hm := h.1.1
  have hn := h.1.2.1
  unfold p_energyAnew
  rcases hSet h v1 with b1 | ⟨i, hi, rfl⟩
  · rw [onS_bad h b1]; exact Go.x1 h (by simp only [d_X7_energyAnew, needSet_bad h b1, onV_ok, onV_thr, onI_ok, onI_thr, onL_ok, onL_thr, Option.bind_some, c10, c00, cl0, cl1, cl2, cl3, e1a, e1b, e1c, e2a, e2b, e2c, e3a, e3b, e3c, inb0, ix0, if_true, if_false, reduceIte])
  rw [onS_ok h hi]
  rcases hSet h v2 with b2 | ⟨j, hj, rfl⟩
  · rw [onS_bad h b2]; exact Go.x1 h (by simp only [d_X7_energyAnew, needSet_ok h hi, needSet_bad h b2, onV_ok, onV_thr, onI_ok, onI_thr, onL_ok, onL_thr, Option.bind_some, c10, c00, cl0, cl1, cl2, cl3, e1a, e1b, e1c, e2a, e2b, e2c, e3a, e3b, e3c, inb0, ix0, if_true, if_false, reduceIte])
  rw [onS_ok h hj, ← eaC_eq hm hn]
  exact Go.i h (by simp only [d_X7_energyAnew, needSet_ok h hi, needSet_ok h hj, cenergyAnew h hi hj, onIt, onV_ok, onV_thr, onI_ok, onI_thr, onL_ok, onL_thr, Option.bind_some, c10, c00, cl0, cl1, cl2, cl3, e1a, e1b, e1c, e2a, e2b, e2c, e3a, e3b, e3c, inb0, ix0, if_true, if_false, reduceIte])
theorem go_stabilizer (h : Rel M s) (v1 : Int32) : Go (d_X7_stabilizer v1 M) (p_stabilizer v1 s) := by
  have hm := h.1.1
  have hn := h.1.2.1
  unfold p_stabilizer
  rcases hSet h v1 with b1 | ⟨i, hi, rfl⟩
  · rw [onS_bad h b1]; exact Go.x1 h (by simp only [d_X7_stabilizer, needSet_bad h b1, onV_ok, onV_thr, onI_ok, onI_thr, onL_ok, onL_thr, Option.bind_some, c10, c00, cl0, cl1, cl2, cl3, e1a, e1b, e1c, e2a, e2b, e2c, e3a, e3b, e3c, inb0, ix0, if_true, if_false, reduceIte])
  rw [onS_ok h hi, ← stbC_eq hm hn]
  exact Go.l h (by simp only [d_X7_stabilizer, needSet_ok h hi, bitsOf_ok h hi, unmoved_i h.1 (set_lt h hi), onV_ok, onV_thr, onI_ok, onI_thr, onL_ok, onL_thr, Option.bind_some, c10, c00, cl0, cl1, cl2, cl3, e1a, e1b, e1c, e2a, e2b, e2c, e3a, e3b, e3c, inb0, ix0, if_true, if_false, reduceIte])
theorem exC_eq {m n : Nat} (hm : 0 < m) (hn : 0 < n) (x : Nat) {y : Nat} (hy : y < 2 ^ (m * n)) : ((ii (sz (smo m n x y)) - ii (sz (smo m n x (stb m n (smo m n x y))))) - ii (sz (smo m n y (stb m n (smo m n x y))))) + ii (sz (stb m n (smo m n x y))) = exC m n x y := by
  unfold exC exF
  rw [← smC_eq hm hn x hy, ← stbC_eq hm hn, ← smC_eq hm hn x (stb_lt _), ← smC_eq hm hn y (stb_lt _)]
theorem go_excess (h : Rel M s) (v1 v2 : Int32) : Go (d_X7_excess v1 v2 M) (p_excess v1 v2 s) := by
  have hm := h.1.1
  have hn := h.1.2.1
  have hN := h.1.2.2.1
  unfold p_excess
  rcases hSet h v1 with b1 | ⟨i, hi, rfl⟩
  · rw [onS_bad h b1]; exact Go.x1 h (by simp only [d_X7_excess, needSet_bad h b1, onV_ok, onV_thr, onI_ok, onI_thr, onL_ok, onL_thr, Option.bind_some, c10, c00, cl0, cl1, cl2, cl3, e1a, e1b, e1c, e2a, e2b, e2c, e3a, e3b, e3c, inb0, ix0, if_true, if_false, reduceIte])
  rw [onS_ok h hi]
  rcases hSet h v2 with b2 | ⟨j, hj, rfl⟩
  · rw [onS_bad h b2]; exact Go.x1 h (by simp only [d_X7_excess, needSet_ok h hi, needSet_bad h b2, onV_ok, onV_thr, onI_ok, onI_thr, onL_ok, onL_thr, Option.bind_some, c10, c00, cl0, cl1, cl2, cl3, e1a, e1b, e1c, e2a, e2b, e2c, e3a, e3b, e3c, inb0, ix0, if_true, if_false, reduceIte])
  rw [onS_ok h hj, ← exC_eq hm hn _ (set_lt h hj)]
  have s0 := smo_lt (m := s.1.1) (n := s.1.2) (gN s.2.1 i) (gN s.2.1 j)
  have bc : ∀ {x : Nat}, x < 2 ^ (s.1.1 * s.1.2) → d_J13_bitCount_95d88 (ll x) = ii (sz x) := fun hx => bitCount_i (set64 hx hN)
  exact Go.i h (by simp only [d_X7_excess, needSet_ok h hi, needSet_ok h hj, bitsOf_ok h hi, bitsOf_ok h hj, sumOf_i h.1 (set_lt h hi) (set_lt h hj), unmoved_i h.1 s0, sumOf_i h.1 (set_lt h hi) (stb_lt _), sumOf_i h.1 (set_lt h hj) (stb_lt _), bc s0, bc (stb_lt _), bc (smo_lt _ _), onV_ok, onV_thr, onI_ok, onI_thr, onL_ok, onL_thr, Option.bind_some, c10, c00, cl0, cl1, cl2, cl3, e1a, e1b, e1c, e2a, e2b, e2c, e3a, e3b, e3c, inb0, ix0, if_true, if_false, reduceIte])
theorem slC_eq {m n : Nat} (hm : 0 < m) (hn : 0 < n) (x y z : Nat) : ii (sz (smo m n x (mir m n y))) * ii (sz (smo m n y (mir m n z))) - ii (sz (smo m n x (mir m n z))) * ii (sz y) = slC m n x y z := by
  unfold slC
  rw [← mirC_eq hm hn, ← mirC_eq hm hn, ← smC_eq hm hn x (mir_lt y), ← smC_eq hm hn y (mir_lt z), ← smC_eq hm hn x (mir_lt z)]
theorem go_slack (h : Rel M s) (v1 v2 v3 : Int32) : Go (d_X7_slack v1 v2 v3 M) (p_slack v1 v2 v3 s) := by
  have hm := h.1.1
  have hn := h.1.2.1
  have hN := h.1.2.2.1
  unfold p_slack
  rcases hSet h v1 with b1 | ⟨i, hi, rfl⟩
  · rw [onS_bad h b1]; exact Go.x1 h (by simp only [d_X7_slack, needSet_bad h b1, onV_ok, onV_thr, onI_ok, onI_thr, onL_ok, onL_thr, Option.bind_some, c10, c00, cl0, cl1, cl2, cl3, e1a, e1b, e1c, e2a, e2b, e2c, e3a, e3b, e3c, inb0, ix0, if_true, if_false, reduceIte])
  rw [onS_ok h hi]
  rcases hSet h v2 with b2 | ⟨j, hj, rfl⟩
  · rw [onS_bad h b2]; exact Go.x1 h (by simp only [d_X7_slack, needSet_ok h hi, needSet_bad h b2, onV_ok, onV_thr, onI_ok, onI_thr, onL_ok, onL_thr, Option.bind_some, c10, c00, cl0, cl1, cl2, cl3, e1a, e1b, e1c, e2a, e2b, e2c, e3a, e3b, e3c, inb0, ix0, if_true, if_false, reduceIte])
  rw [onS_ok h hj]
  rcases hSet h v3 with b3 | ⟨k, hk, rfl⟩
  · rw [onS_bad h b3]; exact Go.x1 h (by simp only [d_X7_slack, needSet_ok h hi, needSet_ok h hj, needSet_bad h b3, onV_ok, onV_thr, onI_ok, onI_thr, onL_ok, onL_thr, Option.bind_some, c10, c00, cl0, cl1, cl2, cl3, e1a, e1b, e1c, e2a, e2b, e2c, e3a, e3b, e3c, inb0, ix0, if_true, if_false, reduceIte])
  rw [onS_ok h hk, ← slC_eq hm hn]
  have bc : ∀ {x : Nat}, x < 2 ^ (s.1.1 * s.1.2) → d_J13_bitCount_95d88 (ll x) = ii (sz x) := fun hx => bitCount_i (set64 hx hN)
  exact Go.i h (by simp only [d_X7_slack, needSet_ok h hi, needSet_ok h hj, needSet_ok h hk, bitsOf_ok h hi, bitsOf_ok h hj, bitsOf_ok h hk, differenceOf_i h.1 (set_lt h hi) (set_lt h hj), differenceOf_i h.1 (set_lt h hj) (set_lt h hk), differenceOf_i h.1 (set_lt h hi) (set_lt h hk), bc (smo_lt _ _), bc (set_lt h hj), onV_ok, onV_thr, onI_ok, onI_thr, onL_ok, onL_thr, Option.bind_some, c10, c00, cl0, cl1, cl2, cl3, e1a, e1b, e1c, e2a, e2b, e2c, e3a, e3b, e3c, inb0, ix0, if_true, if_false, reduceIte])
theorem go_cover (h : Rel M s) (v1 v2 : Int32) : Go (d_X7_cover v1 v2 M) (p_cover v1 v2 s) := by
  have hm := h.1.1
  have hn := h.1.2.1
  unfold p_cover
  rcases hSet h v1 with b1 | ⟨i, hi, rfl⟩
  · rw [onS_bad h b1]; exact Go.x1 h (by simp only [d_X7_cover, needSet_bad h b1, onV_ok, onV_thr, onI_ok, onI_thr, onL_ok, onL_thr, Option.bind_some, c10, c00, cl0, cl1, cl2, cl3, e1a, e1b, e1c, e2a, e2b, e2c, e3a, e3b, e3c, inb0, ix0, if_true, if_false, reduceIte])
  rw [onS_ok h hi]
  rcases hSet h v2 with b2 | ⟨j, hj, rfl⟩
  · rw [onS_bad h b2]; exact Go.x1 h (by simp only [d_X7_cover, needSet_ok h hi, needSet_bad h b2, onV_ok, onV_thr, onI_ok, onI_thr, onL_ok, onL_thr, Option.bind_some, c10, c00, cl0, cl1, cl2, cl3, e1a, e1b, e1c, e2a, e2b, e2c, e3a, e3b, e3c, inb0, ix0, if_true, if_false, reduceIte])
  rw [onS_ok h hj, ← cvC_eq hm hn _ _ _ (Nat.le_refl _)]
  exact Go.l h (by simp only [d_X7_cover, needSet_ok h hi, needSet_ok h hj, ccover h hi hj, onIt, onV_ok, onV_thr, onI_ok, onI_thr, onL_ok, onL_thr, Option.bind_some, c10, c00, cl0, cl1, cl2, cl3, e1a, e1b, e1c, e2a, e2b, e2c, e3a, e3b, e3c, inb0, ix0, if_true, if_false, reduceIte])
theorem go_sums (h : Rel M s) (v1 v2 : Int32) : Go (d_X7_sums v1 v2 M) (p_sums v1 v2 s) := by
  have hm := h.1.1
  have hn := h.1.2.1
  unfold p_sums
  rcases hSet h v1 with b1 | ⟨i, hi, rfl⟩
  · rw [onS_bad h b1]; exact Go.x1 h (by simp only [d_X7_sums, needSet_bad h b1, onV_ok, onV_thr, onI_ok, onI_thr, onL_ok, onL_thr, Option.bind_some, c10, c00, cl0, cl1, cl2, cl3, e1a, e1b, e1c, e2a, e2b, e2c, e3a, e3b, e3c, inb0, ix0, if_true, if_false, reduceIte])
  rw [onS_ok h hi]
  rcases inR (1 : Int32) v2 (100 : Int32) with r1 | ⟨r1, r3, r4⟩
  · rw [rg_bad (by decide) (by decide) r1]; exact Go.x2 h (by simp only [d_X7_sums, needSet_ok h hi, r1, onV_ok, onV_thr, onI_ok, onI_thr, onL_ok, onL_thr, Option.bind_some, c10, c00, cl0, cl1, cl2, cl3, e1a, e1b, e1c, e2a, e2b, e2c, e3a, e3b, e3c, inb0, ix0, if_true, if_false, reduceIte])
  obtain ⟨l, rfl, hl1, hl2⟩ := rngN (lo := 1) (hi := 100) (by decide) (by decide) r3 r4
  rw [rg_ok hl1 hl2 (by decide)]
  show Go _ (aL (ll (hsC s.1.1 s.1.2 (gN s.2.1 i) (l - 1))) s)
  rw [← hsC_eq hm hn (set_lt h hi)]
  exact Go.l h (by simp only [d_X7_sums, needSet_ok h hi, r1, csums h hi hl1 hl2, onIt, onV_ok, onV_thr, onI_ok, onI_thr, onL_ok, onL_thr, Option.bind_some, c10, c00, cl0, cl1, cl2, cl3, e1a, e1b, e1c, e2a, e2b, e2c, e3a, e3b, e3c, inb0, ix0, if_true, if_false, reduceIte])
theorem go_order (h : Rel M s) (v1 : Int32) : Go (d_X7_order v1 M) (p_order v1 s) := by
  have hm := h.1.1
  have hn := h.1.2.1
  have hN := h.1.2.2.1
  unfold p_order
  rcases hSet h v1 with b1 | ⟨i, hi, rfl⟩
  · rw [onS_bad h b1]; exact Go.x1 h (by simp only [d_X7_order, needSet_bad h b1, onV_ok, onV_thr, onI_ok, onI_thr, onL_ok, onL_thr, Option.bind_some, c10, c00, cl0, cl1, cl2, cl3, e1a, e1b, e1c, e2a, e2b, e2c, e3a, e3b, e3c, inb0, ix0, if_true, if_false, reduceIte])
  rw [onS_ok h hi]
  obtain ⟨o, o1, o2⟩ := orderOf_i h.1 (set_lt h hi)
  rw [(odC_is hm hn hN (set_lt h hi)).one o2]
  exact Go.i h (by simp only [d_X7_order, needSet_ok h hi, bitsOf_ok h hi, o1, onV_ok, onV_thr, onI_ok, onI_thr, onL_ok, onL_thr, Option.bind_some, c10, c00, cl0, cl1, cl2, cl3, e1a, e1b, e1c, e2a, e2b, e2c, e3a, e3b, e3c, inb0, ix0, if_true, if_false, reduceIte])
theorem go_essential (h : Rel M s) (v1 : Int32) : Go (d_X7_essential v1 M) (p_essential v1 s) := by
  have hm := h.1.1
  have hn := h.1.2.1
  have hN := h.1.2.2.1
  unfold p_essential
  rcases hSet h v1 with b1 | ⟨i, hi, rfl⟩
  · rw [onS_bad h b1]; exact Go.x1 h (by simp only [d_X7_essential, needSet_bad h b1, onV_ok, onV_thr, onI_ok, onI_thr, onL_ok, onL_thr, Option.bind_some, c10, c00, cl0, cl1, cl2, cl3, e1a, e1b, e1c, e2a, e2b, e2c, e3a, e3b, e3c, inb0, ix0, if_true, if_false, reduceIte])
  rw [onS_ok h hi, ← esC_eq hm hn hN (set_lt h hi)]
  obtain ⟨o, o1, o2⟩ := orderOf_i h.1 (set_lt h hi)
  refine Go.l h ?_
  by_cases z : o = (-1 : Int32)
  · have e0 : essS s.1.1 s.1.2 (gN s.2.1 i) = 0 := st_false fun e _ y => y.2.1 ((o2.neg hN).mp z)
    simp only [d_X7_essential, needSet_ok h hi, bitsOf_ok h hi, o1, if_pos z, e0, onV_ok, onV_thr, onI_ok, onI_thr, onL_ok, onL_thr, Option.bind_some, c10, c00, cl0, cl1, cl2, cl3, e1a, e1b, e1c, e2a, e2b, e2c, e3a, e3b, e3c, inb0, ix0, if_true, if_false, reduceIte]
    rfl
  · simp only [d_X7_essential, needSet_ok h hi, bitsOf_ok h hi, o1, if_neg z, cess h hi (fun y => z ((o2.neg hN).mpr y)), onIt, onV_ok, onV_thr, onI_ok, onI_thr, onL_ok, onL_thr, Option.bind_some, c10, c00, cl0, cl1, cl2, cl3, e1a, e1b, e1c, e2a, e2b, e2c, e3a, e3b, e3c, inb0, ix0, if_true, if_false, reduceIte]
theorem go_keeps (h : Rel M s) (v1 v2 : Int32) : Go (d_X7_keeps v1 v2 M) (p_keeps v1 v2 s) := by
  have hm := h.1.1
  have hn := h.1.2.1
  unfold p_keeps
  rcases hSet h v1 with b1 | ⟨i, hi, rfl⟩
  · rw [onS_bad h b1]; exact Go.x1 h (by simp only [d_X7_keeps, needSet_bad h b1, onV_ok, onV_thr, onI_ok, onI_thr, onL_ok, onL_thr, Option.bind_some, c10, c00, cl0, cl1, cl2, cl3, e1a, e1b, e1c, e2a, e2b, e2c, e3a, e3b, e3c, inb0, ix0, if_true, if_false, reduceIte])
  rw [onS_ok h hi]
  rcases inR (0 : Int32) v2 (3 : Int32) with r1 | ⟨r1, r3, r4⟩
  · rw [rg_bad (by decide) (by decide) r1]; exact Go.x1 h (by simp only [d_X7_keeps, d_X7_needRule, needSet_ok h hi, r1, onV_ok, onV_thr, onI_ok, onI_thr, onL_ok, onL_thr, Option.bind_some, c10, c00, cl0, cl1, cl2, cl3, e1a, e1b, e1c, e2a, e2b, e2c, e3a, e3b, e3c, inb0, ix0, if_true, if_false, reduceIte])
  obtain ⟨l, rfl, hl1, hl2⟩ := rngN (lo := 0) (hi := 3) (by decide) (by decide) r3 r4
  rw [rg_ok hl1 hl2 (by decide)]
  show Go _ (aI (boI (kpC s.1.1 s.1.2 l (gN s.2.1 i))) s)
  rw [← boI_eq hm hn l (set_lt h hi)]
  exact Go.i h (by simp only [d_X7_keeps, d_X7_needRule, needSet_ok h hi, r1, bitsOf_ok h hi, hold_i h.1 (show l < 4 by omega) (set_lt h hi), bI_one, onV_ok, onV_thr, onI_ok, onI_thr, onL_ok, onL_thr, Option.bind_some, c10, c00, cl0, cl1, cl2, cl3, e1a, e1b, e1c, e2a, e2b, e2c, e3a, e3b, e3c, inb0, ix0, if_true, if_false, reduceIte])
theorem go_of (h : Rel M s) (v1 : Int32) : Go (d_X7_of v1 M) (p_of v1 s) := by
  obtain ⟨hg, -, hs', hr, ht⟩ := id h
  unfold p_of
  rcases inR (0 : Int32) v1 (4 : Int32) with r1 | ⟨r1, r3, r4⟩
  · have n0 : ¬ v1 = 0 := fun z => by subst z; revert r1; decide
    have n1 : ¬ v1 = 1 := fun z => by subst z; revert r1; decide
    have n2 : ¬ v1 = 2 := fun z => by subst z; revert r1; decide
    have n3 : ¬ v1 = 3 := fun z => by subst z; revert r1; decide
    have n4 : ¬ v1 = 4 := fun z => by subst z; revert r1; decide
    rw [rg_bad (by decide) (by decide) r1]
    exact Go.x2 h (by simp only [d_X7_of, if_neg n0, if_neg n1, if_neg n2, if_neg n3, if_neg n4, onV_ok, onV_thr, onI_ok, onI_thr, onL_ok, onL_thr, Option.bind_some, c10, c00, cl0, cl1, cl2, cl3, e1a, e1b, e1c, e2a, e2b, e2c, e3a, e3b, e3c, inb0, ix0, if_true, if_false, reduceIte])
  obtain ⟨l, rfl, hl1, hl2⟩ := rngN (lo := 0) (hi := 4) (by decide) (by decide) r3 r4
  rw [rg_ok hl1 hl2 (by decide)]
  have d1 : ¬ ii 1 = (0 : Int32) := by decide
  have d2 : ¬ ii 2 = (0 : Int32) ∧ ¬ ii 2 = (1 : Int32) := by decide
  have d3 : ¬ ii 3 = (0 : Int32) ∧ ¬ ii 3 = (1 : Int32) ∧ ¬ ii 3 = (2 : Int32) := by decide
  have d4 : ¬ ii 4 = (0 : Int32) ∧ ¬ ii 4 = (1 : Int32) ∧ ¬ ii 4 = (2 : Int32) ∧ ¬ ii 4 = (3 : Int32) := by decide
  show Go _ (aI (ii (ofC s l)) s)
  match l, hl2 with
  | 0, _ => exact Go.i h (by simp only [d_X7_of, if_pos (show ii 0 = (0 : Int32) from rfl), hg.2.2.2.1, ofC, onV_ok, onV_thr, onI_ok, onI_thr, onL_ok, onL_thr, Option.bind_some, c10, c00, cl0, cl1, cl2, cl3, e1a, e1b, e1c, e2a, e2b, e2c, e3a, e3b, e3c, inb0, ix0, if_true, if_false, reduceIte])
  | 1, _ => exact Go.i h (by simp only [d_X7_of, if_neg d1, if_pos (show ii 1 = (1 : Int32) from rfl), hg.2.2.2.2.1, ofC, onV_ok, onV_thr, onI_ok, onI_thr, onL_ok, onL_thr, Option.bind_some, c10, c00, cl0, cl1, cl2, cl3, e1a, e1b, e1c, e2a, e2b, e2c, e3a, e3b, e3c, inb0, ix0, if_true, if_false, reduceIte])
  | 2, _ => exact Go.i h (by simp only [d_X7_of, if_neg d2.1, if_neg d2.2, if_pos (show ii 2 = (2 : Int32) from rfl), hs'.2.1, ofC, onV_ok, onV_thr, onI_ok, onI_thr, onL_ok, onL_thr, Option.bind_some, c10, c00, cl0, cl1, cl2, cl3, e1a, e1b, e1c, e2a, e2b, e2c, e3a, e3b, e3c, inb0, ix0, if_true, if_false, reduceIte])
  | 3, _ => exact Go.i h (by simp only [d_X7_of, if_neg d3.1, if_neg d3.2.1, if_neg d3.2.2, if_pos (show ii 3 = (3 : Int32) from rfl), hr.2.1, ofC, onV_ok, onV_thr, onI_ok, onI_thr, onL_ok, onL_thr, Option.bind_some, c10, c00, cl0, cl1, cl2, cl3, e1a, e1b, e1c, e2a, e2b, e2c, e3a, e3b, e3c, inb0, ix0, if_true, if_false, reduceIte])
  | 4, _ => exact Go.i h (by simp only [d_X7_of, if_neg d4.1, if_neg d4.2.1, if_neg d4.2.2.1, if_neg d4.2.2.2, if_pos (show ii 4 = (4 : Int32) from rfl), ht.1, ofC, onV_ok, onV_thr, onI_ok, onI_thr, onL_ok, onL_thr, Option.bind_some, c10, c00, cl0, cl1, cl2, cl3, e1a, e1b, e1c, e2a, e2b, e2c, e3a, e3b, e3c, inb0, ix0, if_true, if_false, reduceIte])
end Goa
