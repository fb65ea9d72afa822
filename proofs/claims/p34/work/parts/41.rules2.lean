/-! RULES, 2 -/
section Rul
variable {M : Mem} {m n : Nat}
/-! no steps -/
def Ngd (m n s y : Nat) : Prop := ∀ i, s.testBit i = true → s.testBit (sb m n (ad m n y y) i) = true → ad m n i i = ad m n y y
theorem nst_gd (hm : 0 < m) (hn : 0 < n) {s : Nat} (hs : s < 2 ^ (m * n)) : Nst m n s ↔ ∀ y, s.testBit y = true → Ngd m n s y := by
  constructor
  · intro h y hy i hi hx
    apply Classical.byContradiction
    intro c
    have hiN := tb_lt hs hi
    have hxN := tb_lt hs hx
    have hyN := tb_lt hs hy
    have hyy := ad_lt hm hn y y
    have e : ad m n i (sb m n (ad m n y y) i) = ad m n y y := by rw [ad_comm, ad_sb hm hn hyy]
    generalize sb m n (ad m n y y) i = x at hx hxN e
    have n1 : i ≠ x := fun z => by rw [← z] at e; exact c e
    have n2 : y ≠ i := fun z => c (by rw [z])
    have n3 : y ≠ x := fun z => by
      subst z
      exact n2 (ad_cancel' hm hn hyN hiN e.symm)
    rcases Nat.lt_or_gt_of_ne n1 with l | l
    · exact h x i y hx hi hy l n3 n2 (by rw [ad_comm]; exact e)
    · exact h i x y hi hx hy l n2 n3 e
  · intro h x z y hx hz hy l n1 n2 e
    have hxN := tb_lt hs hx
    have hzN := tb_lt hs hz
    have e1 : sb m n (ad m n y y) x = z := ((ad_iff hm hn hzN (ad_lt hm hn y y)).mp e).symm
    have e2 := h y hy x hx (by rw [e1]; exact hz)
    have := ad_cancel hm hn hxN hzN (e2.trans e.symm)
    omega
theorem partner (hm : 0 < m) (hn : 0 < n) {i t : Nat} (hi : i < m * n) (ht : t < m * n) : ng m n (sb m n (sb m n i t) t) = sb m n (ad m n t t) i := by
  unfold sb
  rw [ng_ad hm hn, ng_ng hm hn ht, ng_ad hm hn, ng_ng hm hn ht, ad_assoc hn, ad_comm]
theorem own (hm : 0 < m) (hn : 0 < n) {i t : Nat} (hi : i < m * n) (ht : t < m * n) : ad m n (sb m n i t) (sb m n i t) = 0 ↔ ad m n i i = ad m n t t := by
  have e : ad m n (ad m n (sb m n i t) (sb m n i t)) (ad m n t t) = ad m n i i := by
    rw [ad_assoc hn, ← ad_assoc hn (sb m n i t) t t, ad_comm _ t, ← ad_assoc hn, ad_sb hm hn hi]
  constructor
  · intro h
    rw [h, ad_zero' hn (ad_lt hm hn t t)] at e
    exact e.symm
  · intro h
    rw [h] at e
    refine ad_cancel' hm hn (x := ad m n t t) (ad_lt hm hn _ _) (Nat.mul_pos hm hn) ?_
    rw [e, ad_zero' hn (ad_lt hm hn t t)]
theorem csteps_i (h : GI M m n) {s : Nat} (hs : s < 2 ^ (m * n)) : d_X4_hasNoSteps (ll s) M = some (bI (Nst m n s)) := by
  have h' := h
  obtain ⟨hm, hn, hN, -, -, -, -, -, h5, -⟩ := h'
  refine k_ex (fun b e1 e2 => ?_) (it_bits (g := g_X4_hasNoSteps_1 (ll s) M (ll (mir m n s))) (set64 hs hN) (fun l a => a = (ll l, ii (sz l)) ∧ (∀ i, l.testBit i = true → s.testBit i = true) ∧ ∀ y, s.testBit y = true → l.testBit y = false → Ngd m n s y)
    (fun b => (∃ q, b = .inl q ∧ Nst m n s) ∨ (b = .inr (0 : Int32) ∧ ¬ Nst m n s)) (a := (ll s, ii (sz s))) ⟨rfl, fun _ h => h, fun y h1 h2 => by rw [h1] at h2; cases h2⟩ ?_ ?_)
  · unfold d_X4_hasNoSteps
    rw [mirrored_i h hs]
    show onIt (iter (g_X4_hasNoSteps_1 (ll s) M (ll (mir m n s))) 20000 (ll s, d_J13_bitCount_95d88 (ll s))) (fun (a2 : Int64 × Int32) => some (1 : Int32)) (fun r => some r) = _
    rw [bitCount_i (set64 hs hN), e1]
    rcases e2 with ⟨q, rfl, h1⟩ | ⟨rfl, h1⟩
    · rw [bI_t h1]; rfl
    · rw [bI_f h1]; rfl
  · rintro l a hl hl0 ⟨rfl, hsub, hP⟩
    obtain ⟨t, ht, k1, k2, k3, k4, k5⟩ := low_set hl hl0
    have hst := hsub t k2
    have htN := tb_lt hs hst
    have := sz_le l
    unfold g_X4_hasNoSteps_1
    dsimp only
    rw [if_neg (ii_gt0 (by omega) (by omega)), k1, shifted_i h (mir_lt s) htN, shifted_i h (shf_lt _ _) htN, h5, shifted_i h (st_lt _ _) htN, ll_and, ll_not, ll_and]
    have key : s &&& shf m n (shf m n (mir m n s) t) t &&& (shf m n (st (m * n) fun i => ad m n i i = 0) t ^^^ 2 ^ 64 - 1) = 0 ↔ Ngd m n s t := by
      rw [and_0 (and_lt hs)]
      have pb : ∀ i, i < m * n → ((s &&& shf m n (shf m n (mir m n s) t) t).testBit i = true ↔ s.testBit i = true ∧ s.testBit (sb m n (ad m n t t) i) = true) := fun i hi => by
        rw [Nat.testBit_and, Bool.and_eq_true, shf_bit, shf_bit, mir, st_bit, partner hm hn hi htN]
        have g1 := sb_lt hm hn (m := m) (n := n) i t
        have g2 := sb_lt hm hn (m := m) (n := n) (sb m n i t) t
        exact ⟨fun z => ⟨z.1, z.2.2.2.2⟩, fun z => ⟨z.1, hi, g1, g2, z.2⟩⟩
      have ob' : ∀ i, i < m * n → ((shf m n (st (m * n) fun i => ad m n i i = 0) t ^^^ 2 ^ 64 - 1).testBit i = true ↔ ad m n i i ≠ ad m n t t) := fun i hi => by
        have g1 := sb_lt hm hn (m := m) (n := n) i t
        rw [not_bit _ _ (by omega), Bool.not_eq_true', ← Bool.not_eq_true, shf_bit, st_bit, own hm hn hi htN]
        exact ⟨fun z q => z ⟨hi, g1, q⟩, fun z q => z q.2.2⟩
      constructor
      · intro hz i hi hx
        have hiN := tb_lt hs hi
        apply Classical.byContradiction
        intro c
        exact hz i hiN ((pb i hiN).mpr ⟨hi, hx⟩) ((ob' i hiN).mpr c)
      · intro hG i hi h1 h2
        obtain ⟨g1, g2⟩ := (pb i hi).mp h1
        exact (ob' i hi).mp h2 (hG i g1 g2)
    have hb64 : s &&& shf m n (shf m n (mir m n s) t) t &&& (shf m n (st (m * n) fun i => ad m n i i = 0) t ^^^ 2 ^ 64 - 1) < 18446744073709551616 := set64 (and_lt (and_lt hs)) hN
    by_cases c : Ngd m n s t
    · rw [if_pos ((lc_z hb64).mpr (key.mpr c)), without_i hl0, ii_dec (by omega)]
      refine Or.inl ⟨_, rfl, by rw [k5, Nat.add_sub_cancel], fun i hi => hsub i (by rw [k4, Bool.and_eq_true] at hi; exact hi.1), fun y h1 h2 => ?_⟩
      by_cases e : y = t
      · subst e; exact c
      · rw [k4, decide_eq_false e, Bool.not_false, Bool.and_true] at h2
        exact hP y h1 h2
    · rw [if_neg (fun z => c (key.mp ((lc_z hb64).mp z)))]
      exact Or.inr ⟨_, rfl, Or.inr ⟨rfl, fun hF => c ((nst_gd hm hn hs).mp hF t hst)⟩⟩
  · rintro a ⟨rfl, -, hP⟩
    unfold g_X4_hasNoSteps_1
    dsimp only
    rw [sz_zero, if_pos ((ii_le0 (by decide)).mpr rfl)]
    exact ⟨_, rfl, Or.inl ⟨_, rfl, (nst_gd hm hn hs).mpr fun y h1 => hP y h1 (Nat.zero_testBit y)⟩⟩
end Rul
