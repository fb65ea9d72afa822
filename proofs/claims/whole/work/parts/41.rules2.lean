/-! RULES, 2 -/
section Rul
variable {M : Mem} {m n : Nat}
theorem msidon_i (h : MI M m n) {s : Nat} (hs : s < 2 ^ (m * n)) : d_X8_isSidon (ll s) M = some (bI (Sid m n s)) := by
  have h' := h
  obtain ⟨hm, hn, hN, -⟩ := h'
  have hsz := msize_i h
  unfold d_X8_isSidon
  refine k_have (fun key => ?_) (it_full (g := g_X8_isSidon_1 (ll s) M) (m * n) (fun x => (ll (prS m n fun a b => s.testBit a = true ∧ s.testBit b = true ∧ b ≤ a ∧ (a < x ∨ (a = x ∧ b < 0))), bI (prI m n fun a b => s.testBit a = true ∧ s.testBit b = true ∧ b ≤ a ∧ (a < x ∨ (a = x ∧ b < 0))), ii x)) (b := .inl (ll (prS m n fun a b => s.testBit a = true ∧ s.testBit b = true ∧ b ≤ a ∧ (a < m * n ∨ (a = m * n ∧ b < 0))), bI (prI m n fun a b => s.testBit a = true ∧ s.testBit b = true ∧ b ≤ a ∧ (a < m * n ∨ (a = m * n ∧ b < 0))), ii (m * n))) (by omega) ?_ ?_)
  · have z1 : (prS m n fun a b => s.testBit a = true ∧ s.testBit b = true ∧ b ≤ a ∧ (a < 0 ∨ (a = 0 ∧ b < 0))) = 0 := st_false fun i _ ⟨a, b, h1, _⟩ => by omega
    have z2 : bI (prI m n fun a b => s.testBit a = true ∧ s.testBit b = true ∧ b ≤ a ∧ (a < 0 ∨ (a = 0 ∧ b < 0))) = 1 := bI_t fun a b c d h1 => by omega
    rw [z1, z2] at key
    rw [show ((0 : Int64), (1 : Int32), (0 : Int32)) = (ll 0, (1 : Int32), ii 0) from rfl, key]
    show some (bI _ &&& 1) = _
    rw [bI_one]
    congr 1
    refine bI_congr (Iff.trans (prI_congr fun a b => ?_) (sid_pr hs))
    constructor
    · rintro ⟨g1, g2, g3, -⟩
      exact ⟨g1, g2, g3⟩
    · rintro ⟨g1, g2, g3⟩
      exact ⟨g1, g2, g3, Or.inl (tb_lt hs g1)⟩
  · intro x hx
    have hg : g_X8_isSidon_1 (ll s) M (ll (prS m n fun a b => s.testBit a = true ∧ s.testBit b = true ∧ b ≤ a ∧ (a < x ∨ (a = x ∧ b < 0))), bI (prI m n fun a b => s.testBit a = true ∧ s.testBit b = true ∧ b ≤ a ∧ (a < x ∨ (a = x ∧ b < 0))), ii x) = onIt (iter (g_X8_isSidon_2 (ll s) M (ll (prS m n fun a b => s.testBit a = true ∧ s.testBit b = true ∧ b ≤ a ∧ (a < x ∨ (a = x ∧ b < 0))), bI (prI m n fun a b => s.testBit a = true ∧ s.testBit b = true ∧ b ≤ a ∧ (a < x ∨ (a = x ∧ b < 0))), ii x)) 20000 (ll (prS m n fun a b => s.testBit a = true ∧ s.testBit b = true ∧ b ≤ a ∧ (a < x ∨ (a = x ∧ b < 0))), bI (prI m n fun a b => s.testBit a = true ∧ s.testBit b = true ∧ b ≤ a ∧ (a < x ∨ (a = x ∧ b < 0))), (0 : Int32))) (fun (a3 : Int64 × Int32 × Int32) => some (.inl (a3.1, a3.2.1, ii x + 1))) (fun r => some (.inr (.inr r))) := by
      unfold g_X8_isSidon_1
      dsimp only
      rw [hsz, if_pos ((ii_lt (by omega) (by omega)).mpr hx)]
    rw [hg, ii_inc]
    cases hsx : s.testBit x with
    | false =>
      have e : ∀ (q : Int64 × Int32 × Int32) (u : Int64) (v : Int32), iter (g_X8_isSidon_2 (ll s) M (q.1, q.2.1, ii x)) 20000 (u, v, (0 : Int32)) = some (.inl (u, v, (0 : Int32))) := fun q u v => by
        unfold iter g_X8_isSidon_2
        dsimp only
        rw [if_pos (by rw [show (0 : Int32) = ii 0 from rfl, ii_le (by omega) (by omega)]; omega), mhas_i (set64 hs hN) (by omega), hsx, if_pos (by decide)]
      have hD : ∀ a b, (s.testBit a = true ∧ s.testBit b = true ∧ b ≤ a ∧ (a < x ∨ (a = x ∧ b < 0))) ↔ (s.testBit a = true ∧ s.testBit b = true ∧ b ≤ a ∧ (a < x + 1 ∨ (a = x + 1 ∧ b < 0))) := fun a b => by
        constructor
        · rintro ⟨g1, g2, g3, g4⟩
          exact ⟨g1, g2, g3, by omega⟩
        · rintro ⟨g1, g2, g3, g4⟩
          refine ⟨g1, g2, g3, ?_⟩
          have : a ≠ x := fun z => by rw [z, hsx] at g1; cases g1
          omega
      rw [e (_, _, (0 : Int32)), prS_congr hD, bI_congr (prI_congr hD)]
      rfl
    | true =>
      refine k_have (fun key2 => ?_) (it_full (g := g_X8_isSidon_2 (ll s) M (ll (prS m n fun a b => s.testBit a = true ∧ s.testBit b = true ∧ b ≤ a ∧ (a < x ∨ (a = x ∧ b < 0))), bI (prI m n fun a b => s.testBit a = true ∧ s.testBit b = true ∧ b ≤ a ∧ (a < x ∨ (a = x ∧ b < 0))), ii x)) (x + 1) (fun y => (ll (prS m n fun a b => s.testBit a = true ∧ s.testBit b = true ∧ b ≤ a ∧ (a < x ∨ (a = x ∧ b < y))), bI (prI m n fun a b => s.testBit a = true ∧ s.testBit b = true ∧ b ≤ a ∧ (a < x ∨ (a = x ∧ b < y))), ii y)) (b := .inl (ll (prS m n fun a b => s.testBit a = true ∧ s.testBit b = true ∧ b ≤ a ∧ (a < x ∨ (a = x ∧ b < x + 1))), bI (prI m n fun a b => s.testBit a = true ∧ s.testBit b = true ∧ b ≤ a ∧ (a < x ∨ (a = x ∧ b < x + 1))), ii (x + 1))) (by omega) ?_ ?_)
      · have hD : ∀ a b, (s.testBit a = true ∧ s.testBit b = true ∧ b ≤ a ∧ (a < x ∨ (a = x ∧ b < x + 1))) ↔ (s.testBit a = true ∧ s.testBit b = true ∧ b ≤ a ∧ (a < x + 1 ∨ (a = x + 1 ∧ b < 0))) := fun a b => by
          constructor
          · rintro ⟨g1, g2, g3, g4⟩
            exact ⟨g1, g2, g3, by omega⟩
          · rintro ⟨g1, g2, g3, g4⟩
            exact ⟨g1, g2, g3, by omega⟩
        rw [prS_congr hD, bI_congr (prI_congr hD)] at key2
        rw [show ii 0 = (0 : Int32) from rfl] at key2
        rw [key2]
        rfl
      · intro y hy
        unfold g_X8_isSidon_2
        dsimp only
        rw [if_pos ((ii_le (by omega) (by omega)).mpr (by omega)), mhas_i (set64 hs hN) (by omega), hsx, if_neg (by decide), mhas_i (set64 hs hN) (by omega), ii_inc]
        cases hsy : s.testBit y with
        | false =>
          have hD : ∀ a b, (s.testBit a = true ∧ s.testBit b = true ∧ b ≤ a ∧ (a < x ∨ (a = x ∧ b < y))) ↔ (s.testBit a = true ∧ s.testBit b = true ∧ b ≤ a ∧ (a < x ∨ (a = x ∧ b < y + 1))) := fun a b => by
            constructor
            · rintro ⟨g1, g2, g3, g4⟩
              exact ⟨g1, g2, g3, by omega⟩
            · rintro ⟨g1, g2, g3, g4⟩
              refine ⟨g1, g2, g3, ?_⟩
              have : b ≠ y := fun z => by rw [z, hsy] at g2; cases g2
              omega
          rw [if_pos (by decide), prS_congr hD, bI_congr (prI_congr hD), ll_0, ll_or, ll_and, Nat.and_zero, Nat.or_zero, if_pos ((lc_0 (by omega) (by omega)).mpr rfl), bI_one]
        | true =>
          have hxN : x < m * n := hx
          have hyN := tb_lt hs hsy
          have hDn : ¬ (s.testBit x = true ∧ s.testBit y = true ∧ y ≤ x ∧ (x < x ∨ (x = x ∧ y < y))) := by omega
          obtain ⟨q1, q2⟩ := pr_add hm hn (D := fun a b => s.testBit a = true ∧ s.testBit b = true ∧ b ≤ a ∧ (a < x ∨ (a = x ∧ b < y))) (x := x) (y := y) hDn
          have hD : ∀ a b, ((s.testBit a = true ∧ s.testBit b = true ∧ b ≤ a ∧ (a < x ∨ (a = x ∧ b < y))) ∨ (a = x ∧ b = y)) ↔ (s.testBit a = true ∧ s.testBit b = true ∧ b ≤ a ∧ (a < x ∨ (a = x ∧ b < y + 1))) := fun a b => by
            constructor
            · rintro (⟨g1, g2, g3, g4⟩ | ⟨rfl, rfl⟩)
              · exact ⟨g1, g2, g3, by omega⟩
              · exact ⟨hsx, hsy, by omega, by omega⟩
            · rintro ⟨g1, g2, g3, g4⟩
              by_cases c : a = x ∧ b = y
              · exact Or.inr c
              · exact Or.inl ⟨g1, g2, g3, by omega⟩
          have hadl := ad_lt hm hn x y
          rw [if_neg (by decide), added_i h hxN hyN, ← prS_congr hD, ← bI_congr (prI_congr hD), q1, bI_congr q2, ← bI_and]
          show some (Sum.inl (ll _ ||| jshl (1 : Int64) (ii _), bI _ &&& (if lg_cmp (ll _ &&& jshl (1 : Int64) (ii _)) 0 = 0 then (1 : Int32) else 0), _)) = _
          rw [mbit_i (by omega), ll_or, ll_and]
          congr 5
          by_cases c : (prS m n fun a b => s.testBit a = true ∧ s.testBit b = true ∧ b ≤ a ∧ (a < x ∨ (a = x ∧ b < y))) &&& 2 ^ ad m n x y = 0
          · rw [if_pos ((lc_z (set64 (and_lt (prS_lt _)) hN)).mpr c), bI_t c]
          · rw [if_neg (fun z => c ((lc_z (set64 (and_lt (prS_lt _)) hN)).mp z)), bI_f c]
      · unfold g_X8_isSidon_2
        dsimp only
        rw [if_neg (by rw [ii_le (by omega) (by omega)]; omega)]
  · unfold g_X8_isSidon_1
    dsimp only
    rw [hsz, if_neg (by rw [ii_lt (by omega) (by omega)]; omega)]
/-! no steps -/
def Ngd (m n s y : Nat) : Prop := ∀ i, s.testBit i = true → s.testBit (sb m n (ad m n y y) i) = true → ad m n i i = ad m n y y
theorem nst_gd (hm : 0 < m) (hn : 0 < n) {s : Nat} (hs : s < 2 ^ (m * n)) : Nst m n s ↔ ∀ y, s.testBit y = true → Ngd m n s y := by
  constructor
  · intro h y hy i hi hx
    apply Classical.byContradiction
    intro c
    have hiN := tb_lt hs hi
    have hxN := tb_lt hs hx
    have hyN := tb_lt hs hy
    have hyy := ad_lt hm hn y y
    have e : ad m n i (sb m n (ad m n y y) i) = ad m n y y := by rw [ad_comm, ad_sb hm hn hyy]
    generalize sb m n (ad m n y y) i = x at hx hxN e
    have n1 : i ≠ x := fun z => by rw [← z] at e; exact c e
    have n2 : y ≠ i := fun z => c (by rw [z])
    have n3 : y ≠ x := fun z => by
      subst z
      exact n2 (ad_cancel' hm hn hyN hiN e.symm)
    rcases Nat.lt_or_gt_of_ne n1 with l | l
    · exact h x i y hx hi hy l n3 n2 (by rw [ad_comm]; exact e)
    · exact h i x y hi hx hy l n2 n3 e
  · intro h x z y hx hz hy l n1 n2 e
    have hxN := tb_lt hs hx
    have hzN := tb_lt hs hz
    have e1 : sb m n (ad m n y y) x = z := ((ad_iff hm hn hzN (ad_lt hm hn y y)).mp e).symm
    have e2 := h y hy x hx (by rw [e1]; exact hz)
    have := ad_cancel hm hn hxN hzN (e2.trans e.symm)
    omega
theorem partner (hm : 0 < m) (hn : 0 < n) {i t : Nat} (hi : i < m * n) (ht : t < m * n) : ng m n (sb m n (sb m n i t) t) = sb m n (ad m n t t) i := by
  unfold sb
  rw [ng_ad hm hn, ng_ng hm hn ht, ng_ad hm hn, ng_ng hm hn ht, ad_assoc hn, ad_comm]
theorem own (hm : 0 < m) (hn : 0 < n) {i t : Nat} (hi : i < m * n) (ht : t < m * n) : ad m n (sb m n i t) (sb m n i t) = 0 ↔ ad m n i i = ad m n t t := by
  have e : ad m n (ad m n (sb m n i t) (sb m n i t)) (ad m n t t) = ad m n i i := by
    rw [ad_assoc hn, ← ad_assoc hn (sb m n i t) t t, ad_comm _ t, ← ad_assoc hn, ad_sb hm hn hi]
  constructor
  · intro h
    rw [h, ad_zero' hn (ad_lt hm hn t t)] at e
    exact e.symm
  · intro h
    rw [h] at e
    refine ad_cancel' hm hn (x := ad m n t t) (ad_lt hm hn _ _) (Nat.mul_pos hm hn) ?_
    rw [e, ad_zero' hn (ad_lt hm hn t t)]
theorem csteps_i (h : GI M m n) {s : Nat} (hs : s < 2 ^ (m * n)) : d_X4_hasNoSteps (ll s) M = some (bI (Nst m n s)) := by
  have h' := h
  obtain ⟨hm, hn, hN, -, -, -, -, -, h5, -⟩ := h'
  refine k_ex (fun b e1 e2 => ?_) (it_bits (g := g_X4_hasNoSteps_1 (ll s) M (ll (mir m n s))) (set64 hs hN) (fun l a => a = (ll l, ii (sz l)) ∧ (∀ i, l.testBit i = true → s.testBit i = true) ∧ ∀ y, s.testBit y = true → l.testBit y = false → Ngd m n s y)
    (fun b => (∃ q, b = .inl q ∧ Nst m n s) ∨ (b = .inr (0 : Int32) ∧ ¬ Nst m n s)) (a := (ll s, ii (sz s))) ⟨rfl, fun _ h => h, fun y h1 h2 => by rw [h1] at h2; cases h2⟩ ?_ ?_)
  · unfold d_X4_hasNoSteps
    rw [mirrored_i h hs]
    show onIt (iter (g_X4_hasNoSteps_1 (ll s) M (ll (mir m n s))) 20000 (ll s, d_J13_bitCount_95d88 (ll s))) (fun (a2 : Int64 × Int32) => some (1 : Int32)) (fun r => some r) = _
    rw [bitCount_i (set64 hs hN), e1]
    rcases e2 with ⟨q, rfl, h1⟩ | ⟨rfl, h1⟩
    · rw [bI_t h1]; rfl
    · rw [bI_f h1]; rfl
  · rintro l a hl hl0 ⟨rfl, hsub, hP⟩
    obtain ⟨t, ht, k1, k2, k3, k4, k5⟩ := low_set hl hl0
    have hst := hsub t k2
    have htN := tb_lt hs hst
    have := sz_le l
    unfold g_X4_hasNoSteps_1
    dsimp only
    rw [if_neg (ii_gt0 (by omega) (by omega)), k1, shifted_i h (mir_lt s) htN, shifted_i h (shf_lt _ _) htN, h5, shifted_i h (st_lt _ _) htN, ll_and, ll_not, ll_and]
    have key : s &&& shf m n (shf m n (mir m n s) t) t &&& (shf m n (st (m * n) fun i => ad m n i i = 0) t ^^^ 2 ^ 64 - 1) = 0 ↔ Ngd m n s t := by
      rw [and_0 (and_lt hs)]
      have pb : ∀ i, i < m * n → ((s &&& shf m n (shf m n (mir m n s) t) t).testBit i = true ↔ s.testBit i = true ∧ s.testBit (sb m n (ad m n t t) i) = true) := fun i hi => by
        rw [Nat.testBit_and, Bool.and_eq_true, shf_bit, shf_bit, mir, st_bit, partner hm hn hi htN]
        have g1 := sb_lt hm hn (m := m) (n := n) i t
        have g2 := sb_lt hm hn (m := m) (n := n) (sb m n i t) t
        exact ⟨fun z => ⟨z.1, z.2.2.2.2⟩, fun z => ⟨z.1, hi, g1, g2, z.2⟩⟩
      have ob' : ∀ i, i < m * n → ((shf m n (st (m * n) fun i => ad m n i i = 0) t ^^^ 2 ^ 64 - 1).testBit i = true ↔ ad m n i i ≠ ad m n t t) := fun i hi => by
        have g1 := sb_lt hm hn (m := m) (n := n) i t
        rw [not_bit _ _ (by omega), Bool.not_eq_true', ← Bool.not_eq_true, shf_bit, st_bit, own hm hn hi htN]
        exact ⟨fun z q => z ⟨hi, g1, q⟩, fun z q => z q.2.2⟩
      constructor
      · intro hz i hi hx
        have hiN := tb_lt hs hi
        apply Classical.byContradiction
        intro c
        exact hz i hiN ((pb i hiN).mpr ⟨hi, hx⟩) ((ob' i hiN).mpr c)
      · intro hG i hi h1 h2
        obtain ⟨g1, g2⟩ := (pb i hi).mp h1
        exact (ob' i hi).mp h2 (hG i g1 g2)
    have hb64 : s &&& shf m n (shf m n (mir m n s) t) t &&& (shf m n (st (m * n) fun i => ad m n i i = 0) t ^^^ 2 ^ 64 - 1) < 18446744073709551616 := set64 (and_lt (and_lt hs)) hN
    by_cases c : Ngd m n s t
    · rw [if_pos ((lc_z hb64).mpr (key.mpr c)), without_i hl0, ii_dec (by omega)]
      refine Or.inl ⟨_, rfl, by rw [k5, Nat.add_sub_cancel], fun i hi => hsub i (by rw [k4, Bool.and_eq_true] at hi; exact hi.1), fun y h1 h2 => ?_⟩
      by_cases e : y = t
      · subst e; exact c
      · rw [k4, decide_eq_false e, Bool.not_false, Bool.and_true] at h2
        exact hP y h1 h2
    · rw [if_neg (fun z => c (key.mp ((lc_z hb64).mp z)))]
      exact Or.inr ⟨_, rfl, Or.inr ⟨rfl, fun hF => c ((nst_gd hm hn hs).mp hF t hst)⟩⟩
  · rintro a ⟨rfl, -, hP⟩
    unfold g_X4_hasNoSteps_1
    dsimp only
    rw [sz_zero, if_pos ((ii_le0 (by decide)).mpr rfl)]
    exact ⟨_, rfl, Or.inl ⟨_, rfl, (nst_gd hm hn hs).mpr fun y h1 => hP y h1 (Nat.zero_testBit y)⟩⟩
theorem msteps_i (h : MI M m n) {s : Nat} (hs : s < 2 ^ (m * n)) : d_X8_hasNoSteps (ll s) M = some (bI (Nst m n s)) := by
  have h' := h
  obtain ⟨hm, hn, hN, -⟩ := h'
  have hsz := msize_i h
  unfold d_X8_hasNoSteps
  rw [show (1 : Int32) = bI True from (bI_t trivial).symm, up_all (N := m * n) (by omega) True (fun x => ∀ z, z < x → s.testBit x = true → ∀ y, y < m * n → s.testBit z = true → s.testBit y = true → y ≠ x → y ≠ z → ad m n x z ≠ ad m n y y) (b := .inl (bI (True ∧ ∀ x, x < m * n → ∀ z, z < x → s.testBit x = true → ∀ y, y < m * n → s.testBit z = true → s.testBit y = true → y ≠ x → y ≠ z → ad m n x z ≠ ad m n y y), ii (m * n))) ?_ ?_]
  · show some (bI _ &&& bI True) = _
    rw [bI_and]
    congr 1
    refine bI_congr ⟨fun hh x z y hx hz hy l => hh.1.2 x (tb_lt hs hx) z l hx y (tb_lt hs hy) hz hy, fun hh => ⟨⟨trivial, fun x _ z l hx y _ hz hy => hh x z y hx hz hy l⟩, trivial⟩⟩
  · intro x P hx
    unfold g_X8_hasNoSteps_1
    dsimp only
    rw [hsz, if_pos ((ii_lt (by omega) (by omega)).mpr hx), ii_inc]
    cases hsx : s.testBit x with
    | false =>
      rw [show bI (P ∧ ∀ z, z < x → false = true → ∀ y, y < m * n → s.testBit z = true → s.testBit y = true → y ≠ x → y ≠ z → ad m n x z ≠ ad m n y y) = bI P from bI_congr ⟨fun q => q.1, fun q => ⟨q, fun z _ c => by cases c⟩⟩]
      have e : ∃ q : Int32, iter (g_X8_hasNoSteps_2 (ll s) M (bI P, ii x)) 20000 (bI P, (0 : Int32)) = some (.inl (bI P, q)) := by
        unfold iter g_X8_hasNoSteps_2
        dsimp only
        by_cases c : (0 : Int32) < ii x
        · rw [if_pos c, mhas_i (set64 hs hN) (by omega), hsx, if_pos (by decide)]
          exact ⟨_, rfl⟩
        · rw [if_neg c]
          exact ⟨_, rfl⟩
      obtain ⟨q, e⟩ := e
      rw [e]
      rfl
    | true =>
      rw [up_all (N := x) (by omega) P (fun z => true = true → ∀ y, y < m * n → s.testBit z = true → s.testBit y = true → y ≠ x → y ≠ z → ad m n x z ≠ ad m n y y) (b := .inl (bI (P ∧ ∀ z, z < x → true = true → ∀ y, y < m * n → s.testBit z = true → s.testBit y = true → y ≠ x → y ≠ z → ad m n x z ≠ ad m n y y), ii x)) ?_ ?_]
      · rfl
      · intro z P2 hz
        unfold g_X8_hasNoSteps_2
        dsimp only
        rw [if_pos ((ii_lt (by omega) (by omega)).mpr hz), mhas_i (set64 hs hN) (by omega), hsx, if_neg (by decide), ii_inc]
        cases hsz' : s.testBit z with
        | false =>
          rw [show bI (P2 ∧ (true = true → ∀ y, y < m * n → false = true → s.testBit y = true → y ≠ x → y ≠ z → ad m n x z ≠ ad m n y y)) = bI P2 from bI_congr ⟨fun q => q.1, fun q => ⟨q, fun _ y _ c => by cases c⟩⟩]
          have e : ∃ q : Int32, iter (g_X8_hasNoSteps_3 (ll s) M (bI P, ii x) (bI P2, ii z)) 20000 (bI P2, (0 : Int32)) = some (.inl (bI P2, q)) := by
            unfold iter g_X8_hasNoSteps_3
            dsimp only
            rw [hsz, if_pos ((ii_pos (by omega)).mpr (by omega)), mhas_i (set64 hs hN) (by omega), hsz', if_pos (by decide)]
            exact ⟨_, rfl⟩
          obtain ⟨q, e⟩ := e
          rw [e]
          rfl
        | true =>
          rw [up_all (N := m * n) (by omega) P2 (fun y => s.testBit y = true → y ≠ x → y ≠ z → ad m n x z ≠ ad m n y y) (b := .inl (bI (P2 ∧ ∀ y, y < m * n → s.testBit y = true → y ≠ x → y ≠ z → ad m n x z ≠ ad m n y y), ii (m * n))) ?_ ?_]
          · show some (Sum.inl (bI _, _)) = _
            congr 3
            exact bI_congr ⟨fun q => ⟨q.1, fun _ y hy _ => q.2 y hy⟩, fun q => ⟨q.1, fun y hy => q.2 rfl y hy rfl⟩⟩
          · intro y P3 hy
            unfold g_X8_hasNoSteps_3
            dsimp only
            rw [hsz, if_pos ((ii_lt (by omega) (by omega)).mpr hy), mhas_i (set64 hs hN) (by omega), hsz', if_neg (by decide), mhas_i (set64 hs hN) (by omega), ii_inc]
            have e1 : ad m n x z < m * n := ad_lt hm hn x z
            have e2 : ad m n y y < m * n := ad_lt hm hn y y
            by_cases c : s.testBit y = true ∧ y ≠ x ∧ y ≠ z
            · rw [c.1, if_neg (by decide : ¬ (if true = true then (1 : Int32) else 0) = 0), if_neg (fun w => c.2.1 ((ii_eq (by omega) (by omega)).mp w)), if_neg (fun w => c.2.2 ((ii_eq (by omega) (by omega)).mp w)), if_neg (by decide), added_i h hx (by omega), added_i h hy hy]
              show some (Sum.inl (bI P3 &&& (if ii _ = ii _ then (0 : Int32) else 1), _)) = _
              rw [bI_ite', bI_and]
              congr 3
              refine bI_congr ⟨fun q => ⟨q.1, fun _ _ _ w => q.2 (by rw [w])⟩, fun q => ⟨q.1, fun w => q.2 rfl c.2.1 c.2.2 ((ii_eq (by omega) (by omega)).mp w)⟩⟩
            · have z0 : (if (if s.testBit y = true then (1 : Int32) else 0) = 0 then (0 : Int32) else if ii y = ii x then (0 : Int32) else if ii y = ii z then (0 : Int32) else (1 : Int32)) = 0 := by
                by_cases c1 : s.testBit y = true
                · rw [if_pos c1, if_neg (by decide)]
                  by_cases c2 : y = x
                  · rw [if_pos (by rw [c2])]
                  · rw [if_neg (fun w => c2 ((ii_eq (by omega) (by omega)).mp w))]
                    by_cases c3 : y = z
                    · rw [if_pos (by rw [c3])]
                    · exact (c ⟨c1, c2, c3⟩).elim
                · rw [if_neg c1, if_pos rfl]
              rw [if_pos z0, bI_one]
              congr 3
              exact bI_congr ⟨fun q => ⟨q, fun c1 c2 c3 => (c ⟨c1, c2, c3⟩).elim⟩, fun q => q.1⟩
          · unfold g_X8_hasNoSteps_3
            dsimp only
            rw [hsz, if_neg (by rw [ii_lt (by omega) (by omega)]; omega)]
      · unfold g_X8_hasNoSteps_2
        dsimp only
        rw [if_neg (by rw [ii_lt (by omega) (by omega)]; omega)]
  · unfold g_X8_hasNoSteps_1
    dsimp only
    rw [hsz, if_neg (by rw [ii_lt (by omega) (by omega)]; omega)]
end Rul
