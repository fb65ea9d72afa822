/-! THE CLASS'S SETS: sums, differences, ways, what leaves a set as it is, orders -/
noncomputable def mir (m n b : Nat) : Nat := st (m * n) (fun i => b.testBit (ng m n i) = true)
noncomputable def smo (m n a b : Nat) : Nat := st (m * n) (fun i => ∃ x, b.testBit x = true ∧ a.testBit (sb m n i x) = true)
theorem tb_lt {a N i : Nat} (h : a < 2 ^ N) (hi : a.testBit i = true) : i < N := by
  apply Nat.lt_of_not_le
  intro c
  rw [tB_hi h c] at hi
  cases hi
/-- what came of the elements that are through, and the next one -/
theorem acc_step {N S l t : Nat} (R : Nat → Nat → Prop) (hS : S.testBit t = true) (hl : l.testBit t = true) (hw : ∀ i, (lwo l).testBit i = (l.testBit i && !decide (i = t))) :
    st N (fun i => ∃ x, S.testBit x = true ∧ l.testBit x = false ∧ R x i) ||| st N (R t) = st N (fun i => ∃ x, S.testBit x = true ∧ (lwo l).testBit x = false ∧ R x i) := by
  refine st_eq (Nat.or_lt_two_pow (st_lt _ _) (st_lt _ _)) fun i hi => ?_
  rw [Nat.testBit_or, Bool.or_eq_true, st_bit, st_bit]
  constructor
  · rintro (⟨-, x, h1, h2, h3⟩ | ⟨-, h⟩)
    · exact ⟨x, h1, by rw [hw, h2]; rfl, h3⟩
    · exact ⟨t, hS, by rw [hw, decide_eq_true rfl, hl]; rfl, h⟩
  · rintro ⟨x, h1, h2, h3⟩
    by_cases e : x = t
    · subst e; exact Or.inr ⟨hi, h3⟩
    · rw [hw, decide_eq_false e, Bool.not_false, Bool.and_true] at h2
      exact Or.inl ⟨hi, x, h1, h2, h3⟩
theorem acc_none {N S : Nat} (R : Nat → Nat → Prop) : st N (fun i => ∃ x, S.testBit x = true ∧ S.testBit x = false ∧ R x i) = 0 := st_false fun i _ ⟨x, h1, h2, _⟩ => by
  rw [h1] at h2; cases h2
theorem acc_all {N S : Nat} (R : Nat → Nat → Prop) : st N (fun i => ∃ x, S.testBit x = true ∧ (0 : Nat).testBit x = false ∧ R x i) = st N (fun i => ∃ x, S.testBit x = true ∧ R x i) :=
  st_congr fun i _ => ⟨fun ⟨x, h1, _, h3⟩ => ⟨x, h1, h3⟩, fun ⟨x, h1, h3⟩ => ⟨x, h1, Nat.zero_testBit x, h3⟩⟩
theorem one_st {N e : Nat} (h : e < N) : 2 ^ e = st N (fun i => e = i) := st_eq (Nat.pow_lt_pow_right (by decide) h) fun i _ => by
  rw [Nat.testBit_two_pow, decide_eq_true_eq]
/-- a loop that gathers: what it made, what is left of S, how many -/
theorem gather {g : Int64 × Int64 × Int32 → Option ((Int64 × Int64 × Int32) ⊕ ((Int64 × Int64 × Int32) ⊕ Int64))} {S N : Nat} (hS : S < 2 ^ N) (hN : N ≤ 36) (R : Nat → Nat → Prop)
    (hs : ∀ (mk l t : Nat), l < 18446744073709551616 → l.testBit t = true → t < N → d_X7_lowest (ll l) = ii t → 0 < l → 0 < sz l → g (ll mk, ll l, ii (sz l)) = some (.inl (ll (mk ||| st N (R t)), ll (lwo l), ii (sz l) + (-1 : Int32))))
    (he : ∀ (mk : Nat), g (ll mk, ll 0, ii 0) = some (.inr (.inl (ll mk, ll 0, ii 0)))) :
    iter g 20000 (ll 0, ll S, ii (sz S)) = some (.inl (ll (st N (fun i => ∃ x, S.testBit x = true ∧ R x i)), ll 0, ii 0)) := by
  refine k_ex (fun b h1 h2 => ?_) (it_bits (g := g) (set64 hS hN) (fun l a => (∀ i, l.testBit i = true → S.testBit i = true) ∧ a = (ll (st N (fun i => ∃ x, S.testBit x = true ∧ l.testBit x = false ∧ R x i)), ll l, ii (sz l))) (fun b => b = .inl (ll (st N (fun i => ∃ x, S.testBit x = true ∧ R x i)), ll 0, ii 0)) (a := (ll 0, ll S, ii (sz S))) ⟨fun _ h => h, by rw [acc_none]⟩ ?_ ?_)
  · rw [h1, h2]
  · rintro l a hl hl0 ⟨hsub, rfl⟩
    obtain ⟨t, ht, k1, k2, k3, k4, k5⟩ := low_set hl hl0
    refine Or.inl ⟨_, hs _ l t hl k2 (tb_lt hS (hsub t k2)) k1 hl0 (by omega), fun i hi => hsub i ?_, ?_⟩
    · rw [k4, Bool.and_eq_true] at hi
      exact hi.1
    · rw [acc_step R (hsub t k2) k2 k4, ii_dec (by omega), k5, Nat.add_sub_cancel]
  · rintro a ⟨-, rfl⟩
    refine ⟨_, ?_, rfl⟩
    rw [acc_all, sz_zero]
    exact he _
section Cls
variable {M : Mem} {m n : Nat}
theorem ii_gt0 {k : Nat} (h : 0 < k) (h2 : k < 2147483648) : ¬ ii k ≤ 0 := fun c => by
  rw [ii_le0 h2] at c
  omega
theorem mirrored_i (h : GI M m n) {b : Nat} (hb : b < 2 ^ (m * n)) : d_X1_mirrored (ll b) M = some (ll (mir m n b)) := by
  have h' := h
  obtain ⟨hm, hn, hN, -⟩ := h'
  unfold d_X1_mirrored
  rw [bitCount_i (set64 hb hN), ll_0, gather (N := m * n) hb hN (fun x i => ng m n x = i) ?_ ?_]
  · show some (ll _) = some (ll _)
    congr 2
    refine st_congr fun i hi => ⟨?_, fun h => ⟨ng m n i, h, ng_ng hm hn hi⟩⟩
    rintro ⟨x, h1, rfl⟩
    rw [ng_ng hm hn (tb_lt hb h1)]
    exact h1
  · intro mk l t hl hlt ht e1 hl0 hz
    unfold g_X1_mirrored_1
    dsimp only
    have := sz_le l
    rw [if_neg (ii_gt0 hz (by omega)), e1, lessOf_i h ht, bit_i (by have := ng_lt hm hn (m := m) (n := n) t; omega), ll_or, without_i hl0, one_st (ng_lt hm hn (m := m) (n := n) t)]
  · intro mk
    unfold g_X1_mirrored_1
    dsimp only
    rw [if_pos ((ii_le0 (by decide)).mpr rfl)]
theorem sumOf_i (h : GI M m n) {a b : Nat} (ha : a < 2 ^ (m * n)) (hb : b < 2 ^ (m * n)) : d_X1_sumOf (ll a) (ll b) M = some (ll (smo m n a b)) := by
  have h' := h
  obtain ⟨hm, hn, hN, -⟩ := h'
  unfold d_X1_sumOf
  rw [bitCount_i (set64 hb hN), ll_0, gather (N := m * n) hb hN (fun x i => a.testBit (sb m n i x) = true) ?_ ?_]
  · rfl
  · intro mk l t hl hlt ht e1 hl0 hz
    unfold g_X1_sumOf_1
    dsimp only
    have := sz_le l
    rw [if_neg (ii_gt0 hz (by omega)), e1, shifted_i h ha ht, ll_or, without_i hl0]
    rfl
  · intro mk
    unfold g_X1_sumOf_1
    dsimp only
    rw [if_pos ((ii_le0 (by decide)).mpr rfl)]
theorem mir_lt (b : Nat) : mir m n b < 2 ^ (m * n) := st_lt _ _
theorem smo_lt (a b : Nat) : smo m n a b < 2 ^ (m * n) := st_lt _ _
theorem differenceOf_i (h : GI M m n) {a b : Nat} (ha : a < 2 ^ (m * n)) (hb : b < 2 ^ (m * n)) : d_X1_differenceOf (ll a) (ll b) M = some (ll (smo m n a (mir m n b))) := by
  unfold d_X1_differenceOf
  rw [mirrored_i h hb]
  show ((d_X1_sumOf (ll a) (ll (mir m n b)) M).bind fun w2 => some w2) = _
  rw [sumOf_i h ha (mir_lt b)]
  rfl
/-- a loop over all elements that gathers a set: state (set, element) -/
theorem up_set {N : Nat} (hN : N ≤ 36) {B : Type} {g : Int64 × Int32 → Option ((Int64 × Int32) ⊕ B)} {b : B} (P : Nat → Prop)
    (hs : ∀ k mk, k < N → g (ll mk, ii k) = some (.inl (ll (mk ||| @ite Nat (P k) (Classical.propDecidable _) (2 ^ k) 0), ii (k + 1))))
    (he : g (ll (st N P), ii N) = some (.inr b)) : iter g 20000 ((0 : Int64), (0 : Int32)) = some b := by
  have := it_full (g := g) N (fun k => (ll (st N (fun i => i < k ∧ P i)), ii k)) (b := b) (by omega) (fun k hk => by rw [st_step _ _ _ hk]; exact hs k _ hk) (by rw [st_all]; exact he)
  rw [st_none] at this
  exact this
/-- .. of any kind -/
theorem up_or {N : Nat} (hN : N ≤ 36) {B : Type} {g : Int64 × Int32 → Option ((Int64 × Int32) ⊕ B)} {b : B} (R : Nat → Nat → Prop)
    (hs : ∀ k mk, k < N → g (ll mk, ii k) = some (.inl (ll (mk ||| st N (R k)), ii (k + 1))))
    (he : g (ll (st N (fun i => ∃ x, x < N ∧ R x i)), ii N) = some (.inr b)) : iter g 20000 ((0 : Int64), (0 : Int32)) = some b := by
  have := it_full (g := g) N (fun k => (ll (st N (fun i => ∃ x, x < k ∧ R x i)), ii k)) (b := b) (by omega) (fun k hk => by
    rw [hs k _ hk]
    congr 3
    refine congrArg ll ?_
    refine st_eq (Nat.or_lt_two_pow (st_lt _ _) (st_lt _ _)) fun i hi => ?_
    rw [Nat.testBit_or, Bool.or_eq_true, st_bit, st_bit]
    constructor
    · rintro (⟨-, x, h1, h2⟩ | ⟨-, h⟩)
      · exact ⟨x, by omega, h2⟩
      · exact ⟨k, by omega, h⟩
    · rintro ⟨x, h1, h2⟩
      by_cases e : x = k
      · subst e; exact Or.inr ⟨hi, h2⟩
      · exact Or.inl ⟨hi, x, by omega, h2⟩) he
  rw [st_false (fun i _ ⟨x, hx, _⟩ => Nat.not_lt_zero x hx)] at this
  exact this
theorem if_ll (c : Prop) [Decidable c] (a b : Nat) : (if c then ll a else ll b) = ll (if c then a else b) := by split <;> rfl
theorem st_none' {N : Nat} {P : Nat → Prop} (h : ∀ i, ¬ P i) : st N P = 0 := st_false fun i _ => h i
theorem multiples_i (h : GI M m n) {t : Int} (ht : -100 ≤ t ∧ t ≤ 100) {b : Nat} (hb : b < 2 ^ (m * n)) : d_X1_multiples (zi t) (ll b) M = some (ll (st (m * n) (fun i => ∃ x, x < m * n ∧ b.testBit x = true ∧ ml m n t x = i))) := by
  have h' := h
  have hle := h.le
  obtain ⟨hm, hn, hN, h0, h1, h2, -⟩ := h'
  unfold d_X1_multiples
  rw [up_or hN (fun x i => b.testBit x = true ∧ ml m n t x = i) (b := .inl (ll (st (m * n) (fun i => ∃ x, x < m * n ∧ b.testBit x = true ∧ ml m n t x = i)), ii (m * n))) ?_ ?_]
  · rfl
  · intro k mk hk
    unfold g_X1_multiples_1
    dsimp only
    rw [if_pos (by rw [h2, ii_lt (by omega) (by omega)]; exact hk), has_i (set64 hb hN) (by omega), multiple_i h0 h1 hm hn hle ht (by omega), bit_i (by have := ml_lt hm hn (m := m) (n := n) t k; omega), ll_or, ii_inc]
    cases hbk : b.testBit k with
    | false =>
      rw [st_none' (fun i z => by cases z.1), Nat.or_zero]
      rfl
    | true =>
      rw [one_st (ml_lt hm hn (m := m) (n := n) t k), st_congr (Q := fun i => true = true ∧ ml m n t k = i) fun i _ => ⟨fun z => ⟨rfl, z⟩, fun z => z.2⟩]
      rfl
  · unfold g_X1_multiples_1
    dsimp only
    rw [if_neg (by rw [h2, ii_lt (by omega) (by omega)]; omega)]
theorem unlikeSumOf_i (h : GI M m n) {a b : Nat} (ha : a < 2 ^ (m * n)) (hb : b < 2 ^ (m * n)) : d_X1_unlikeSumOf (ll a) (ll b) M = some (ll (st (m * n) (fun i => ∃ x, x < m * n ∧ b.testBit x = true ∧ a.testBit (sb m n i x) = true ∧ sb m n i x ≠ x))) := by
  have h' := h
  have hle := h.le
  obtain ⟨hm, hn, hN, h0, h1, h2, -⟩ := h'
  unfold d_X1_unlikeSumOf
  rw [up_or hN (fun x i => b.testBit x = true ∧ a.testBit (sb m n i x) = true ∧ sb m n i x ≠ x) (b := .inl (ll (st (m * n) (fun i => ∃ x, x < m * n ∧ b.testBit x = true ∧ a.testBit (sb m n i x) = true ∧ sb m n i x ≠ x)), ii (m * n))) ?_ ?_]
  · rfl
  · intro k mk hk
    have hk36 : k < 64 := by omega
    have hx : a &&& (2 ^ k ^^^ (2 ^ 64 - 1)) < 2 ^ (m * n) := Nat.lt_of_le_of_lt Nat.and_le_left ha
    unfold g_X1_unlikeSumOf_1
    dsimp only
    rw [if_pos (by rw [h2, ii_lt (by omega) (by omega)]; exact hk), has_i (set64 hb hN) (by omega), bit_i hk36, ll_not, ll_and, shifted_i h hx hk, ll_or, ii_inc]
    cases hbk : b.testBit k with
    | false =>
      rw [st_none' (fun i z => by cases z.1), Nat.or_zero]
      rfl
    | true =>
      rw [show shf m n (a &&& (2 ^ k ^^^ (2 ^ 64 - 1))) k = st (m * n) (fun i => true = true ∧ a.testBit (sb m n i k) = true ∧ sb m n i k ≠ k) from st_congr fun i hi => ?_]
      · rfl
      · have hsb := sb_lt hm hn (m := m) (n := n) i k
        rw [Nat.testBit_and, not_bit _ _ (by omega), Nat.testBit_two_pow, Bool.and_eq_true, Bool.not_eq_true', decide_eq_false_iff_not]
        exact ⟨fun z => ⟨rfl, z.1, fun q => z.2 q.symm⟩, fun z => ⟨z.2.1, fun q => z.2.2 q.symm⟩⟩
  · unfold g_X1_unlikeSumOf_1
    dsimp only
    rw [if_neg (by rw [h2, ii_lt (by omega) (by omega)]; omega)]
theorem and_lt {a b N : Nat} (h : a < 2 ^ N) : a &&& b < 2 ^ N := Nat.lt_of_le_of_lt Nat.and_le_left h
/-- in how many ways -/
noncomputable def wy (m n a b e : Nat) : Nat := sz (a &&& shf m n (mir m n b) e)
theorem waysTo_i (h : GI M m n) {a b e : Nat} (ha : a < 2 ^ (m * n)) (hb : b < 2 ^ (m * n)) (he : e < m * n) : d_X1_waysTo (ii e) (ll a) (ll b) M = some (ii (wy m n a b e)) := by
  unfold d_X1_waysTo
  rw [mirrored_i h hb]
  show some _ = some _
  rw [shifted_i h (mir_lt b) he, ll_and, bitCount_i (set64 (and_lt ha) h.2.2.1)]
  rfl
noncomputable def wd (m n a e : Nat) : Nat := sz (a &&& shf m n a e)
theorem waysAsDifference_i (h : GI M m n) {a e : Nat} (ha : a < 2 ^ (m * n)) (he : e < m * n) : d_X1_waysAsDifference (ii e) (ll a) M = ii (wd m n a e) := by
  unfold d_X1_waysAsDifference
  rw [shifted_i h ha he, ll_and, bitCount_i (set64 (and_lt ha) h.2.2.1)]
  rfl
noncomputable def stb (m n a : Nat) : Nat := st (m * n) (fun e => shf m n a e = a)
theorem unmoved_i (h : GI M m n) {a : Nat} (ha : a < 2 ^ (m * n)) : d_X1_unmoved (ll a) M = some (ll (stb m n a)) := by
  have h' := h
  obtain ⟨hm, hn, hN, h0, h1, h2, -⟩ := h'
  unfold d_X1_unmoved
  rw [up_set hN (fun e => shf m n a e = a) (b := .inl (ll (stb m n a), ii (m * n))) ?_ ?_]
  · rfl
  · intro k mk hk
    unfold g_X1_unmoved_1
    dsimp only
    rw [if_pos (by rw [h2, ii_lt (by omega) (by omega)]; exact hk), shifted_i h ha hk, bit_i (by omega), ll_or, ii_inc]
    by_cases c : shf m n a k = a
    · rw [if_pos ((lc_0 (set64 (shf_lt a k) hN) (set64 ha hN)).mpr c), if_pos c]
    · rw [if_neg (fun z => c ((lc_0 (set64 (shf_lt a k) hN) (set64 ha hN)).mp z)), if_neg c, Nat.or_zero]
  · unfold g_X1_unmoved_1
    dsimp only
    rw [if_neg (by rw [h2, ii_lt (by omega) (by omega)]; omega)]
    rfl
end Cls
