/-! GAMES -/
theorem sm_inl {B : Type} {x y z : Int32} (h : x = y) : (some (Sum.inl (x, z)) : Option ((Int32 × Int32) ⊕ B)) = some (Sum.inl (y, z)) := by rw [h]
section Win
variable {M : Mem} {m n r : Nat}
theorem or_lt {x e N : Nat} (hx : x < 2 ^ N) (he : e < N) : x ||| 2 ^ e < 2 ^ N := Nat.or_lt_two_pow hx (Nat.pow_lt_pow_right (by decide) he)
theorem or_gt {x e : Nat} (h : x.testBit e = false) : x < x ||| 2 ^ e := by
  have h1 : x + 2 ^ e = x ||| 2 ^ e := add_or (x + 1) x (2 ^ e) (Nat.lt_trans (Nat.lt_succ_self x) Nat.lt_two_pow_self) fun i g1 g2 => by
    rw [Nat.testBit_two_pow, decide_eq_true_eq] at g2
    rw [← g2, h] at g1
    cases g1
  have := Nat.two_pow_pos e
  omega
theorem leads_i (h10 : m * n ≤ 10) {x e : Nat} (hx : x < 2 ^ (m * n)) (he : e < m * n) : d_X0_leadsToLost (ii x) (ii e) M = bI (x.testBit e = false ∧ M.1 13 (x ||| 2 ^ e) = 1) := by
  have hp : 2 ^ (m * n) ≤ 2 ^ 10 := Nat.pow_le_pow_right (by decide) h10
  have ho := or_lt hx he
  have ea : d_X7_at 13 1024 (ii (x ||| 2 ^ e)) M = M.1 13 (x ||| 2 ^ e) := by
    unfold d_X7_at
    rw [if_neg (ii_lt0 (by omega)), if_pos (by rw [show (1024 : Int32) = ii 1024 from rfl, ii_lt (by omega) (by decide)]; omega), ii_ix (by omega)]
  unfold d_X0_leadsToLost
  rw [ii_i64 (by omega), has_i (by omega) (by omega), jsl_i e (by omega), ii_or, ea]
  cases hb : x.testBit e with
  | true => rw [if_neg (by decide), bI_f fun z => by cases z.1]
  | false =>
    rw [if_pos (by decide), bI_ite]
    exact bI_congr ⟨fun z => ⟨rfl, z⟩, fun z => z.2⟩
theorem isLost_i (h : GI M m n) (hr : r < 4) (h10 : m * n ≤ 10) {x : Nat} (hx : x < 2 ^ (m * n)) : d_X0_isLost (ii x) (ii r) M = some (bI (Keep m n r x ∧ ∀ e, e < m * n → x.testBit e = false → ¬ M.1 13 (x ||| 2 ^ e) = 1)) := by
  have h2 := h.2.2.2.2.2.1
  have hp : 2 ^ (m * n) ≤ 2 ^ 10 := Nat.pow_le_pow_right (by decide) h10
  unfold d_X0_isLost
  rw [ii_i64 (by omega), hold_i h hr hx]
  show (if bI (Keep m n r x) = 0 then some (0 : Int32) else _) = _
  by_cases ck : Keep m n r x
  · rw [if_neg (by rw [bI_t ck]; decide)]
    refine k_ex (fun b e1 e2 => ?_) (it_loop (g := g_X0_isLost_1 (ii x) M) (m * n) (fun k a => a = ii k ∧ ∀ e, e < k → x.testBit e = false → ¬ M.1 13 (x ||| 2 ^ e) = 1)
      (fun b => (∃ y, b = .inl y ∧ ∀ e, e < m * n → x.testBit e = false → ¬ M.1 13 (x ||| 2 ^ e) = 1) ∨ (b = .inr (0 : Int32) ∧ ¬ ∀ e, e < m * n → x.testBit e = false → ¬ M.1 13 (x ||| 2 ^ e) = 1)) (a := (0 : Int32)) (by omega) ⟨rfl, fun e he => absurd he (Nat.not_lt_zero e)⟩ ?_ ?_)
    · rw [e1]
      rcases e2 with ⟨y, rfl, h3⟩ | ⟨rfl, h3⟩
      · rw [bI_t ⟨ck, h3⟩]; rfl
      · rw [bI_f fun z => h3 z.2]; rfl
    · rintro k a hk ⟨rfl, h3⟩
      unfold g_X0_isLost_1
      rw [h2, if_pos ((ii_lt (by omega) (by omega)).mpr hk), leads_i h10 hx hk]
      by_cases c : x.testBit k = false ∧ M.1 13 (x ||| 2 ^ k) = 1
      · rw [if_neg (by rw [bI_t c]; decide)]
        exact Or.inr ⟨_, rfl, Or.inr ⟨rfl, fun z => z k hk c.1 c.2⟩⟩
      · rw [if_pos (bI_f c), ii_inc]
        refine Or.inl ⟨_, rfl, rfl, fun e he hb => ?_⟩
        by_cases ek : e = k
        · subst ek; exact fun z => c ⟨hb, z⟩
        · exact h3 e (by omega) hb
    · rintro a ⟨rfl, h3⟩
      unfold g_X0_isLost_1
      rw [h2, if_neg (by rw [ii_lt (by omega) (by omega)]; omega)]
      exact ⟨_, rfl, Or.inl ⟨_, rfl, h3⟩⟩
  · rw [if_pos (bI_f ck), bI_f fun z => ck z.1]
/-- the class's game -/
theorem winning_i (h : GI M m n) (hr : r < 4) (h10 : m * n ≤ 10) {put : Nat} (hput : put < 2 ^ (m * n)) : ∃ (D : Mem) (C : Nat → Prop), d_X0_winning (ii put) (ii r) M = some (.inl (some (.long (ll (st (m * n) fun e => put.testBit e = false ∧ C (put ||| 2 ^ e))))), D) ∧ Wk M D ∧
    ∀ s, put < s → s < 2 ^ (m * n) → Sub put s → (C s ↔ Keep m n r s ∧ ∀ e, e < m * n → s.testBit e = false → ¬ C (s ||| 2 ^ e)) := by
  have hN := h.2.2.1
  have h3' := h.2.2.2.2.2.2.1
  have hp : 2 ^ (m * n) ≤ 2 ^ 10 := Nat.pow_le_pow_right (by decide) h10
  have hp0 := Nat.two_pow_pos (m * n)
  refine k_ex (fun b e1 e2 => ?_) (it_loop (g := g_X0_winning_1 (ii put) (ii r)) (2 ^ (m * n) - 1 - put) (fun k a => ∃ D : Mem, a = (ii (2 ^ (m * n) - 1 - k), D) ∧ Wk M D ∧ ∀ s, 2 ^ (m * n) - 1 - k < s → s < 2 ^ (m * n) → Sub put s → (D.1 13 s = 1 ↔ Keep m n r s ∧ ∀ e, e < m * n → s.testBit e = false → ¬ D.1 13 (s ||| 2 ^ e) = 1))
    (fun b => ∃ D : Mem, ∃ y, b = .inl (y, D) ∧ Wk M D ∧ ∀ s, put < s → s < 2 ^ (m * n) → Sub put s → (D.1 13 s = 1 ↔ Keep m n r s ∧ ∀ e, e < m * n → s.testBit e = false → ¬ D.1 13 (s ||| 2 ^ e) = 1)) (a := (ii (2 ^ (m * n) - 1), M)) (by omega) ⟨M, rfl, Wk.rf M, fun s g1 g2 => by omega⟩ ?_ ?_)
  · obtain ⟨D, y, rfl, hw, hD⟩ := e2
    refine ⟨D, fun s => D.1 13 s = 1, ?_, hw, hD⟩
    have hG := h.w hw
    have g2 := hG.2.2.2.2.2.1
    unfold d_X0_winning
    rw [h3', ll_i32, e1]
    show onIt (iter (g_X0_winning_3 (ii put) (y, D)) 20000 ((0 : Int64), (0 : Int32))) _ _ = _
    rw [up_set hN (fun e => put.testBit e = false ∧ D.1 13 (put ||| 2 ^ e) = 1) (b := .inl (ll (st (m * n) fun e => put.testBit e = false ∧ D.1 13 (put ||| 2 ^ e) = 1), ii (m * n))) ?_ ?_]
    · rfl
    · intro k mk hk
      unfold g_X0_winning_3
      dsimp only
      rw [g2, if_pos ((ii_lt (by omega) (by omega)).mpr hk), leads_i h10 hput hk, bit_i (by omega), ll_or, ii_inc]
      by_cases c : put.testBit k = false ∧ D.1 13 (put ||| 2 ^ k) = 1
      · rw [if_neg (by rw [bI_t c]; decide), if_pos c]
      · rw [if_pos (bI_f c), if_neg c, Nat.or_zero]
    · unfold g_X0_winning_3
      dsimp only
      rw [g2, if_neg (by rw [ii_lt (by omega) (by omega)]; omega)]
  · rintro k a hk ⟨D, rfl, hw, hD⟩
    generalize hx : 2 ^ (m * n) - 1 - k = x at hD ⊢
    have hx1 : put < x := by omega
    have hx2 : x < 2 ^ (m * n) := by omega
    have hG := h.w hw
    have enext : ii x + (-1 : Int32) = ii (2 ^ (m * n) - 1 - (k + 1)) := by
      rw [ii_dec (by omega)]
      congr 1
      omega
    unfold g_X0_winning_1
    dsimp only
    rw [if_neg (by rw [ii_le (by omega) (by omega)]; omega), ii_and]
    by_cases c : x &&& put = put
    · have hsub : Sub put x := fun i hi => by
        have := congrArg (fun z => z.testBit i) c
        simp only [Nat.testBit_and, hi, Bool.and_true] at this
        exact this
      rw [if_pos (by rw [c]), isLost_i hG hr h10 hx2, enext]
      have lay : ∀ v : Int32, d_X7_lay 13 1024 (ii x) v D = sI D 13 x v := fun v => by
        unfold d_X7_lay
        rw [if_neg (ii_lt0 (by omega)), if_pos (by rw [show (1024 : Int32) = ii 1024 from rfl, ii_lt (by omega) (by decide)]; omega), ii_ix (by omega)]
      refine Or.inl ⟨_, rfl, sI D 13 x (if bI (Keep m n r x ∧ ∀ e, e < m * n → x.testBit e = false → ¬ D.1 13 (x ||| 2 ^ e) = 1) = 0 then 0 else 1), ?_, hw.i (by unfold wk; omega), fun s g1 g2 g3 => ?_⟩
      · rw [lay]
      · have far : ∀ e, s.testBit e = false → (sI D 13 x (if bI (Keep m n r x ∧ ∀ e, e < m * n → x.testBit e = false → ¬ D.1 13 (x ||| 2 ^ e) = 1) = 0 then 0 else 1)).1 13 (s ||| 2 ^ e) = D.1 13 (s ||| 2 ^ e) := fun e he => by
          have := or_gt he
          rw [sI_ne _ _ (fun z => by omega)]
        by_cases cs : s = x
        · subst cs
          rw [sI_at]
          by_cases cl : Keep m n r s ∧ ∀ e, e < m * n → s.testBit e = false → ¬ D.1 13 (s ||| 2 ^ e) = 1
          · rw [if_neg (by rw [bI_t cl]; decide)]
            exact ⟨fun _ => ⟨cl.1, fun e he hb => by rw [sI_ne _ _ (fun z => by have := or_gt hb; omega)]; exact cl.2 e he hb⟩, fun _ => rfl⟩
          · rw [if_pos (bI_f cl)]
            refine ⟨fun z => absurd z (by decide), fun z => (cl ⟨z.1, fun e he hb => ?_⟩).elim⟩
            have := z.2 e he hb
            rwa [sI_ne _ _ (fun z => by have := or_gt hb; omega)] at this
        · rw [sI_ne _ _ (fun z => cs z.2), hD s (by omega) g2 g3]
          constructor
          · rintro ⟨q1, q2⟩
            exact ⟨q1, fun e he hb => by rw [far e hb]; exact q2 e he hb⟩
          · rintro ⟨q1, q2⟩
            exact ⟨q1, fun e he hb => by have := q2 e he hb; rwa [far e hb] at this⟩
    · have hle : x &&& put ≤ x := Nat.and_le_left
      rw [if_neg (fun z => c ((ii_eq (by omega) (by omega)).mp z)), enext]
      refine Or.inl ⟨_, rfl, D, rfl, hw, fun s g1 g2 g3 => ?_⟩
      by_cases cs : s = x
      · subst cs
        refine (c (Nat.eq_of_testBit_eq fun i => ?_)).elim
        rw [Nat.testBit_and]
        cases e : put.testBit i with
        | false => rw [Bool.and_false]
        | true => rw [g3 i e]; rfl
      · exact hD s (by omega) g2 g3
  · rintro a ⟨D, rfl, hw, hD⟩
    have e : 2 ^ (m * n) - 1 - (2 ^ (m * n) - 1 - put) = put := by omega
    rw [e] at hD ⊢
    unfold g_X0_winning_1
    dsimp only
    rw [if_pos ((ii_le (by omega) (by omega)).mpr (Nat.le_refl _))]
    exact ⟨_, rfl, D, _, rfl, hw, hD⟩
/-- the reference's game -/
theorem mwins_i (h : MI M m n) (hr : r < 4) (h10 : m * n ≤ 10) {set : Nat} (hset : set < 2 ^ (m * n)) : ∃ (D : Mem) (T : Nat → Prop), onIt (iter (g_X8_wins_7 (ii r)) 20000 ((d_X8_whole M).toInt32, M)) (fun (a10 : Int32 × Mem) => (onIt (iter (g_X8_wins_11 (ii r) (ll set) a10) 20000 ((0 : Int64), (0 : Int32))) (fun (a12 : Int64 × Int32) => some (.inl (some (.long a12.1)), a10.2)) (fun r => some r))) (fun r => some r) = (some (.inl (some (.long (ll (st (m * n) fun e => set.testBit e = false ∧ Keep m n r (set ||| 2 ^ e) ∧ T (set ||| 2 ^ e))))), D) : Option (Res × Mem)) ∧ Wk M D ∧ D.1 19 15 = M.1 19 15 ∧ D.2 29 0 = M.2 29 0 ∧
    ∀ s, s < 2 ^ (m * n) → (T s ↔ ∀ e, e < m * n → s.testBit e = false → Keep m n r (s ||| 2 ^ e) → ¬ T (s ||| 2 ^ e)) := by
  have hN := h.2.2.1
  have hp : 2 ^ (m * n) ≤ 2 ^ 10 := Nat.pow_le_pow_right (by decide) h10
  have hp0 := Nat.two_pow_pos (m * n)
  refine k_ex (fun b e1 e2 => ?_) (it_loop (g := g_X8_wins_7 (ii r)) (2 ^ (m * n)) (fun k a => ∃ D : Mem, a = (zi ((2 ^ (m * n) : Nat) - 1 - (k : Int)), D) ∧ Wk M D ∧ D.1 19 15 = M.1 19 15 ∧ D.2 29 0 = M.2 29 0 ∧ ∀ s, 2 ^ (m * n) ≤ s + k → s < 2 ^ (m * n) → (¬ D.1 26 s = 0 ↔ ∀ e, e < m * n → s.testBit e = false → Keep m n r (s ||| 2 ^ e) → ¬ ¬ D.1 26 (s ||| 2 ^ e) = 0))
    (fun b => ∃ D : Mem, ∃ y, b = .inl (y, D) ∧ Wk M D ∧ D.1 19 15 = M.1 19 15 ∧ D.2 29 0 = M.2 29 0 ∧ ∀ s, s < 2 ^ (m * n) → (¬ D.1 26 s = 0 ↔ ∀ e, e < m * n → s.testBit e = false → Keep m n r (s ||| 2 ^ e) → ¬ ¬ D.1 26 (s ||| 2 ^ e) = 0)) (a := (zi ((2 ^ (m * n) : Nat) - 1 - ((0 : Nat) : Int)), M)) (by omega) ⟨M, rfl, Wk.rf M, rfl, rfl, fun s g1 g2 => by omega⟩ ?_ ?_)
  · obtain ⟨D, y, rfl, hw, h15, h29, hD⟩ := e2
    refine ⟨D, fun s => ¬ D.1 26 s = 0, ?_, hw, h15, h29, hD⟩
    have hG := h.w hw
    have hsz := msize_i hG
    have e0 : zi ((2 ^ (m * n) : Nat) - 1 - ((0 : Nat) : Int)) = (d_X8_whole M).toInt32 := by
      rw [mwhole_i h, ll_i32, ← zi_ii]
      congr 1
      omega
    rw [← e0, e1]
    show onIt (iter (g_X8_wins_11 (ii r) (ll set) (y, D)) 20000 ((0 : Int64), (0 : Int32))) _ _ = _
    rw [up_set hN (fun e => set.testBit e = false ∧ Keep m n r (set ||| 2 ^ e) ∧ ¬ D.1 26 (set ||| 2 ^ e) = 0) (b := .inl (ll (st (m * n) fun e => set.testBit e = false ∧ Keep m n r (set ||| 2 ^ e) ∧ ¬ D.1 26 (set ||| 2 ^ e) = 0), ii (m * n))) ?_ ?_]
    · rfl
    · intro k mk hk
      have ho := or_lt hset hk
      unfold g_X8_wins_11
      dsimp only
      rw [hsz, if_pos ((ii_lt (by omega) (by omega)).mpr hk), mhas_i (set64 hset hN) (by omega), mbit_i (by omega), ll_or, keepsRule_i hG hr ho, ll_i32, jsl_i k (by omega), ii_or, if_pos (ii_inb (n := 1024) (by omega) (by decide)), ii_ix (by omega), ii_inc]
      show (if (if set.testBit k = true then (1 : Int32) else 0) = 0 then (if bI (Keep m n r (set ||| 2 ^ k)) = 0 then _ else _) else _) = _
      cases hb : set.testBit k with
      | true =>
        rw [if_neg (by decide), if_pos rfl, if_neg (fun z => by cases z.1), ll_0, ll_or]
      | false =>
        rw [if_pos (by decide)]
        by_cases ck : Keep m n r (set ||| 2 ^ k)
        · rw [if_neg (by rw [bI_t ck]; decide)]
          by_cases ct : D.1 26 (set ||| 2 ^ k) = 0
          · rw [if_pos ct, if_pos rfl, if_neg (fun z => z.2.2 ct), ll_0, ll_or]
          · rw [if_neg ct, if_neg (by decide), if_pos ⟨rfl, ck, ct⟩, ll_or]
        · rw [if_pos (bI_f ck), if_pos rfl, if_neg (fun z => ck z.2.1), ll_0, ll_or]
    · unfold g_X8_wins_11
      dsimp only
      rw [hsz, if_neg (by rw [ii_lt (by omega) (by omega)]; omega)]
  · rintro k a hk ⟨D, rfl, hw, h15, h29, hD⟩
    obtain ⟨x, hx⟩ : ∃ x, x = 2 ^ (m * n) - 1 - k := ⟨_, rfl⟩
    have hx2 : x < 2 ^ (m * n) := by omega
    have ex : zi ((2 ^ (m * n) : Nat) - 1 - (k : Int)) = ii x := by
      rw [← zi_ii]
      congr 1
      omega
    have enext : ii x + (-1 : Int32) = zi ((2 ^ (m * n) : Nat) - 1 - ((k + 1 : Nat) : Int)) := by
      rw [← zi_ii, show (-1 : Int32) = zi (-1) from rfl, zi_add]
      congr 1
      omega
    have hG := h.w hw
    have hsz := msize_i hG
    have inner : iter (g_X8_wins_8 (ii r) (ii x, D)) 20000 ((1 : Int32), (0 : Int32)) = some (.inl (bI (True ∧ ∀ e, e < m * n → x.testBit e = false → Keep m n r (x ||| 2 ^ e) → ¬ ¬ D.1 26 (x ||| 2 ^ e) = 0), ii (m * n))) := by
      rw [show (1 : Int32) = bI True from (bI_t trivial).symm]
      refine up_all (N := m * n) (by omega) True (fun e => x.testBit e = false → Keep m n r (x ||| 2 ^ e) → ¬ ¬ D.1 26 (x ||| 2 ^ e) = 0) ?_ ?_
      · intro e P he
        have ho := or_lt hx2 he
        unfold g_X8_wins_8
        dsimp only
        rw [hsz, if_pos ((ii_lt (by omega) (by omega)).mpr he), ii_i64 (by omega), mhas_i (by omega) (by omega), mbit_i (by omega), ll_or, keepsRule_i hG hr ho, jsl_i e (by omega), ii_or, if_pos (ii_inb (n := 1024) (by omega) (by decide)), ii_ix (by omega), ii_inc, bI_one]
        show (if (if x.testBit e = true then (1 : Int32) else 0) = 0 then (if bI (Keep m n r (x ||| 2 ^ e)) = 0 then _ else _) else _) = _
        cases hb : x.testBit e with
        | true =>
          rw [if_neg (by decide)]
          exact sm_inl (bI_congr ⟨fun q => ⟨q, fun z => by cases z⟩, fun q => q.1⟩)
        | false =>
          rw [if_pos (by decide)]
          by_cases ck : Keep m n r (x ||| 2 ^ e)
          · rw [if_neg (by rw [bI_t ck]; decide), bI_ite, bI_and]
            exact sm_inl (bI_congr ⟨fun q => ⟨q.1, fun _ _ z => z q.2⟩, fun q => ⟨q.1, Classical.byContradiction fun z => q.2 rfl ck z⟩⟩)
          · rw [if_pos (bI_f ck)]
            exact sm_inl (bI_congr ⟨fun q => ⟨q, fun _ z => (ck z).elim⟩, fun q => q.1⟩)
      · unfold g_X8_wins_8
        dsimp only
        rw [hsz, if_neg (by rw [ii_lt (by omega) (by omega)]; omega)]
    rw [ex]
    unfold g_X8_wins_7
    dsimp only
    rw [if_neg (ii_lt0 (by omega)), inner]
    refine Or.inl ⟨(zi ((2 ^ (m * n) : Nat) - 1 - ((k + 1 : Nat) : Int)), sI D 26 x (bI (True ∧ ∀ e, e < m * n → x.testBit e = false → Keep m n r (x ||| 2 ^ e) → ¬ ¬ D.1 26 (x ||| 2 ^ e) = 0))), ?_, sI D 26 x (bI (True ∧ ∀ e, e < m * n → x.testBit e = false → Keep m n r (x ||| 2 ^ e) → ¬ ¬ D.1 26 (x ||| 2 ^ e) = 0)), rfl, hw.i (by unfold wk; omega), h15, h29, fun s g1 g2 => ?_⟩
    · show (if inb (ii x) 1024 = true then _ else none) = _
      rw [if_pos (ii_inb (by omega) (by decide)), ii_ix (by omega), bI_one, enext]
    · have far : ∀ e, s.testBit e = false → (sI D 26 x (bI (True ∧ ∀ e, e < m * n → x.testBit e = false → Keep m n r (x ||| 2 ^ e) → ¬ ¬ D.1 26 (x ||| 2 ^ e) = 0))).1 26 (s ||| 2 ^ e) = D.1 26 (s ||| 2 ^ e) := fun e he => by
        have := or_gt he
        rw [sI_ne _ _ (fun z => by omega)]
      by_cases cs : s = x
      · have fa : ∀ e, x.testBit e = false → (sI D 26 x (bI (True ∧ ∀ e, e < m * n → x.testBit e = false → Keep m n r (x ||| 2 ^ e) → ¬ ¬ D.1 26 (x ||| 2 ^ e) = 0))).1 26 (x ||| 2 ^ e) = D.1 26 (x ||| 2 ^ e) := by rw [cs] at far; exact far
        rw [cs, sI_at, bI_eq0]
        constructor
        · intro z e he hb hk
          rw [fa e hb]
          exact (Classical.byContradiction z : True ∧ _).2 e he hb hk
        · intro z y
          refine y ⟨trivial, fun e he hb hk => ?_⟩
          have := z e he hb hk
          rwa [fa e hb] at this
      · rw [sI_ne _ _ (fun z => cs z.2), hD s (by omega) g2]
        constructor
        · intro z e he hb hk
          rw [far e hb]
          exact z e he hb hk
        · intro z e he hb hk
          have := z e he hb hk
          rwa [far e hb] at this
  · rintro a ⟨D, rfl, hw, h15, h29, hD⟩
    have ex : zi ((2 ^ (m * n) : Nat) - 1 - ((2 ^ (m * n) : Nat) : Int)) = zi (-1) := by
      congr 1
      omega
    rw [ex]
    unfold g_X8_wins_7
    dsimp only
    rw [if_pos ((zi_lt0 (by decide) (by decide)).mpr (by decide))]
    exact ⟨_, rfl, D, _, rfl, hw, h15, h29, fun s hs => hD s (by omega) hs⟩
end Win
section Cas
variable {M : Mem}
theorem cs_wins (h : Inv M) (v1 : Int32) (v2 : Int64) : CsL (d_L_wins v1 v2) (d_X8_wins v1 v2) M := by
  obtain ⟨m, n, c, a, r, q, p, w, h⟩ := h
  have hN := h.1.2.2.1
  have hall := h.1.2.2.2.2.2.2.1
  have h2 := h.1.2.2.2.2.2.1
  have hm := h.1.1
  have hn := h.1.2.1
  rcases inR (0 : Int32) v1 (3 : Int32) with ⟨r1, r2⟩ | ⟨r1, r2, r3, r4⟩
  · exact CsL.thr h 1 0 (by decide) (by simp only [d_L_wins, d_X7_wins, d_X7_needRule, r1, onV_ok, onV_thr, onI_ok, onI_thr, onL_ok, onL_thr, Option.bind_some, c10, c00, cl0, cl1, cl2, cl3, e1a, e1b, e1c, e2a, e2b, e2c, e3a, e3b, e3c, inb0, ix0, if_true, if_false, reduceIte]) (by simp only [d_X8_wins, d_X8_isRule, r2, zero1, onV_ok, onV_thr, onI_ok, onI_thr, onL_ok, onL_thr, Option.bind_some, c10, c00, cl0, cl1, cl2, cl3, e1a, e1b, e1c, e2a, e2b, e2c, e3a, e3b, e3c, inb0, ix0, if_true, if_false, reduceIte])
  obtain ⟨l, rfl, hl1, hl2⟩ := rngN (lo := 0) (hi := 3) (by decide) (by decide) r3 r4
  have hl : l < 4 := by omega
  obtain ⟨x, hx, rfl⟩ := ll_of v2
  have hx2 : x &&& ((2 ^ (m * n) - 1) ^^^ (2 ^ 64 - 1)) < 18446744073709551616 := Nat.lt_of_le_of_lt Nat.and_le_left hx
  have ec : d_X1_hasAll (ll x) M = if lg_cmp (ll (x &&& ((2 ^ (m * n) - 1) ^^^ (2 ^ 64 - 1)))) 0 = 0 then 1 else 0 := by
    unfold d_X1_hasAll
    rw [hall, ll_not, ll_and]
  have em : ∀ {A : Mem}, MI A m n → ll x &&& (d_X8_whole A ^^^ (-1 : Int64)) = ll (x &&& ((2 ^ (m * n) - 1) ^^^ (2 ^ 64 - 1))) := fun g => by rw [mwhole_i g, ll_not, ll_and]
  by_cases hin : x < 2 ^ (m * n)
  · have e1 : lg_cmp (ll (x &&& ((2 ^ (m * n) - 1) ^^^ (2 ^ 64 - 1)))) 0 = 0 := (lc_z hx2).mpr ((inAll hx hN).mpr hin)
    by_cases ck : Keep m n l x
    · have k0 : ¬ bI (Keep m n l x) = 0 := by rw [bI_t ck]; decide
      have e10 : ii (m * n) ≤ (10 : Int32) ↔ m * n ≤ 10 := by rw [show (10 : Int32) = ii 10 from rfl, ii_le (by omega) (by decide)]
      by_cases h10 : m * n ≤ 10
      · obtain ⟨D, C, d1, d2, d3⟩ := winning_i h.1 hl h10 hin
        obtain ⟨E, T, t1, t2, t3, t4, t5⟩ := mwins_i (M := sI (sL D 29 0 (ll (st (m * n) fun e => x.testBit e = false ∧ C (x ||| 2 ^ e)))) 19 15 0) ((h.w ((d2.out _).thr2 0)).2.1) hl h10 hin
        have key : ∀ k s, k + s = 2 ^ (m * n) → x < s → Sub x s → s < 2 ^ (m * n) → (C s ↔ Keep m n l s ∧ T s) := by
          intro k
          induction k using Nat.strongRecOn with
          | ind k ih =>
            intro s hk hxs hsub hs
            rw [d3 s hxs hs hsub, t5 s hs]
            refine and_congr Iff.rfl (forall_congr' fun e => forall_congr' fun he => forall_congr' fun hb => ?_)
            have g1 := or_gt hb
            have g2 := or_lt hs he
            have := ih (2 ^ (m * n) - (s ||| 2 ^ e)) (by omega) (s ||| 2 ^ e) (by omega) (by omega) (fun i hi => by rw [Nat.testBit_or, hsub i hi]; rfl) g2
            rw [this]
            exact ⟨fun z y t => z ⟨y, t⟩, fun z y => z y.1 y.2⟩
        have eqS : (st (m * n) fun e => x.testBit e = false ∧ C (x ||| 2 ^ e)) = st (m * n) fun e => x.testBit e = false ∧ Keep m n l (x ||| 2 ^ e) ∧ T (x ||| 2 ^ e) := by
          refine st_congr fun e he => and_congr_right fun hb => ?_
          have g1 := or_gt hb
          have g2 := or_lt hin he
          exact key (2 ^ (m * n) - (x ||| 2 ^ e)) _ (by omega) g1 (fun i hi => by rw [Nat.testBit_or, hi]; rfl) g2
        refine ⟨0, ll (st (m * n) fun e => x.testBit e = false ∧ C (x ||| 2 ^ e)), sL D 29 0 (ll (st (m * n) fun e => x.testBit e = false ∧ C (x ||| 2 ^ e))), E, ?_, ?_, t3, fun _ => t4, m, n, c, a, r, q, p, w, h.w (((d2.out _).thr2 0).tr t2)⟩
        · simp only [d_L_wins, d_X7_wins, d_X7_needRule, r1, ec, e1, hold_i h.1 hl hin, if_neg k0, h2, if_pos (e10.mpr h10), ll_i32, d1, onV_ok, onV_thr, onI_ok, onI_thr, onL_ok, onL_thr, Option.bind_some, c10, c00, cl0, cl1, cl2, cl3, e1a, e1b, e1c, e2a, e2b, e2c, e3a, e3b, e3c, inb0, ix0, if_true, if_false, reduceIte]
        · have g := h.w (d2.out (ll (st (m * n) fun e => x.testBit e = false ∧ C (x ||| 2 ^ e))))
          simp only [d_X8_wins, d_X8_isRule, r2, one1, em g.2.1, e1, keepsRule_i g.2.1 hl hin, if_neg k0, msize_i g.2.1, if_pos (e10.mpr h10), onV_ok, onV_thr, onI_ok, onI_thr, onL_ok, onL_thr, Option.bind_some, c10, c00, cl0, cl1, cl2, cl3, e1a, e1b, e1c, e2a, e2b, e2c, e3a, e3b, e3c, inb0, ix0, if_true, if_false, reduceIte]
          rw [t1, eqS]
      · exact CsL.thr h 3 0 (by decide) (by simp only [d_L_wins, d_X7_wins, d_X7_needRule, r1, ec, e1, hold_i h.1 hl hin, if_neg k0, h2, if_neg (fun z => h10 (e10.mp z)), onV_ok, onV_thr, onI_ok, onI_thr, onL_ok, onL_thr, Option.bind_some, c10, c00, cl0, cl1, cl2, cl3, e1a, e1b, e1c, e2a, e2b, e2c, e3a, e3b, e3c, inb0, ix0, if_true, if_false, reduceIte]) (by simp only [d_X8_wins, d_X8_isRule, r2, one1, em h.2.1, e1, keepsRule_i h.2.1 hl hin, if_neg k0, msize_i h.2.1, if_neg (fun z => h10 (e10.mp z)), onV_ok, onV_thr, onI_ok, onI_thr, onL_ok, onL_thr, Option.bind_some, c10, c00, cl0, cl1, cl2, cl3, e1a, e1b, e1c, e2a, e2b, e2c, e3a, e3b, e3c, inb0, ix0, if_true, if_false, reduceIte])
    · have k0 : bI (Keep m n l x) = 0 := bI_f ck
      exact CsL.thr h 2 0 (by decide) (by simp only [d_L_wins, d_X7_wins, d_X7_needRule, r1, ec, e1, hold_i h.1 hl hin, k0, onV_ok, onV_thr, onI_ok, onI_thr, onL_ok, onL_thr, Option.bind_some, c10, c00, cl0, cl1, cl2, cl3, e1a, e1b, e1c, e2a, e2b, e2c, e3a, e3b, e3c, inb0, ix0, if_true, if_false, reduceIte]) (by simp only [d_X8_wins, d_X8_isRule, r2, one1, em h.2.1, e1, keepsRule_i h.2.1 hl hin, k0, onV_ok, onV_thr, onI_ok, onI_thr, onL_ok, onL_thr, Option.bind_some, c10, c00, cl0, cl1, cl2, cl3, e1a, e1b, e1c, e2a, e2b, e2c, e3a, e3b, e3c, inb0, ix0, if_true, if_false, reduceIte])
  · have e1 : ¬ lg_cmp (ll (x &&& ((2 ^ (m * n) - 1) ^^^ (2 ^ 64 - 1)))) 0 = 0 := fun z => hin ((inAll hx hN).mp ((lc_z hx2).mp z))
    exact CsL.thr h 2 0 (by decide) (by simp only [d_L_wins, d_X7_wins, d_X7_needRule, r1, ec, if_neg e1, onV_ok, onV_thr, onI_ok, onI_thr, onL_ok, onL_thr, Option.bind_some, c10, c00, cl0, cl1, cl2, cl3, e1a, e1b, e1c, e2a, e2b, e2c, e3a, e3b, e3c, inb0, ix0, if_true, if_false, reduceIte]) (by simp only [d_X8_wins, d_X8_isRule, r2, one1, em h.2.1, if_neg e1, onV_ok, onV_thr, onI_ok, onI_thr, onL_ok, onL_thr, Option.bind_some, c10, c00, cl0, cl1, cl2, cl3, e1a, e1b, e1c, e2a, e2b, e2c, e3a, e3b, e3c, inb0, ix0, if_true, if_false, reduceIte])
end Cas
