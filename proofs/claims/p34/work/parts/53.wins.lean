/-! GAMES -/
theorem sm_inl {B : Type} {x y z : Int32} (h : x = y) : (some (Sum.inl (x, z)) : Option ((Int32 × Int32) ⊕ B)) = some (Sum.inl (y, z)) := by rw [h]
section Win
variable {M : Mem} {m n r : Nat}
theorem or_lt {x e N : Nat} (hx : x < 2 ^ N) (he : e < N) : x ||| 2 ^ e < 2 ^ N := Nat.or_lt_two_pow hx (Nat.pow_lt_pow_right (by decide) he)
theorem or_gt {x e : Nat} (h : x.testBit e = false) : x < x ||| 2 ^ e := by
  have h1 : x + 2 ^ e = x ||| 2 ^ e := add_or (x + 1) x (2 ^ e) (Nat.lt_trans (Nat.lt_succ_self x) Nat.lt_two_pow_self) fun i g1 g2 => by
    rw [Nat.testBit_two_pow, decide_eq_true_eq] at g2
    rw [← g2, h] at g1
    cases g1
  have := Nat.two_pow_pos e
  omega
theorem leads_i (h10 : m * n ≤ 10) {x e : Nat} (hx : x < 2 ^ (m * n)) (he : e < m * n) : d_X0_leadsToLost (ii x) (ii e) M = bI (x.testBit e = false ∧ M.1 13 (x ||| 2 ^ e) = 1) := by
  have hp : 2 ^ (m * n) ≤ 2 ^ 10 := Nat.pow_le_pow_right (by decide) h10
  have ho := or_lt hx he
  have ea : d_X7_at 13 1024 (ii (x ||| 2 ^ e)) M = M.1 13 (x ||| 2 ^ e) := by
    unfold d_X7_at
    rw [if_neg (ii_lt0 (by omega)), if_pos (by rw [show (1024 : Int32) = ii 1024 from rfl, ii_lt (by omega) (by decide)]; omega), ii_ix (by omega)]
  unfold d_X0_leadsToLost
  rw [ii_i64 (by omega), has_i (by omega) (by omega), jsl_i e (by omega), ii_or, ea]
  cases hb : x.testBit e with
  | true => rw [if_neg (by decide), bI_f fun z => by cases z.1]
  | false =>
    rw [if_pos (by decide), bI_ite]
    exact bI_congr ⟨fun z => ⟨rfl, z⟩, fun z => z.2⟩
theorem isLost_i (h : GI M m n) (hr : r < 4) (h10 : m * n ≤ 10) {x : Nat} (hx : x < 2 ^ (m * n)) : d_X0_isLost (ii x) (ii r) M = some (bI (Keep m n r x ∧ ∀ e, e < m * n → x.testBit e = false → ¬ M.1 13 (x ||| 2 ^ e) = 1)) := by
  have h2 := h.2.2.2.2.2.1
  have hp : 2 ^ (m * n) ≤ 2 ^ 10 := Nat.pow_le_pow_right (by decide) h10
  unfold d_X0_isLost
  rw [ii_i64 (by omega), hold_i h hr hx]
  show (if bI (Keep m n r x) = 0 then some (0 : Int32) else _) = _
  by_cases ck : Keep m n r x
  · rw [if_neg (by rw [bI_t ck]; decide)]
    refine k_ex (fun b e1 e2 => ?_) (it_loop (g := g_X0_isLost_1 (ii x) M) (m * n) (fun k a => a = ii k ∧ ∀ e, e < k → x.testBit e = false → ¬ M.1 13 (x ||| 2 ^ e) = 1)
      (fun b => (∃ y, b = .inl y ∧ ∀ e, e < m * n → x.testBit e = false → ¬ M.1 13 (x ||| 2 ^ e) = 1) ∨ (b = .inr (0 : Int32) ∧ ¬ ∀ e, e < m * n → x.testBit e = false → ¬ M.1 13 (x ||| 2 ^ e) = 1)) (a := (0 : Int32)) (by omega) ⟨rfl, fun e he => absurd he (Nat.not_lt_zero e)⟩ ?_ ?_)
    · rw [e1]
      rcases e2 with ⟨y, rfl, h3⟩ | ⟨rfl, h3⟩
      · rw [bI_t ⟨ck, h3⟩]; rfl
      · rw [bI_f fun z => h3 z.2]; rfl
    · rintro k a hk ⟨rfl, h3⟩
      unfold g_X0_isLost_1
      rw [h2, if_pos ((ii_lt (by omega) (by omega)).mpr hk), leads_i h10 hx hk]
      by_cases c : x.testBit k = false ∧ M.1 13 (x ||| 2 ^ k) = 1
      · rw [if_neg (by rw [bI_t c]; decide)]
        exact Or.inr ⟨_, rfl, Or.inr ⟨rfl, fun z => z k hk c.1 c.2⟩⟩
      · rw [if_pos (bI_f c), ii_inc]
        refine Or.inl ⟨_, rfl, rfl, fun e he hb => ?_⟩
        by_cases ek : e = k
        · subst ek; exact fun z => c ⟨hb, z⟩
        · exact h3 e (by omega) hb
    · rintro a ⟨rfl, h3⟩
      unfold g_X0_isLost_1
      rw [h2, if_neg (by rw [ii_lt (by omega) (by omega)]; omega)]
      exact ⟨_, rfl, Or.inl ⟨_, rfl, h3⟩⟩
  · rw [if_pos (bI_f ck), bI_f fun z => ck z.1]
/-- the class's game -/
theorem winning_i (h : GI M m n) (hr : r < 4) (h10 : m * n ≤ 10) {put : Nat} (hput : put < 2 ^ (m * n)) : ∃ (D : Mem) (C : Nat → Prop), d_X0_winning (ii put) (ii r) M = some (.inl (some (.long (ll (st (m * n) fun e => put.testBit e = false ∧ C (put ||| 2 ^ e))))), D) ∧ Wk M D ∧
    ∀ s, put < s → s < 2 ^ (m * n) → Sub put s → (C s ↔ Keep m n r s ∧ ∀ e, e < m * n → s.testBit e = false → ¬ C (s ||| 2 ^ e)) := by
  have hN := h.2.2.1
  have h3' := h.2.2.2.2.2.2.1
  have hp : 2 ^ (m * n) ≤ 2 ^ 10 := Nat.pow_le_pow_right (by decide) h10
  have hp0 := Nat.two_pow_pos (m * n)
  refine k_ex (fun b e1 e2 => ?_) (it_loop (g := g_X0_winning_1 (ii put) (ii r)) (2 ^ (m * n) - 1 - put) (fun k a => ∃ D : Mem, a = (ii (2 ^ (m * n) - 1 - k), D) ∧ Wk M D ∧ ∀ s, 2 ^ (m * n) - 1 - k < s → s < 2 ^ (m * n) → Sub put s → (D.1 13 s = 1 ↔ Keep m n r s ∧ ∀ e, e < m * n → s.testBit e = false → ¬ D.1 13 (s ||| 2 ^ e) = 1))
    (fun b => ∃ D : Mem, ∃ y, b = .inl (y, D) ∧ Wk M D ∧ ∀ s, put < s → s < 2 ^ (m * n) → Sub put s → (D.1 13 s = 1 ↔ Keep m n r s ∧ ∀ e, e < m * n → s.testBit e = false → ¬ D.1 13 (s ||| 2 ^ e) = 1)) (a := (ii (2 ^ (m * n) - 1), M)) (by omega) ⟨M, rfl, Wk.rf M, fun s g1 g2 => by omega⟩ ?_ ?_)
  · obtain ⟨D, y, rfl, hw, hD⟩ := e2
    refine ⟨D, fun s => D.1 13 s = 1, ?_, hw, hD⟩
    have hG := h.w hw
    have g2 := hG.2.2.2.2.2.1
    unfold d_X0_winning
    rw [h3', ll_i32, e1]
    show onIt (iter (g_X0_winning_3 (ii put) (y, D)) 20000 ((0 : Int64), (0 : Int32))) _ _ = _
    rw [up_set hN (fun e => put.testBit e = false ∧ D.1 13 (put ||| 2 ^ e) = 1) (b := .inl (ll (st (m * n) fun e => put.testBit e = false ∧ D.1 13 (put ||| 2 ^ e) = 1), ii (m * n))) ?_ ?_]
    · rfl
    · intro k mk hk
      unfold g_X0_winning_3
      dsimp only
      rw [g2, if_pos ((ii_lt (by omega) (by omega)).mpr hk), leads_i h10 hput hk, bit_i (by omega), ll_or, ii_inc]
      by_cases c : put.testBit k = false ∧ D.1 13 (put ||| 2 ^ k) = 1
      · rw [if_neg (by rw [bI_t c]; decide), if_pos c]
      · rw [if_pos (bI_f c), if_neg c, Nat.or_zero]
    · unfold g_X0_winning_3
      dsimp only
      rw [g2, if_neg (by rw [ii_lt (by omega) (by omega)]; omega)]
  · rintro k a hk ⟨D, rfl, hw, hD⟩
    generalize hx : 2 ^ (m * n) - 1 - k = x at hD ⊢
    have hx1 : put < x := by omega
    have hx2 : x < 2 ^ (m * n) := by omega
    have hG := h.w hw
    have enext : ii x + (-1 : Int32) = ii (2 ^ (m * n) - 1 - (k + 1)) := by
      rw [ii_dec (by omega)]
      congr 1
      omega
    unfold g_X0_winning_1
    dsimp only
    rw [if_neg (by rw [ii_le (by omega) (by omega)]; omega), ii_and]
    by_cases c : x &&& put = put
    · have hsub : Sub put x := fun i hi => by
        have := congrArg (fun z => z.testBit i) c
        simp only [Nat.testBit_and, hi, Bool.and_true] at this
        exact this
      rw [if_pos (by rw [c]), isLost_i hG hr h10 hx2, enext]
      have lay : ∀ v : Int32, d_X7_lay 13 1024 (ii x) v D = sI D 13 x v := fun v => by
        unfold d_X7_lay
        rw [if_neg (ii_lt0 (by omega)), if_pos (by rw [show (1024 : Int32) = ii 1024 from rfl, ii_lt (by omega) (by decide)]; omega), ii_ix (by omega)]
      refine Or.inl ⟨_, rfl, sI D 13 x (if bI (Keep m n r x ∧ ∀ e, e < m * n → x.testBit e = false → ¬ D.1 13 (x ||| 2 ^ e) = 1) = 0 then 0 else 1), ?_, hw.i (by unfold wk; omega), fun s g1 g2 g3 => ?_⟩
      · rw [lay]
      · have far : ∀ e, s.testBit e = false → (sI D 13 x (if bI (Keep m n r x ∧ ∀ e, e < m * n → x.testBit e = false → ¬ D.1 13 (x ||| 2 ^ e) = 1) = 0 then 0 else 1)).1 13 (s ||| 2 ^ e) = D.1 13 (s ||| 2 ^ e) := fun e he => by
          have := or_gt he
          rw [sI_ne _ _ (fun z => by omega)]
        by_cases cs : s = x
        · subst cs
          rw [sI_at]
          by_cases cl : Keep m n r s ∧ ∀ e, e < m * n → s.testBit e = false → ¬ D.1 13 (s ||| 2 ^ e) = 1
          · rw [if_neg (by rw [bI_t cl]; decide)]
            exact ⟨fun _ => ⟨cl.1, fun e he hb => by rw [sI_ne _ _ (fun z => by have := or_gt hb; omega)]; exact cl.2 e he hb⟩, fun _ => rfl⟩
          · rw [if_pos (bI_f cl)]
            refine ⟨fun z => absurd z (by decide), fun z => (cl ⟨z.1, fun e he hb => ?_⟩).elim⟩
            have := z.2 e he hb
            rwa [sI_ne _ _ (fun z => by have := or_gt hb; omega)] at this
        · rw [sI_ne _ _ (fun z => cs z.2), hD s (by omega) g2 g3]
          constructor
          · rintro ⟨q1, q2⟩
            exact ⟨q1, fun e he hb => by rw [far e hb]; exact q2 e he hb⟩
          · rintro ⟨q1, q2⟩
            exact ⟨q1, fun e he hb => by have := q2 e he hb; rwa [far e hb] at this⟩
    · have hle : x &&& put ≤ x := Nat.and_le_left
      rw [if_neg (fun z => c ((ii_eq (by omega) (by omega)).mp z)), enext]
      refine Or.inl ⟨_, rfl, D, rfl, hw, fun s g1 g2 g3 => ?_⟩
      by_cases cs : s = x
      · subst cs
        refine (c (Nat.eq_of_testBit_eq fun i => ?_)).elim
        rw [Nat.testBit_and]
        cases e : put.testBit i with
        | false => rw [Bool.and_false]
        | true => rw [g3 i e]; rfl
      · exact hD s (by omega) g2 g3
  · rintro a ⟨D, rfl, hw, hD⟩
    have e : 2 ^ (m * n) - 1 - (2 ^ (m * n) - 1 - put) = put := by omega
    rw [e] at hD ⊢
    unfold g_X0_winning_1
    dsimp only
    rw [if_pos ((ii_le (by omega) (by omega)).mpr (Nat.le_refl _))]
    exact ⟨_, rfl, D, _, rfl, hw, hD⟩
end Win
section Cas
variable {M : Mem}
end Cas
