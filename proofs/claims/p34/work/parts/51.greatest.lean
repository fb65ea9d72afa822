/-! GREATEST SUBSETS, 2: all subsets, branches, the reference's way, the calls -/
theorem jmin_i {x y : Nat} (hx : x ≤ y) (hy : y < 2147483648) : jmin (ii x) (ii y) = ii x := by
  unfold jmin
  by_cases c : ii y < ii x
  · rw [ii_lt hy (by omega)] at c; omega
  · rw [if_neg c]
theorem jsl_i : ∀ k, k < 13 → jsl (1 : Int32) (ii k) = ii (2 ^ k) := by decide +kernel
section Gre
variable {M : Mem} {m n r S : Nat}
theorem sz36 (x : Nat) : sz x < 2147483648 := Nat.lt_of_le_of_lt (sz_le x) (by decide)
theorem last_sub (hS : S < 2 ^ 36) {s : Nat} (h : Sub s S) (hk : rk S s 64 + 1 = 2 ^ sz S) : s = S := by
  apply Classical.byContradiction
  intro c
  have h1 := rk_nxt hS h c
  have h2 := rk_lt (nxt_sub S s) 64
  rw [show sz S = pc S.testBit 64 from rfl] at hk
  omega
theorem not_last (hS : S < 2 ^ 36) {s : Nat} (hk : rk S s 64 + 1 < 2 ^ sz S) : s ≠ S := fun c => by
  subst c
  have := rk_full s 64
  rw [show sz s = pc s.testBit 64 from rfl] at hk
  omega
theorem byAll_i (h : GI M m n) (hr : r < 4) (hS : S < 2 ^ (m * n)) (h12 : sz S ≤ 12) : ∃ b, d_X5_byAll (ll S) (ii r) M = some (ll b) ∧ BB m n r S (S + 1) b := by
  have h' := h
  obtain ⟨hm, hn, hN, -⟩ := h'
  have hS36 : S < 2 ^ 36 := Nat.lt_of_lt_of_le hS (Nat.pow_le_pow_right (by decide) hN)
  have hcnt : jsl (1 : Int32) (jmin (d_J13_bitCount_95d88 (ll S)) (12 : Int32)) = ii (2 ^ sz S) := by
    rw [bitCount_i (set64 hS hN), show (12 : Int32) = ii 12 from rfl, jmin_i h12 (by decide), jsl_i _ (by omega)]
  have hp : 2 ^ sz S ≤ 2 ^ 12 := Nat.pow_le_pow_right (by decide) h12
  have hp0 := Nat.two_pow_pos (sz S)
  refine k_ex (fun b e1 e2 => ?_) (it_loop (g := g_X5_byAll_1 (ll S) (ii r) M) (2 ^ sz S) (fun k x => (k < 2 ^ sz S ∧ ∃ b s, x = (ll b, ll s, ii k) ∧ Sub s S ∧ rk S s 64 = k ∧ BB m n r S s b) ∨ (k = 2 ^ sz S ∧ ∃ b y, x = (ll b, y, ii k) ∧ BB m n r S (S + 1) b))
    (fun x => ∃ b y, x = .inl (ll b, y, ii (2 ^ sz S)) ∧ BB m n r S (S + 1) b) (a := ((0 : Int64), (0 : Int64), (0 : Int32))) (by omega) (Or.inl ⟨hp0, 0, 0, rfl, Sub.zero S, rk_zero S 64, BB.start hm hn⟩) ?_ ?_)
  · obtain ⟨x, y, rfl, hb⟩ := e2
    refine ⟨x, ?_, hb⟩
    unfold d_X5_byAll
    rw [e1]
    rfl
  · rintro k x hk (⟨-, b, s, rfl, hs, hrk, hB⟩ | ⟨hk2, -⟩)
    · have hsN := hs.lt hS
      have hbN := hB.1.lt hS
      have hz1 := sz36 s
      have hz2 := sz36 b
      have fin : ∀ b', BB m n r S (s + 1) b' → ∃ a', some (Sum.inl (ll b', (ll s - ll S) &&& ll S, ii k + (1 : Int32))) = (some (.inl a') : Option ((Int64 × Int64 × Int32) ⊕ ((Int64 × Int64 × Int32) ⊕ Int64))) ∧ ((k + 1 < 2 ^ sz S ∧ ∃ b s, a' = (ll b, ll s, ii (k + 1)) ∧ Sub s S ∧ rk S s 64 = k + 1 ∧ BB m n r S s b) ∨ (k + 1 = 2 ^ sz S ∧ ∃ b y, a' = (ll b, y, ii (k + 1)) ∧ BB m n r S (S + 1) b)) := by
        intro b' hb'
        refine ⟨_, rfl, ?_⟩
        rw [ii_inc, nxt_i hS36 hs]
        by_cases c : k + 1 < 2 ^ sz S
        · have hne : s ≠ S := not_last hS36 (by omega)
          obtain ⟨g1, g2⟩ := nxt_next hS36 hs hne
          exact Or.inl ⟨c, b', nxt S s, rfl, nxt_sub S s, by rw [rk_nxt hS36 hs hne, hrk], hb'.skip g1 fun u hu h1 h2 _ => by have := g2 u hu (by omega); omega⟩
        · have hk1 : k + 1 = 2 ^ sz S := by omega
          have : s = S := last_sub hS36 hs (by omega)
          subst this
          exact Or.inr ⟨hk1, b', _, rfl, hb'⟩
      unfold g_X5_byAll_1
      dsimp only
      rw [hcnt, if_pos ((ii_lt (by omega) (by omega)).mpr hk), bitCount_i (set64 hsN hN), bitCount_i (set64 hbN hN)]
      by_cases c : sz s ≤ sz b
      · rw [if_pos ((ii_le hz1 hz2).mpr c)]
        exact Or.inl (fin b (hB.leave fun z => by omega))
      · rw [if_neg (fun z => c ((ii_le hz1 hz2).mp z)), hold_i h hr hsN]
        left
        by_cases ck : Keep m n r s
        · have e : (if bI (Keep m n r s) = 0 then ll b else ll s) = ll s := if_neg (by rw [bI_t ck]; decide)
          show ∃ a', some (Sum.inl ((if bI (Keep m n r s) = 0 then ll b else ll s), _, _)) = some (Sum.inl a') ∧ _
          rw [e]
          exact fin s (hB.take hs ck (by omega))
        · have e : (if bI (Keep m n r s) = 0 then ll b else ll s) = ll b := if_pos (bI_f ck)
          show ∃ a', some (Sum.inl ((if bI (Keep m n r s) = 0 then ll b else ll s), _, _)) = some (Sum.inl a') ∧ _
          rw [e]
          exact fin b (hB.leave fun z => ck z.2)
    · omega
  · rintro x (⟨hk, -⟩ | ⟨-, b, y, rfl, hb⟩)
    · omega
    · unfold g_X5_byAll_1
      dsimp only
      rw [hcnt, if_neg (by rw [ii_lt (by omega) (by omega)]; omega)]
      exact ⟨_, rfl, b, y, rfl, hb⟩
/-! branches -/
theorem hi_lo {t k y i : Nat} (hy : y < 2 ^ t) : (2 ^ t * k + y).testBit i = if i < t then y.testBit i else k.testBit (i - t) := Nat.testBit_two_pow_mul_add k hy i
theorem sz_split {t k y : Nat} (ht : t ≤ 64) (hy : y < 2 ^ t) : sz (2 ^ t * k + y) = sz (2 ^ t * k) + sz y := by
  have e : ∀ z, z < 2 ^ t → sz (2 ^ t * k + z) = pc z.testBit t + pc (fun i => k.testBit i) (64 - t) := fun z hz => by
    show pc _ 64 = _
    rw [show 64 = t + (64 - t) by omega, pc_add, show t + (64 - t) - t = 64 - t by omega]
    congr 1
    · exact pc_congr fun i hi => by rw [hi_lo hz, if_pos hi]
    · exact pc_congr fun i hi => by rw [hi_lo hz, if_neg (by omega), Nat.add_sub_cancel_left]
  have e0 := e 0 (Nat.two_pow_pos t)
  rw [Nat.add_zero] at e0
  rw [e y hy, e0, sz_to hy ht, pc_none fun i _ => Nat.zero_testBit i]
  omega
theorem mod_sub {s t : Nat} (h : Sub s S) : Sub (s % 2 ^ t) (S % 2 ^ t) := fun i hi => by
  rw [Nat.testBit_mod_two_pow, Bool.and_eq_true] at hi ⊢
  exact ⟨hi.1, h i hi.2⟩
theorem wthn {t C s : Nat} (hC : C % 2 ^ t = 0) (h1 : C ≤ s) (h2 : s < C + 2 ^ t) : s = C + s % 2 ^ t := by
  have hp := Nat.two_pow_pos t
  have d1 := Nat.div_add_mod C (2 ^ t)
  have e : s = 2 ^ t * (C / 2 ^ t) + (s - C) := by omega
  have : s % 2 ^ t = s - C := by
    conv => lhs; rw [e]
    rw [Nat.mul_add_mod, Nat.mod_eq_of_lt (by omega)]
  omega
theorem branch_i (h : GI M m n) (hr : r < 4) (hS : S < 2 ^ (m * n)) : ∀ (fu t C best : Nat), t ≤ 36 → sz (S % 2 ^ t) < fu → sz (S % 2 ^ t) ≤ 12 → Sub C S → C % 2 ^ t = 0 → Keep m n r C → BB m n r S C best → ∃ b, d_X5_branch fu (ii r) (ll (S % 2 ^ t)) (ll C) (ll best) M = some (ll b) ∧ BB m n r S (C + 2 ^ t) b
  | 0, t, C, best, _, hf, _, _, _, _, _ => absurd hf (Nat.not_lt_zero _)
  | fu + 1, t, C, best, ht, hf, h12, hCS, hC, hK, hB => by
    have h' := h
    obtain ⟨hm, hn, hN, -⟩ := h'
    have hp := Nat.two_pow_pos t
    have hO : S % 2 ^ t < 2 ^ (m * n) := Nat.lt_of_le_of_lt (Nat.mod_le _ _) hS
    have hCN := hCS.lt hS
    have hbN := hB.1.lt hS
    have z1 := sz_le C
    have z2 := sz_le (S % 2 ^ t)
    have z3 := sz_le best
    have hCd : C = 2 ^ t * (C / 2 ^ t) := by have := Nat.div_add_mod C (2 ^ t); omega
    have sp : ∀ y, y < 2 ^ t → sz (C + y) = sz C + sz y := fun y hy => by
      conv => lhs; rw [hCd]
      rw [sz_split (by omega) hy, ← hCd]
    show ∃ b, (if d_J13_bitCount_95d88 (ll C) + d_J13_bitCount_95d88 (ll (S % 2 ^ t)) ≤ d_J13_bitCount_95d88 (ll best) then some (ll best) else _) = some (ll b) ∧ _
    rw [bitCount_i (set64 hCN hN), bitCount_i (set64 hO hN), bitCount_i (set64 hbN hN), ii_add]
    by_cases c1 : sz C + sz (S % 2 ^ t) ≤ sz best
    · rw [if_pos ((ii_le (by omega) (by omega)).mpr c1)]
      refine ⟨best, rfl, ?_⟩
      obtain ⟨b1, b2, b3, b4⟩ := hB
      refine ⟨b1, b2, by omega, fun s g1 g2 g3 => ?_⟩
      by_cases c : s < C ∨ s = 0
      · exact b4 s g1 c g3
      · have hin := wthn hC (by omega) (by omega : s < C + 2 ^ t)
        have hle : sz (s % 2 ^ t) ≤ sz (S % 2 ^ t) := sz_sub (N := t) (by omega) (Nat.mod_lt _ hp) (Nat.mod_lt _ hp) fun i _ hi => mod_sub g1 i hi
        have hsz := sp (s % 2 ^ t) (Nat.mod_lt _ hp)
        rw [← hin] at hsz
        omega
    · rw [if_neg (fun z => c1 ((ii_le (by omega) (by omega)).mp z))]
      by_cases c2 : S % 2 ^ t = 0
      · rw [if_pos ((lc_z (set64 hO hN)).mpr c2)]
        refine ⟨C, rfl, hCS, hK, by omega, fun s g1 g2 g3 => ?_⟩
        rw [c2, sz_zero] at c1
        by_cases c : s < C ∨ s = 0
        · have := hB.2.2.2 s g1 c g3
          omega
        · have hin := wthn hC (by omega) (by omega : s < C + 2 ^ t)
          have : s % 2 ^ t = 0 := by
            have := (mod_sub (t := t) g1).le (N := t) (Nat.mod_lt _ hp)
            omega
          rw [this, Nat.add_zero] at hin
          rw [hin]
          exact Or.inr ⟨rfl, Nat.le_refl C⟩
      · have hlg := Nat.log2_self_le c2
        have hlg2 : S % 2 ^ t < 2 ^ ((S % 2 ^ t).log2 + 1) := Nat.lt_log2_self
        generalize hu : (S % 2 ^ t).log2 = u at hlg hlg2
        have hut : u < t := by
          apply Nat.lt_of_not_le
          intro z
          have := Nat.pow_le_pow_right (n := 2) (by decide) z
          have := Nat.mod_lt S hp
          omega
        have hpu := Nat.two_pow_pos u
        have hOb : (S % 2 ^ t).testBit u = true := by
          have e : S % 2 ^ t = 2 ^ u * 1 + (S % 2 ^ t - 2 ^ u) := by omega
          rw [e, hi_lo (by rw [Nat.pow_succ] at hlg2; omega), if_neg (Nat.lt_irrefl u), Nat.sub_self]
          rfl
        have hSu : S.testBit u = true := by
          rw [Nat.testBit_mod_two_pow, Bool.and_eq_true] at hOb
          exact hOb.2
        have hno : ∀ i, u < i → i < t → S.testBit i = false := fun i h1 h2 => by
          have := tB_hi hlg2 (show u + 1 ≤ i from h1)
          rw [Nat.testBit_mod_two_pow, decide_eq_true h2, Bool.true_and] at this
          exact this
        have hCb : ∀ i, i < t → C.testBit i = false := fun i hi => by
          rw [hCd, show 2 ^ t * (C / 2 ^ t) = 2 ^ t * (C / 2 ^ t) + 0 from rfl, hi_lo hp, if_pos hi, Nat.zero_testBit]
        have e1 : S % 2 ^ t &&& (2 ^ u ^^^ (2 ^ 64 - 1)) = S % 2 ^ u := Nat.eq_of_testBit_eq fun i => by
          rw [Nat.testBit_and, Nat.testBit_mod_two_pow, Nat.testBit_mod_two_pow]
          by_cases hi : i < t
          · rw [not_bit _ _ (by omega), Nat.testBit_two_pow, decide_eq_true hi, Bool.true_and]
            by_cases c : u = i
            · subst c
              rw [decide_eq_true rfl, decide_eq_false (Nat.lt_irrefl u), Bool.not_true, Bool.and_false, Bool.false_and]
            · rw [decide_eq_false c, Bool.not_false, Bool.and_true]
              by_cases c3 : i < u
              · rw [decide_eq_true c3, Bool.true_and]
              · rw [decide_eq_false c3, Bool.false_and, hno i (by omega) hi]
          · rw [decide_eq_false hi, decide_eq_false (by omega), Bool.false_and, Bool.false_and]
        have e2 : C ||| 2 ^ u = C + 2 ^ u := (add_or 36 C (2 ^ u) (Nat.lt_of_lt_of_le hCN (Nat.pow_le_pow_right (by decide) hN)) fun i h1 h2 => by
          rw [Nat.testBit_two_pow, decide_eq_true_eq] at h2
          rw [← h2, hCb u hut] at h1
          cases h1).symm
        have hsz : sz (S % 2 ^ t) = sz (S % 2 ^ u) + 1 := by
          refine pc_out (t := u) (by omega) hOb (by rw [Nat.testBit_mod_two_pow, decide_eq_false (Nat.lt_irrefl u), Bool.false_and]) fun i _ hi => ?_
          rw [Nat.testBit_mod_two_pow, Nat.testBit_mod_two_pow]
          by_cases c3 : i < u
          · rw [decide_eq_true c3, decide_eq_true (by omega)]
          · rw [decide_eq_false c3, Bool.false_and]
            by_cases c4 : i < t
            · rw [hno i (by omega) c4, Bool.and_false]
            · rw [decide_eq_false c4, Bool.false_and]
        have pw : 2 ^ t = 2 ^ u * 2 ^ (t - u) := by rw [← Nat.pow_add]; congr 1; omega
        have hCu : C % 2 ^ u = 0 := by
          rw [hCd, pw, Nat.mul_assoc]
          exact Nat.mul_mod_right _ _
        -- subsets of the range beyond 2 ^ (u + 1) there are none
        have hfar : ∀ s, Sub s S → C ≤ s → s < C + 2 ^ t → s < C + 2 ^ (u + 1) := fun s g1 g2 g3 => by
          have hin := wthn hC g2 g3
          have hle := (mod_sub (t := t) g1).le (N := t) (Nat.mod_lt _ hp)
          omega
        have hCn : Sub (C + 2 ^ u) S := fun i hi => by
          rw [← e2, Nat.testBit_or, Bool.or_eq_true] at hi
          rcases hi with hi | hi
          · exact hCS i hi
          · rw [Nat.testBit_two_pow, decide_eq_true_eq] at hi
            rw [← hi]; exact hSu
        have hCnN := hCn.lt hS
        rw [if_neg (fun z => c2 ((lc_z (set64 hO hN)).mp z)), if_pos (by rw [show (12 : Int32) = ii 12 from rfl, ii_le (by omega) (by decide)]; exact h12), high_i (by omega) hlg hlg2, ll_not, ll_and, ll_or, e1, e2]
        obtain ⟨b1, i1, i2⟩ := branch_i h hr hS fu u C best (by omega) (by omega) (by omega) hCS hCu hK hB
        rw [i1]
        show ∃ b, ((d_X4_hold (ll (C + 2 ^ u)) (ii r) M).bind fun w2 => if w2 = 0 then some (ll b1) else _) = some (ll b) ∧ _
        rw [hold_i h hr hCnN]
        show ∃ b, (if bI (Keep m n r (C + 2 ^ u)) = 0 then some (ll b1) else _) = some (ll b) ∧ _
        by_cases ck : Keep m n r (C + 2 ^ u)
        · rw [if_neg (by rw [bI_t ck]; decide)]
          have hCu2 : (C + 2 ^ u) % 2 ^ u = 0 := by rw [Nat.add_mod_right]; exact hCu
          obtain ⟨b2, j1, j2⟩ := branch_i h hr hS fu u (C + 2 ^ u) b1 (by omega) (by omega) (by omega) hCn hCu2 ck i2
          rw [j1]
          refine ⟨b2, rfl, j2.skip (by rw [pw]; have := Nat.pow_le_pow_right (n := 2) (by decide) (show 1 ≤ t - u by omega); have := Nat.mul_le_mul_left (2 ^ u) this; omega) fun s g1 g2 g3 _ => ?_⟩
          have := hfar s g1 (by omega) g3
          rw [Nat.pow_succ] at this
          omega
        · rw [if_pos (bI_f ck)]
          refine ⟨b1, rfl, i2.skip (by have := Nat.pow_le_pow_right (n := 2) (by decide) (Nat.le_of_lt hut); omega) fun s g1 g2 g3 g4 => ck (g4.fewer hm hn fun i hi => ?_)⟩
          -- s has C and the next element
          have f1 := hfar s g1 (by omega) g3
          have hin := wthn hC (by omega) g3
          rw [Nat.pow_succ] at f1
          have hsb : s = 2 ^ t * (C / 2 ^ t) + s % 2 ^ t := by rw [← hCd]; exact hin
          rw [← e2, Nat.testBit_or, Bool.or_eq_true] at hi
          rcases hi with hi | hi
          · have hit : ¬ i < t := fun z => by rw [hCb i z] at hi; cases hi
            rw [hsb, hi_lo (Nat.mod_lt _ hp), if_neg hit]
            rw [hCd, show 2 ^ t * (C / 2 ^ t) = 2 ^ t * (C / 2 ^ t) + 0 from rfl, hi_lo hp, if_neg hit] at hi
            exact hi
          · rw [Nat.testBit_two_pow, decide_eq_true_eq] at hi
            subst hi
            rw [hsb, hi_lo (Nat.mod_lt _ hp), if_pos hut]
            have e : s % 2 ^ t = 2 ^ u * 1 + (s % 2 ^ t - 2 ^ u) := by omega
            rw [e, hi_lo (by omega), if_neg (Nat.lt_irrefl u), Nat.sub_self]
            rfl
theorem byBranches_i (h : GI M m n) (hr : r < 4) (hS : S < 2 ^ (m * n)) (h12 : sz S ≤ 12) : ∃ b, d_X5_byBranches (ll S) (ii r) M = some (ll b) ∧ BB m n r S (2 ^ 36) b := by
  have hN := h.2.2.1
  have hS36 : S < 2 ^ 36 := Nat.lt_of_lt_of_le hS (Nat.pow_le_pow_right (by decide) hN)
  have e : S % 2 ^ 36 = S := Nat.mod_eq_of_lt hS36
  obtain ⟨b, h1, h2⟩ := branch_i h hr hS 14 36 0 0 (Nat.le_refl _) (by rw [e]; omega) (by rw [e]; exact h12) (Sub.zero S) (Nat.zero_mod _) (Keep.none h.1 h.2.1 r) (BB.start h.1 h.2.1)
  rw [e] at h1
  rw [Nat.zero_add] at h2
  refine ⟨b, ?_, h2⟩
  unfold d_X5_byBranches
  rw [ll_0, h1]
  rfl
end Gre
