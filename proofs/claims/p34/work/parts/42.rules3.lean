/-! RULES, 3: apart, all rules, what fewer elements keep -/
section Rul
variable {M : Mem} {m n : Nat}
theorem apA_lt (hm : 0 < m) (hn : 0 < n) (s : Nat) : ∀ k, apA m n s k < 2 ^ (m * n)
  | 0 => by
    have := Nat.pow_lt_pow_right (a := 2) (by decide) (Nat.mul_pos hm hn)
    show 1 < _
    rwa [Nat.pow_zero] at this
  | k + 1 => by
    unfold apA
    split
    · exact Nat.or_lt_two_pow (apA_lt hm hn s k) (shf_lt _ _)
    · exact apA_lt hm hn s k
theorem apA_skip {s k t : Nat} (hkt : k ≤ t) (h : ∀ i, k ≤ i → i < t → s.testBit i = false) : apA m n s t = apA m n s k := by
  obtain ⟨d, rfl⟩ := Nat.exists_eq_add_of_le hkt
  induction d with
  | zero => rfl
  | succ d ih =>
    show (if s.testBit (k + d) then apA m n s (k + d) ||| shf m n (apA m n s (k + d)) (k + d) else apA m n s (k + d)) = _
    rw [h (k + d) (by omega) (by omega), if_neg (by decide)]
    exact ih (by omega) fun i h1 h2 => h i h1 (by omega)
theorem capart_i (h : GI M m n) {s : Nat} (hs : s < 2 ^ (m * n)) : d_X4_isApart (ll s) M = some (bI (Apt m n s)) := by
  have h' := h
  obtain ⟨hm, hn, hN, -⟩ := h'
  refine k_ex (fun b e1 e2 => ?_) (it_bits (g := g_X4_isApart_1 M) (set64 hs hN) (fun l a => ∃ k, (∀ i, l.testBit i = true ↔ s.testBit i = true ∧ k ≤ i) ∧ a = (ll (apA m n s k), ll l, ii (sz l)) ∧ ∀ e, e < k → s.testBit e = true → apA m n s e &&& shf m n (apA m n s e) e = 0)
    (fun b => (∃ q, b = .inl q ∧ Apt m n s) ∨ (b = .inr (0 : Int32) ∧ ¬ Apt m n s)) (a := (ll 1, ll s, ii (sz s))) ⟨0, fun i => ⟨fun h => ⟨h, Nat.zero_le i⟩, fun h => h.1⟩, rfl, fun e he => absurd he (Nat.not_lt_zero e)⟩ ?_ ?_)
  · unfold d_X4_isApart
    rw [bitCount_i (set64 hs hN), ll_1, e1]
    rcases e2 with ⟨q, rfl, h1⟩ | ⟨rfl, h1⟩
    · rw [bI_t h1]; rfl
    · rw [bI_f h1]; rfl
  · rintro l a hl hl0 ⟨k, hlk, rfl, hP⟩
    obtain ⟨t, ht, k1, k2, k3, k4, k5⟩ := low_set hl hl0
    obtain ⟨hst, hkt⟩ := (hlk t).mp k2
    have htN := tb_lt hs hst
    have := sz_le l
    have hno : ∀ i, k ≤ i → i < t → s.testBit i = false := fun i h1 h2 => by
      cases e : s.testBit i with
      | false => rfl
      | true =>
        have := (hlk i).mpr ⟨e, h1⟩
        rw [k3 i h2] at this
        cases this
    rw [← apA_skip hkt hno]
    have ha := apA_lt hm hn s t
    unfold g_X4_isApart_1
    dsimp only
    rw [if_neg (ii_gt0 (by omega) (by omega)), k1, shifted_i h ha htN, ll_and, Nat.and_comm]
    by_cases c : apA m n s t &&& shf m n (apA m n s t) t = 0
    · rw [if_pos ((lc_z (set64 (and_lt ha) hN)).mpr c), without_i hl0, ii_dec (by omega), ll_or]
      refine Or.inl ⟨_, rfl, t + 1, fun i => ?_, ?_, fun e he hse => ?_⟩
      · rw [k4, Bool.and_eq_true, hlk, Bool.not_eq_true', decide_eq_false_iff_not]
        constructor
        · rintro ⟨⟨h1, h2⟩, h3⟩
          refine ⟨h1, ?_⟩
          apply Nat.lt_of_not_le
          intro z
          rw [hno i h2 (by omega)] at h1
          cases h1
        · rintro ⟨h1, h2⟩
          exact ⟨⟨h1, by omega⟩, by omega⟩
      · rw [k5, Nat.add_sub_cancel]
        show _ = (ll (if s.testBit t then apA m n s t ||| shf m n (apA m n s t) t else apA m n s t), _, _)
        rw [hst, if_pos rfl]
      · by_cases c2 : e < k
        · exact hP e c2 hse
        · by_cases c3 : e = t
          · subst c3; exact c
          · rw [hno e (by omega) (by omega)] at hse
            cases hse
    · rw [if_neg (fun z => c ((lc_z (set64 (and_lt ha) hN)).mp z))]
      exact Or.inr ⟨_, rfl, Or.inr ⟨rfl, fun hA => c (hA t hst)⟩⟩
  · rintro a ⟨k, hlk, rfl, hP⟩
    unfold g_X4_isApart_1
    dsimp only
    rw [sz_zero, if_pos ((ii_le0 (by decide)).mpr rfl)]
    refine ⟨_, rfl, Or.inl ⟨_, rfl, fun e he => hP e ?_ he⟩⟩
    apply Nat.lt_of_not_le
    intro z
    have := (hlk e).mpr ⟨he, z⟩
    rw [Nat.zero_testBit] at this
    cases this
theorem smo_one' (hm : 0 < m) (hn : 0 < n) {a e : Nat} : smo m n a (2 ^ e) = shf m n a e := by
  refine st_congr fun i hi => ⟨?_, fun h => ⟨e, by rw [Nat.testBit_two_pow, decide_eq_true_eq], h⟩⟩
  rintro ⟨x, h1, h2⟩
  rw [Nat.testBit_two_pow, decide_eq_true_eq] at h1
  subst h1
  exact h2
/-- to keep the rule of a number -/
def Keep (m n : Nat) (r : Nat) (s : Nat) : Prop := match r with
  | 0 => Fre m n s
  | 1 => Sid m n s
  | 2 => Nst m n s
  | _ => Apt m n s
theorem hold_i (h : GI M m n) {r s : Nat} (hr : r < 4) (hs : s < 2 ^ (m * n)) : d_X4_hold (ll s) (ii r) M = some (bI (Keep m n r s)) := by
  unfold d_X4_hold
  match r, hr with
  | 0, _ =>
    rw [if_pos (by decide), cfree_i h hs]
    show some (bI _ &&& 1) = _
    rw [bI_one]; rfl
  | 1, _ =>
    rw [if_neg (by decide), if_pos (by decide), csidon_i h hs]
    show some (bI _ &&& 1) = _
    rw [bI_one]; rfl
  | 2, _ =>
    rw [if_neg (by decide), if_neg (by decide), if_pos (by decide), csteps_i h hs]
    show some (bI _ &&& 1) = _
    rw [bI_one]; rfl
  | 3, _ =>
    rw [if_neg (by decide), if_neg (by decide), if_neg (by decide), if_pos (by decide), capart_i h hs]
    show some (bI _ &&& 1) = _
    rw [bI_one]; rfl
theorem apA_mono {s t : Nat} (hst : ∀ i, t.testBit i = true → s.testBit i = true) : ∀ k i, (apA m n t k).testBit i = true → (apA m n s k).testBit i = true
  | 0, i, h => h
  | k + 1, i, h => by
    have ih := apA_mono hst k
    unfold apA at h ⊢
    split at h
    · rename_i hk
      rw [if_pos (hst k hk), Nat.testBit_or, Bool.or_eq_true]
      rw [Nat.testBit_or, Bool.or_eq_true] at h
      rcases h with h | h
      · exact Or.inl (ih i h)
      · obtain ⟨h1, h2⟩ := (shf_bit _ _ _).mp h
        exact Or.inr ((shf_bit _ _ _).mpr ⟨h1, ih _ h2⟩)
    · have := ih i h
      split
      · rw [Nat.testBit_or, Bool.or_eq_true]
        exact Or.inl this
      · exact this
theorem Keep.fewer (hm : 0 < m) (hn : 0 < n) {r s t : Nat} (h : Keep m n r s) (hst : ∀ i, t.testBit i = true → s.testBit i = true) : Keep m n r t := by
  have no : ∀ i, s.testBit i = false → t.testBit i = false := fun i h => by
    cases e : t.testBit i with
    | false => rfl
    | true => rw [hst i e] at h; cases h
  unfold Keep at h ⊢
  split at h
  · exact fun x y h1 h2 => no _ (h x y (hst x h1) (hst y h2))
  · exact fun a b c d h1 h2 h3 h4 => h a b c d (hst a h1) (hst b h2) (hst c h3) (hst d h4)
  · exact fun x z y h1 h2 h3 => h x z y (hst x h1) (hst z h2) (hst y h3)
  · intro e he
    have h1 := h e (hst e he)
    rw [and_0 (apA_lt hm hn _ _)] at h1 ⊢
    intro i hi h2 h3
    refine h1 i hi (apA_mono hst e i h2) ?_
    obtain ⟨h4, h5⟩ := (shf_bit _ _ _).mp h3
    exact (shf_bit _ _ _).mpr ⟨h4, apA_mono hst e _ h5⟩
theorem Keep.none (hm : 0 < m) (hn : 0 < n) (r : Nat) : Keep m n r 0 := by
  have z : ∀ i, (0 : Nat).testBit i = true → False := fun i h => by rw [Nat.zero_testBit] at h; cases h
  unfold Keep
  split
  · exact fun x y h => (z x h).elim
  · exact fun a b c d h => (z a h).elim
  · exact fun x z' y h => (z x h).elim
  · exact fun e h => (z e h).elim
end Rul
