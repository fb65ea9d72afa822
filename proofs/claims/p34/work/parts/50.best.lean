/-! GREATEST SUBSETS: what the best one is, and how both go through the subsets -/
def Sub (s S : Nat) : Prop := ∀ i, s.testBit i = true → S.testBit i = true
theorem Sub.zero (S : Nat) : Sub 0 S := fun i h => by rw [Nat.zero_testBit] at h; cases h
theorem Sub.self (S : Nat) : Sub S S := fun _ h => h
theorem Sub.lt {s S N : Nat} (h : Sub s S) (hS : S < 2 ^ N) : s < 2 ^ N := by
  apply Nat.lt_of_not_le
  intro c
  obtain ⟨i, h1, h2⟩ := Nat.exists_ge_and_testBit_of_ge_two_pow c
  have := tb_lt hS (h i h2)
  omega
theorem add_or : ∀ (n a b : Nat), a < 2 ^ n → (∀ i, a.testBit i = true → b.testBit i = true → False) → a + b = a ||| b
  | 0, a, b, h, _ => by
    have : a = 0 := by rw [Nat.pow_zero] at h; omega
    rw [this, Nat.zero_add, Nat.zero_or]
  | n + 1, a, b, h, hd => by
    rw [Nat.pow_succ] at h
    have ih := add_or n (a / 2) (b / 2) (by omega) fun i h1 h2 => hd (i + 1) (by rw [Nat.testBit_succ]; exact h1) (by rw [Nat.testBit_succ]; exact h2)
    have h0 := hd 0
    rw [Nat.testBit_zero, Nat.testBit_zero, decide_eq_true_eq, decide_eq_true_eq] at h0
    have e1 : (a ||| b) / 2 = a / 2 ||| b / 2 := by
      have := Nat.shiftRight_or_distrib (a := a) (b := b) (i := 1)
      rwa [Nat.shiftRight_eq_div_pow, Nat.shiftRight_eq_div_pow, Nat.shiftRight_eq_div_pow] at this
    have e2 : (a ||| b) % 2 = a % 2 ||| b % 2 := Nat.or_mod_two_pow (n := 1)
    have e3 : a % 2 ||| b % 2 = a % 2 + b % 2 := by
      rcases Nat.mod_two_eq_zero_or_one a with x | x
      · rw [x, Nat.zero_or, Nat.zero_add]
      · rcases Nat.mod_two_eq_zero_or_one b with y | y
        · rw [y, Nat.or_zero, Nat.add_zero]
        · exact (h0 x y).elim
    omega
theorem sub_add {s S N : Nat} (hS : S < 2 ^ N) (h : Sub s S) : s + (S ^^^ s) = S := by
  rw [add_or N _ _ (h.lt hS)]
  · refine Nat.eq_of_testBit_eq fun i => ?_
    rw [Nat.testBit_or, Nat.testBit_xor]
    cases e : s.testBit i with
    | false => cases S.testBit i <;> rfl
    | true => rw [h i e]; rfl
  · intro i h1 h2
    rw [Nat.testBit_xor, h1, h i h1] at h2
    cases h2
theorem Sub.le {s S N : Nat} (h : Sub s S) (hS : S < 2 ^ N) : s ≤ S := by
  have := sub_add hS h
  omega
/-- the next subset -/
def nxt (S s : Nat) : Nat := (2 ^ 64 - (S ^^^ s)) &&& S
theorem nxt_i {S s : Nat} (hS : S < 2 ^ 36) (h : Sub s S) : (ll s - ll S) &&& ll S = ll (nxt S s) := by
  have h1 := sub_add hS h
  have e0 : ll s = ll (s + 2 ^ 64) := by
    apply ll_bit
    rw [ll_nat, Nat.add_mod_right]
  rw [e0, ll_sub (by omega), ll_and]
  congr 2
  omega
theorem nxt_self (S : Nat) (hS : S < 2 ^ 36) : nxt S S = 0 := by
  unfold nxt
  rw [Nat.xor_self]
  refine tB_ext (n := 36) (Nat.lt_of_le_of_lt Nat.and_le_right hS) (Nat.two_pow_pos _) fun i hi => ?_
  rw [Nat.testBit_and, Nat.zero_testBit, Nat.sub_zero, Nat.testBit_two_pow, decide_eq_false (by omega), Bool.false_and]
theorem nxt_bits {S s : Nat} (hS : S < 2 ^ 36) (h : Sub s S) (hne : s ≠ S) : ∃ t, t < 36 ∧ S.testBit t = true ∧ s.testBit t = false ∧ (∀ i, i < t → s.testBit i = S.testBit i) ∧ ∀ i, (nxt S s).testBit i = if i < t then false else if i = t then true else s.testBit i := by
  have hadd := sub_add hS h
  have hd0 : 0 < S ^^^ s := Nat.pos_of_ne_zero fun z => hne (by omega)
  have hdb : ∀ i, (S ^^^ s).testBit i = (S.testBit i && !s.testBit i) := fun i => by
    rw [Nat.testBit_xor]
    cases e : s.testBit i with
    | false => cases S.testBit i <;> rfl
    | true => rw [h i e]; rfl
  obtain ⟨t, qq, e⟩ := low_ex _ hd0
  have hdt : (S ^^^ s).testBit t = true := by rw [e, low_bit, if_neg (Nat.lt_irrefl t), if_pos rfl]
  have hdl : ∀ i, i < t → (S ^^^ s).testBit i = false := fun i hi => by rw [e, low_bit, if_pos hi]
  have hSt : S.testBit t = true ∧ s.testBit t = false := by
    rw [hdb, Bool.and_eq_true, Bool.not_eq_true'] at hdt
    exact hdt
  have ht : t < 36 := tb_lt hS hSt.1
  have hlow : ∀ i, i < t → s.testBit i = S.testBit i := fun i hi => by
    have := hdl i hi
    rw [hdb] at this
    cases e1 : s.testBit i with
    | true => rw [h i e1]
    | false =>
      rw [e1] at this
      cases e2 : S.testBit i with
      | false => rfl
      | true => rw [e2] at this; cases this
  refine ⟨t, ht, hSt.1, hSt.2, hlow, fun i => ?_⟩
  have hlt : (S ^^^ s) - 1 < 2 ^ 64 := by
    have : S < 2 ^ 64 := Nat.lt_of_lt_of_le hS (by decide)
    omega
  have e64 : 2 ^ 64 - (S ^^^ s) = 2 ^ 64 - ((S ^^^ s) - 1 + 1) := by rw [Nat.sub_add_cancel hd0]
  unfold nxt
  rw [Nat.testBit_and, e64, Nat.testBit_two_pow_sub_succ hlt]
  have hpb : ((S ^^^ s) - 1).testBit i = if i < t then true else if i = t then false else (S ^^^ s).testBit i := by
    rw [e, low_pred, low_bit]
    by_cases c : i < t
    · rw [if_pos c, if_pos c]
    · rw [if_neg c, if_neg c]
      by_cases c2 : i = t
      · rw [if_pos c2, if_pos c2]
      · rw [if_neg c2, if_neg c2, if_neg c, if_neg c2]
  rw [hpb]
  by_cases c : i < t
  · rw [if_pos c, if_pos c, Bool.not_true, Bool.and_false, Bool.false_and]
  · rw [if_neg c, if_neg c]
    by_cases c2 : i = t
    · subst c2
      rw [if_pos rfl, if_pos rfl, hSt.1, decide_eq_true (by omega)]
      rfl
    · rw [if_neg c2, if_neg c2, hdb]
      cases e1 : S.testBit i with
      | false =>
        cases e2 : s.testBit i with
        | false => rw [Bool.and_false]
        | true => rw [h i e2] at e1; cases e1
      | true =>
        have : i < 64 := Nat.lt_trans (tb_lt hS e1) (by decide)
        rw [decide_eq_true this]
        cases s.testBit i <;> rfl
theorem nxt_sub (S s : Nat) : Sub (nxt S s) S := fun i h => by
  unfold nxt at h
  rw [Nat.testBit_and, Bool.and_eq_true] at h
  exact h.2
theorem nxt_next {S s : Nat} (hS : S < 2 ^ 36) (h : Sub s S) (hne : s ≠ S) : s < nxt S s ∧ ∀ u, Sub u S → s < u → nxt S s ≤ u := by
  obtain ⟨t, ht, h1, h2, h3, h4⟩ := nxt_bits hS h hne
  have hnt : (nxt S s).testBit t = true := by rw [h4, if_neg (Nat.lt_irrefl t), if_pos rfl]
  have hpos := Nat.two_pow_pos t
  -- what stands above t
  have hdiv : nxt S s / 2 ^ t = s / 2 ^ t + 1 := by
    have hadd : s / 2 ^ t + 1 = s / 2 ^ t ||| 1 := by
      rw [add_or 36 (s / 2 ^ t) 1 (Nat.lt_of_le_of_lt (Nat.div_le_self _ _) (h.lt hS)) fun i g1 g2 => ?_]
      rw [Nat.testBit_div_two_pow] at g1
      have : i = 0 := by
        have g3 : (1 : Nat) = 2 ^ 0 := rfl
        rw [g3, Nat.testBit_two_pow, decide_eq_true_eq] at g2
        exact g2.symm
      rw [this, Nat.zero_add, h2] at g1
      cases g1
    rw [hadd]
    refine Nat.eq_of_testBit_eq fun i => ?_
    rw [Nat.testBit_or, Nat.testBit_div_two_pow, Nat.testBit_div_two_pow, h4, if_neg (by omega), show (1 : Nat) = 2 ^ 0 from rfl, Nat.testBit_two_pow]
    by_cases c : i = 0
    · subst c
      rw [Nat.zero_add, if_pos rfl, decide_eq_true rfl, Bool.or_true]
    · rw [if_neg (by omega), decide_eq_false (by omega), Bool.or_false]
  have hmod : nxt S s % 2 ^ t = 0 := by
    refine tB_ext (n := t) (Nat.mod_lt _ hpos) hpos fun i hi => ?_
    rw [Nat.testBit_mod_two_pow, decide_eq_true hi, h4, if_pos hi, Nat.zero_testBit]
    rfl
  have d2 := Nat.div_add_mod s (2 ^ t)
  have d3 := Nat.div_add_mod (nxt S s) (2 ^ t)
  have hsm := Nat.mod_lt s hpos
  refine ⟨by rw [hdiv, hmod, Nat.mul_add, Nat.mul_one] at d3; omega, fun u hu hsu => ?_⟩
  have hum : u % 2 ^ t ≤ s % 2 ^ t := by
    have : Sub (u % 2 ^ t) (s % 2 ^ t) := fun i hi => by
      rw [Nat.testBit_mod_two_pow, Bool.and_eq_true, decide_eq_true_eq] at hi ⊢
      exact ⟨hi.1, by rw [h3 i hi.1]; exact hu i hi.2⟩
    exact this.le (Nat.mod_lt _ hpos)
  have d1 := Nat.div_add_mod u (2 ^ t)
  have hlt : s / 2 ^ t < u / 2 ^ t := by
    apply Nat.lt_of_not_le
    intro c
    have := Nat.mul_le_mul_left (2 ^ t) c
    omega
  have := Nat.mul_le_mul_left (2 ^ t) (show s / 2 ^ t + 1 ≤ u / 2 ^ t from hlt)
  rw [hdiv, hmod] at d3
  omega
/-- the number of a subset among the subsets -/
def rk (S s : Nat) (n : Nat) : Nat := su (fun i => if s.testBit i then 2 ^ pc S.testBit i else 0) n
theorem rk_full (S : Nat) : ∀ n, rk S S n + 1 = 2 ^ pc S.testBit n
  | 0 => rfl
  | n + 1 => by
    have ih := rk_full S n
    show rk S S n + (if S.testBit n then 2 ^ pc S.testBit n else 0) + 1 = 2 ^ (pc S.testBit n + if S.testBit n then 1 else 0)
    split
    · rw [Nat.pow_succ]; omega
    · rw [Nat.add_zero, Nat.add_zero]; exact ih
theorem rk_congr {S s u n : Nat} (h : ∀ i, i < n → s.testBit i = u.testBit i) : rk S s n = rk S u n := su_congr fun i hi => by rw [h i hi]
theorem rk_lt {S s : Nat} (h : Sub s S) : ∀ n, rk S s n < 2 ^ pc S.testBit n
  | 0 => Nat.one_pos
  | n + 1 => by
    have ih := rk_lt h n
    show rk S s n + (if s.testBit n then 2 ^ pc S.testBit n else 0) < 2 ^ (pc S.testBit n + if S.testBit n then 1 else 0)
    by_cases c : s.testBit n = true
    · rw [if_pos c, if_pos (h n c), Nat.pow_succ]; omega
    · rw [if_neg c]
      have : 2 ^ pc S.testBit n ≤ 2 ^ (pc S.testBit n + if S.testBit n then 1 else 0) := Nat.pow_le_pow_right (by decide) (by omega)
      omega
theorem rk_nxt {S s : Nat} (hS : S < 2 ^ 36) (h : Sub s S) (hne : s ≠ S) : rk S (nxt S s) 64 = rk S s 64 + 1 := by
  obtain ⟨t, ht, h1, h2, h3, h4⟩ := nxt_bits hS h hne
  have key : ∀ d, rk S (nxt S s) (t + 1 + d) = rk S s (t + 1 + d) + 1 := by
    intro d
    induction d with
    | zero =>
      show rk S (nxt S s) t + (if (nxt S s).testBit t then 2 ^ pc S.testBit t else 0) = rk S s t + (if s.testBit t then 2 ^ pc S.testBit t else 0) + 1
      rw [h4 t, if_neg (Nat.lt_irrefl t), if_pos rfl, h2, if_pos rfl, if_neg (by decide), rk_congr (s := s) (u := S) h3, ← rk_full S t]
      have : rk S (nxt S s) t = rk S 0 t := rk_congr fun i hi => by rw [h4, if_pos hi, Nat.zero_testBit]
      rw [this]
      have z : ∀ n, rk S 0 n = 0 := fun n => by
        induction n with
        | zero => rfl
        | succ n ih =>
          show rk S 0 n + (if (0 : Nat).testBit n then 2 ^ pc S.testBit n else 0) = 0
          rw [ih, Nat.zero_testBit, if_neg (by decide)]
      rw [z]
      omega
    | succ d ih =>
      show rk S (nxt S s) (t + 1 + d) + (if (nxt S s).testBit (t + 1 + d) then 2 ^ pc S.testBit (t + 1 + d) else 0) = rk S s (t + 1 + d) + (if s.testBit (t + 1 + d) then 2 ^ pc S.testBit (t + 1 + d) else 0) + 1
      have hb : (nxt S s).testBit (t + 1 + d) = s.testBit (t + 1 + d) := by rw [h4, if_neg (by omega), if_neg (by omega)]
      rw [ih, hb]
      omega
  have := key (64 - (t + 1))
  rwa [show t + 1 + (64 - (t + 1)) = 64 by omega] at this
theorem rk_zero (S n : Nat) : rk S 0 n = 0 := by
  induction n with
  | zero => rfl
  | succ n ih =>
    show rk S 0 n + (if (0 : Nat).testBit n then 2 ^ pc S.testBit n else 0) = 0
    rw [ih, Nat.zero_testBit, if_neg (by decide)]
/-- the best subset below a number, or the empty one -/
def BB (m n r S N0 b : Nat) : Prop := Sub b S ∧ Keep m n r b ∧ (b < N0 ∨ b = 0) ∧ ∀ s, Sub s S → (s < N0 ∨ s = 0) → Keep m n r s → sz s < sz b ∨ (sz s = sz b ∧ b ≤ s)
section Bes
variable {m n r S : Nat}
theorem BB.start (hm : 0 < m) (hn : 0 < n) : BB m n r S 0 0 :=
  ⟨Sub.zero S, Keep.none hm hn r, Or.inr rfl, fun s _ h _ => by
    rcases h with h | h
    · exact absurd h (Nat.not_lt_zero s)
    · subst h; exact Or.inr ⟨rfl, Nat.le_refl 0⟩⟩
theorem BB.one {N1 N2 b b' : Nat} (hS : S < 2 ^ 36) (h1 : S < N1) (h2 : S < N2) (h : BB m n r S N1 b) (h' : BB m n r S N2 b') : b = b' := by
  have a1 := h.2.2.2 b' h'.1 (Or.inl (Nat.lt_of_le_of_lt (h'.1.le hS) h1)) h'.2.1
  have a2 := h'.2.2.2 b h.1 (Or.inl (Nat.lt_of_le_of_lt (h.1.le hS) h2)) h.2.1
  omega
theorem BB.skip {N0 N1 b : Nat} (hle : N0 ≤ N1) (hno : ∀ u, Sub u S → N0 ≤ u → u < N1 → Keep m n r u → False) (h : BB m n r S N0 b) : BB m n r S N1 b := by
  obtain ⟨h1, h2, h3, h4⟩ := h
  refine ⟨h1, h2, by omega, fun s g1 g2 g3 => h4 s g1 ?_ g3⟩
  rcases g2 with g2 | g2
  · by_cases c : s < N0
    · exact Or.inl c
    · exact (hno s g1 (by omega) g2 g3).elim
  · exact Or.inr g2
theorem BB.take {x b : Nat} (h : BB m n r S x b) (hx : Sub x S) (hk : Keep m n r x) (hlt : sz b < sz x) : BB m n r S (x + 1) x := by
  obtain ⟨h1, h2, h3, h4⟩ := h
  refine ⟨hx, hk, Or.inl (Nat.lt_succ_self x), fun s g1 g2 g3 => ?_⟩
  by_cases c : s = x
  · subst c; exact Or.inr ⟨rfl, Nat.le_refl _⟩
  · have := h4 s g1 (by omega) g3
    omega
theorem BB.leave {x b : Nat} (h : BB m n r S x b) (hn : ¬ (sz b < sz x ∧ Keep m n r x)) : BB m n r S (x + 1) b := by
  obtain ⟨h1, h2, h3, h4⟩ := h
  refine ⟨h1, h2, by omega, fun s g1 g2 g3 => ?_⟩
  by_cases c : s = x
  · subst c
    have : ¬ sz b < sz s := fun z => hn ⟨z, g3⟩
    omega
  · exact h4 s g1 (by omega) g3
end Bes
