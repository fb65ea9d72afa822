/-! SETS of numbers below N, told by what is in them -/
/-- the number of which the bits below n are told -/
def ob (p : Nat → Bool) : Nat → Nat
  | 0 => 0
  | n + 1 => ob p n + (if p n then 2 ^ n else 0)
theorem ob_lt (p : Nat → Bool) : ∀ n, ob p n < 2 ^ n
  | 0 => Nat.one_pos
  | n + 1 => by
    have h := ob_lt p n
    show ob p n + _ < _
    rw [Nat.pow_succ]
    split <;> omega
theorem ob_bit (p : Nat → Bool) : ∀ n i, (ob p n).testBit i = (decide (i < n) && p i)
  | 0, i => by
    show (0 : Nat).testBit i = _
    rw [Nat.zero_testBit, decide_eq_false (Nat.not_lt_zero i), Bool.false_and]
  | n + 1, i => by
    have h := ob_lt p n
    have ih := ob_bit p n i
    show (ob p n + _).testBit i = _
    have e : ob p n + (if p n then 2 ^ n else 0) = 2 ^ n * (if p n then 1 else 0) + ob p n := by
      split <;> omega
    rw [e, Nat.testBit_two_pow_mul_add _ h]
    by_cases hi : i < n
    · rw [if_pos hi, ih, decide_eq_true hi, decide_eq_true (by omega : i < n + 1)]
    · rw [if_neg hi]
      by_cases hin : i = n
      · subst hin
        rw [Nat.sub_self, decide_eq_true (Nat.lt_succ_self i), Bool.true_and]
        cases p i <;> rfl
      · rw [decide_eq_false (by omega), Bool.false_and]
        have : i - n = (i - n - 1) + 1 := by omega
        rw [this, Nat.testBit_succ]
        cases p n
        · exact Nat.zero_testBit _
        · exact Nat.zero_testBit _
/-- the set of the numbers below N of which P holds -/
noncomputable def st (N : Nat) (P : Nat → Prop) : Nat := ob (fun i => @decide (P i) (Classical.propDecidable (P i))) N
theorem st_lt (N : Nat) (P : Nat → Prop) : st N P < 2 ^ N := ob_lt _ _
theorem st_bit (N : Nat) (P : Nat → Prop) (i : Nat) : (st N P).testBit i = true ↔ i < N ∧ P i := by
  unfold st
  rw [ob_bit, Bool.and_eq_true, decide_eq_true_eq]
  exact and_congr Iff.rfl (@decide_eq_true_iff (P i) (Classical.propDecidable (P i)))
theorem st_eq {N : Nat} {P : Nat → Prop} {a : Nat} (h : a < 2 ^ N) (hb : ∀ i, i < N → (a.testBit i = true ↔ P i)) : a = st N P :=
  tB_ext h (st_lt N P) fun i hi => Bool.eq_iff_iff.mpr ((hb i hi).trans ⟨fun x => (st_bit N P i).mpr ⟨hi, x⟩, fun x => ((st_bit N P i).mp x).2⟩)
theorem st_congr {N : Nat} {P Q : Nat → Prop} (h : ∀ i, i < N → (P i ↔ Q i)) : st N P = st N Q :=
  st_eq (st_lt N P) fun i hi => (st_bit N P i).trans ⟨fun x => (h i hi).mp x.2, fun x => ⟨hi, (h i hi).mpr x⟩⟩
theorem st_self {N a : Nat} (h : a < 2 ^ N) : st N (fun i => a.testBit i = true) = a := (st_eq h fun _ _ => Iff.rfl).symm
theorem st_false {N : Nat} {P : Nat → Prop} (h : ∀ i, i < N → ¬ P i) : st N P = 0 :=
  (st_eq (Nat.two_pow_pos N) fun i hi => by
    rw [Nat.zero_testBit]
    exact ⟨fun x => (Bool.false_ne_true x).elim, fun x => (h i hi x).elim⟩).symm
theorem st_le {N : Nat} {P : Nat → Prop} {k : Nat} (h : N ≤ k) : st N P < 2 ^ k := Nat.lt_of_lt_of_le (st_lt N P) (Nat.pow_le_pow_right (by decide) h)
/-- the numbers below k of which P holds, and the next -/
theorem st_step (N : Nat) (P : Nat → Prop) (k : Nat) (hk : k < N) : st N (fun i => i < k + 1 ∧ P i) = st N (fun i => i < k ∧ P i) ||| (@ite Nat (P k) (Classical.propDecidable _) (2 ^ k) 0) := by
  refine (st_eq (Nat.or_lt_two_pow (st_lt _ _) ?_) fun i hi => ?_).symm
  · split
    · exact Nat.pow_lt_pow_right (by decide) hk
    · exact Nat.two_pow_pos N
  · rw [Nat.testBit_or, Bool.or_eq_true, st_bit]
    split
    · rename_i hp
      rw [Nat.testBit_two_pow, decide_eq_true_eq]
      constructor
      · rintro (⟨-, h1, h2⟩ | h)
        · exact ⟨by omega, h2⟩
        · subst h; exact ⟨by omega, hp⟩
      · rintro ⟨h1, h2⟩
        by_cases e : k = i
        · exact Or.inr e
        · exact Or.inl ⟨hi, by omega, h2⟩
    · rename_i hp
      rw [Nat.zero_testBit]
      constructor
      · rintro (⟨-, h1, h2⟩ | h)
        · exact ⟨by omega, h2⟩
        · cases h
      · rintro ⟨h1, h2⟩
        refine Or.inl ⟨hi, ?_, h2⟩
        by_cases e : i = k
        · subst e; exact (hp h2).elim
        · omega
theorem st_none {N : Nat} {P : Nat → Prop} : st N (fun i => i < 0 ∧ P i) = 0 := st_false fun i _ h => Nat.not_lt_zero i h.1
theorem st_all {N : Nat} {P : Nat → Prop} : st N (fun i => i < N ∧ P i) = st N P := st_congr fun _ hi => ⟨fun h => h.2, fun h => ⟨hi, h⟩⟩
theorem full_bit (N i : Nat) : (2 ^ N - 1).testBit i = true ↔ i < N := by rw [Nat.testBit_two_pow_sub_one, decide_eq_true_eq]
/-! loops by what holds at their head -/
theorem it_for {A B : Type} {g : A → Option (A ⊕ B)} (N : Nat) (P : Nat → A → Prop) (Q : B → Prop)
    (hs : ∀ k a, k < N → P k a → (∃ a', g a = some (.inl a') ∧ P (k + 1) a') ∨ (∃ b, g a = some (.inr b) ∧ Q b))
    (he : ∀ a, P N a → ∃ b, g a = some (.inr b) ∧ Q b) : ∀ (d k fuel : Nat) (a : A), k + d = N → P k a → d < fuel → ∃ b, iter g fuel a = some b ∧ Q b
  | _, _, 0, _, _, _, h => absurd h (Nat.not_lt_zero _)
  | 0, k, f + 1, a, e, p, _ => by
    obtain ⟨b, h1, h2⟩ := he a (by rw [← e]; exact p)
    refine ⟨b, ?_, h2⟩
    unfold iter
    rw [h1]
  | d + 1, k, f + 1, a, e, p, h => by
    rcases hs k a (by omega) p with ⟨a', h1, h2⟩ | ⟨b, h1, h2⟩
    · obtain ⟨b, h3, h4⟩ := it_for N P Q hs he d (k + 1) f a' (by omega) h2 (by omega)
      refine ⟨b, ?_, h4⟩
      unfold iter
      rw [h1]
      exact h3
    · refine ⟨b, ?_, h2⟩
      unfold iter
      rw [h1]
/-- a loop of at most N turns -/
theorem it_loop {A B : Type} {g : A → Option (A ⊕ B)} (N : Nat) (P : Nat → A → Prop) (Q : B → Prop) {a : A} (hN : N < 20000) (h0 : P 0 a)
    (hs : ∀ k a, k < N → P k a → (∃ a', g a = some (.inl a') ∧ P (k + 1) a') ∨ (∃ b, g a = some (.inr b) ∧ Q b))
    (he : ∀ a, P N a → ∃ b, g a = some (.inr b) ∧ Q b) : ∃ b, iter g 20000 a = some b ∧ Q b :=
  it_for N P Q hs he N 0 20000 a (Nat.zero_add N) h0 hN
/-- .. that goes to its end -/
theorem it_full {A B : Type} {g : A → Option (A ⊕ B)} (N : Nat) (S : Nat → A) {b : B} (hN : N < 20000)
    (hs : ∀ k, k < N → g (S k) = some (.inl (S (k + 1)))) (he : g (S N) = some (.inr b)) : iter g 20000 (S 0) = some b := by
  obtain ⟨c, h1, h2⟩ := it_loop (g := g) N (fun k a => a = S k) (fun c => c = b) hN rfl (fun k a hk e => Or.inl ⟨S (k + 1), by rw [e]; exact hs k hk, rfl⟩) (fun a e => ⟨b, by rw [e]; exact he, rfl⟩)
  rw [h1, h2]
/-! counts -/
theorem pc_only {q : Nat → Bool} {N y : Nat} (hy : y < N) (h : ∀ i, i < N → q i = true → i = y) : pc q N = if q y then 1 else 0 := by
  by_cases hq : q y = true
  · rw [if_pos hq]
    have h1 := pc_out (p := q) (q := fun _ => false) hy hq rfl fun i hi hn => by
      cases e : q i with
      | false => rfl
      | true => exact absurd (h i hi e) hn
    rw [h1, pc_zero.mpr fun _ _ => rfl]
  · rw [if_neg hq]
    refine pc_zero.mpr fun i hi => ?_
    cases e : q i with
    | false => rfl
    | true => exact absurd (h i hi e ▸ e) hq
theorem pc_none {q : Nat → Bool} {N : Nat} (h : ∀ i, i < N → q i = false) : pc q N = 0 := pc_zero.mpr h
theorem sz_st {N : Nat} (hN : N ≤ 64) {a : Nat} (h : a < 2 ^ N) : sz a = pc a.testBit N := sz_to h hN
