/-! THE CLASS'S GROUP: what its cells hold, and a set that is moved by an element -/
theorem ii_le0 {k : Nat} (h : k < 2147483648) : ii k ≤ 0 ↔ k = 0 := by
  rw [show (0 : Int32) = ii 0 from rfl, ii_le h (by decide)]
  omega
theorem ii_dec {k : Nat} (h : 0 < k) : ii k + (-1 : Int32) = ii (k - 1) := by
  rw [show (-1 : Int32) = zi (-1) from rfl, ← zi_ii k, zi_add, ← zi_ii (k - 1)]
  congr 1
  omega
theorem ii_inc (k : Nat) : ii k + (1 : Int32) = ii (k + 1) := ii_add k 1
theorem lc_z {a : Nat} (ha : a < 18446744073709551616) : (lg_cmp (ll a) (0 : Int64) = 0) ↔ a = 0 := by
  rw [ll_0, lc_0 ha (by decide)]
theorem ll_not (a : Nat) : ll a ^^^ (-1 : Int64) = ll (a ^^^ (2 ^ 64 - 1)) := by
  rw [ll_m1, ll_xor]
theorem not_bit (a i : Nat) (hi : i < 64) : (a ^^^ (2 ^ 64 - 1)).testBit i = !a.testBit i := by
  rw [Nat.testBit_xor, Nat.testBit_two_pow_sub_one, decide_eq_true hi, Bool.xor_true]
theorem set64 {a N : Nat} (h : a < 2 ^ N) (hN : N ≤ 36) : a < 18446744073709551616 := Nat.lt_of_lt_of_le h (Nat.pow_le_pow_right (n := 2) (i := N) (j := 64) (by decide) (by omega))
/-- all elements of which y is 0 -/
def rowsF (n : Nat) : Nat → Nat
  | 0 => 0
  | x + 1 => rowsF n x + 2 ^ (n * x)
theorem rowsF_T {n u : Nat} (hu : u < n) : ∀ x, rowsF n x * (2 ^ u - 1) < 2 ^ (n * x) ∧ ∀ i, (rowsF n x * (2 ^ u - 1)).testBit i = decide (i < n * x ∧ i % n < u)
  | 0 => by
    refine ⟨by simp [rowsF], fun i => ?_⟩
    show (0 * (2 ^ u - 1)).testBit i = _
    rw [Nat.zero_mul, Nat.zero_testBit]
    exact (decide_eq_false fun h => Nat.not_lt_zero i (by simpa using h.1)).symm
  | x + 1 => by
    obtain ⟨h1, h2⟩ := rowsF_T hu x
    have e : rowsF n (x + 1) * (2 ^ u - 1) = 2 ^ (n * x) * (2 ^ u - 1) + rowsF n x * (2 ^ u - 1) := by
      show (rowsF n x + 2 ^ (n * x)) * (2 ^ u - 1) = _
      rw [Nat.add_mul, Nat.add_comm]
    have hp : 2 ^ u - 1 < 2 ^ n := Nat.lt_of_le_of_lt (Nat.sub_le _ _) (Nat.pow_lt_pow_right (a := 2) (by decide) hu)
    constructor
    · rw [e, Nat.mul_succ, Nat.pow_add]
      have h3 : 2 ^ (n * x) * (2 ^ u - 1 + 1) ≤ 2 ^ (n * x) * 2 ^ n := Nat.mul_le_mul_left _ hp
      rw [Nat.mul_add, Nat.mul_one] at h3
      omega
    · intro i
      rw [e, Nat.testBit_two_pow_mul_add _ h1, Nat.mul_succ]
      by_cases hi : i < n * x
      · rw [if_pos hi, h2]
        exact decide_eq_decide.mpr ⟨fun h => ⟨by omega, h.2⟩, fun h => ⟨hi, h.2⟩⟩
      · rw [if_neg hi, Nat.testBit_two_pow_sub_one]
        refine decide_eq_decide.mpr ?_
        obtain ⟨d, hd⟩ := Nat.exists_eq_add_of_le (Nat.le_of_not_lt hi)
        subst hd
        rw [Nat.add_sub_cancel_left, Nat.mul_add_mod]
        constructor
        · intro h
          rw [Nat.mod_eq_of_lt (by omega)]
          exact ⟨by omega, h⟩
        · rintro ⟨h3, h4⟩
          rwa [Nat.mod_eq_of_lt (by omega)] at h4
/-- what the class's cells hold of a group -/
def GI (M : Mem) (m n : Nat) : Prop := 0 < m ∧ 0 < n ∧ m * n ≤ 36 ∧ M.1 2 0 = ii m ∧ M.1 2 1 = ii n ∧ M.1 2 2 = ii (m * n) ∧ M.2 2 3 = ll (2 ^ (m * n) - 1) ∧ M.2 2 4 = ll (rowsF n m) ∧ M.2 2 5 = ll (st (m * n) fun i => ad m n i i = 0) ∧ ∀ e, e < m * n → M.1 3 e = ii (ng m n e)
theorem GI.le {M : Mem} {m n : Nat} (h : GI M m n) : m ≤ 36 ∧ n ≤ 36 := by
  obtain ⟨h1, h2, h3, -⟩ := h
  exact ⟨Nat.le_trans (Nat.le_mul_of_pos_right m h2) h3, Nat.le_trans (Nat.le_mul_of_pos_left n h1) h3⟩
section Cls
variable {M : Mem} {m n : Nat}
theorem plus_i (h : GI M m n) {a b : Nat} (ha : a < m * n) (hb : b < m * n) : d_X1_plus (ii a) (ii b) M = ii (ad m n a b) := by
  have hle := h.le
  obtain ⟨hm, hn, hN, h0, h1, -⟩ := h
  have d1 := Nat.div_le_self a n
  have d2 := Nat.div_le_self b n
  have r1 := Nat.mod_le a n
  have r2 := Nat.mod_le b n
  unfold d_X1_plus
  rw [h0, h1, share_i (by omega) hn (by omega), share_i (by omega) hn (by omega), ii_add, rest_i (by omega) hm (by omega), rest_i (by omega) hn (by omega), rest_i (by omega) hn (by omega), ii_add, rest_i (by omega) hn (by omega), ii_mul, ii_add]
  rfl
theorem multiple_i (h0 : M.1 2 0 = ii m) (h1 : M.1 2 1 = ii n) (hm : 0 < m) (hn : 0 < n) (hN : m ≤ 36 ∧ n ≤ 36) {t : Int} {e : Nat} (ht : -100 ≤ t ∧ t ≤ 100) (he : e ≤ 36) : d_X1_multiple (zi t) (ii e) M = ii (ml m n t e) := by
  have d1 := Nat.div_le_self e n
  have r1 := Nat.mod_le e n
  have key : ∀ x : Nat, x ≤ 36 → -2147483648 ≤ t * (x : Int) ∧ t * (x : Int) < 2147483648 := fun x hx => by
    have k1 := Int.mul_le_mul_of_nonneg_right ht.1 (show (0 : Int) ≤ (x : Int) by omega)
    have k2 := Int.mul_le_mul_of_nonneg_right ht.2 (show (0 : Int) ≤ (x : Int) by omega)
    constructor <;> omega
  obtain ⟨k1, k2⟩ := key (e / n) (by omega)
  obtain ⟨k3, k4⟩ := key (e % n) (by omega)
  unfold d_X1_multiple
  rw [h0, h1, share_i (by omega) hn (by omega), rest_i (by omega) hn (by omega), ← zi_ii (e / n), ← zi_ii (e % n), zi_mul, zi_mul, rest_z k1 k2 hm (by omega), rest_z k3 k4 hn (by omega), ii_mul, ii_add]
  rfl
theorem lessOf_i (h : GI M m n) {e : Nat} (he : e < m * n) : d_X1_lessOf (ii e) M = ii (ng m n e) := by
  obtain ⟨hm, hn, hN, -, -, -, -, -, -, h6⟩ := h
  unfold d_X1_lessOf d_X7_at
  rw [if_neg (ii_lt0 (by omega)), if_pos, ii_ix (by omega), h6 e he]
  rw [show (36 : Int32) = ii 36 from rfl, ii_lt (by omega) (by decide)]
  omega
/-- a set with an element added to each of its own -/
noncomputable def shf (m n s e : Nat) : Nat := st (m * n) (fun i => s.testBit (sb m n i e) = true)
theorem shf_lt (s e : Nat) : shf m n s e < 2 ^ (m * n) := st_lt _ _
theorem shf_bit (s e i : Nat) : (shf m n s e).testBit i = true ↔ i < m * n ∧ s.testBit (sb m n i e) = true := st_bit _ _ _
/-- the turn by y, and by x -/
theorem turn_bit (hm : 0 < m) (hn : 0 < n) {s e i T : Nat} (he : e < m * n) (hi : i < m * n)
    (hT : ∀ j, T.testBit j = if j < m * n then (if j % n < e % n then s.testBit (j + (n - e % n)) else s.testBit (j - e % n)) else false) :
    (((T <<< (e - e % n)) ||| (T >>> (m * n - (e - e % n))))).testBit i = s.testBit (sb m n i e) := by
  have hu : e % n < n := Nat.mod_lt _ hn
  have hy : i % n < n := Nat.mod_lt _ hn
  have ei := Nat.div_add_mod i n
  have ee := Nat.div_add_mod e n
  have hx : i / n < m := el_div hi
  have ha : e / n < m := el_div he
  generalize hu' : e % n = u at *
  generalize ha' : e / n = a at *
  generalize hy' : i % n = y at *
  generalize hx' : i / n = x at *
  have key : ∀ x' j, x' < m → (x' + a) % m = x → j = n * x' + y → T.testBit j = s.testBit (sb m n i e) := by
    intro x' j h1 h2 h3
    have hj : j < m * n := by rw [h3]; exact nm_lt h1 hy
    have hjm : j % n = y := by rw [h3]; exact nm_mod hy
    have fin : ∀ idx y', y' < n → (y' + u) % n = y → idx = n * x' + y' → idx = sb m n i e := by
      intro idx y' g1 g2 g3
      have hidx : idx < m * n := by rw [g3]; exact nm_lt h1 g1
      refine (ad_iff' hm hn hidx hi).mp ?_
      unfold ad
      rw [g3, nm_div g1, nm_mod g1, hu', ha', h2, g2]
      exact ei
    rw [hT, if_pos hj, hjm]
    by_cases c : y < u
    · rw [if_pos c]
      congr 1
      refine fin _ (y + (n - u)) (by omega) ?_ (by omega)
      rw [show y + (n - u) + u = y + n by omega, Nat.add_mod_right, Nat.mod_eq_of_lt hy]
    · rw [if_neg c]
      congr 1
      refine fin _ (y - u) (by omega) ?_ (by omega)
      rw [show y - u + u = y by omega, Nat.mod_eq_of_lt hy]
  have hac : e - u = n * a := by omega
  rw [hac, Nat.testBit_or, Nat.testBit_shiftLeft, Nat.testBit_shiftRight]
  have hna : n * (a + 1) ≤ n * m := Nat.mul_le_mul_left n ha
  rw [Nat.mul_add, Nat.mul_one, Nat.mul_comm n m] at hna
  by_cases c : a ≤ x
  · have h1 : n * x = n * (x - a) + n * a := by rw [← Nat.mul_add, Nat.sub_add_cancel c]
    rw [decide_eq_true (by omega : i ≥ n * a), Bool.true_and, key (x - a) (i - n * a) (by omega) (by rw [Nat.sub_add_cancel c, Nat.mod_eq_of_lt hx]) (by omega), hT (m * n - n * a + i), if_neg (by omega), Bool.or_false]
  · have h1 : n * (x + m - a) + n * a = n * x + m * n := by
      rw [← Nat.mul_add, Nat.sub_add_cancel (by omega), Nat.mul_add, Nat.mul_comm n m]
    have h2 : n * (x + 1) ≤ n * a := Nat.mul_le_mul_left n (by omega)
    rw [Nat.mul_add, Nat.mul_one] at h2
    rw [decide_eq_false (by omega : ¬ i ≥ n * a), Bool.false_and, Bool.false_or]
    refine key (x + m - a) _ (by omega) ?_ (by omega)
    rw [show x + m - a + a = x + m by omega, Nat.add_mod_right, Nat.mod_eq_of_lt hx]
theorem shifted_i (h : GI M m n) {s e : Nat} (hs : s < 2 ^ (m * n)) (he : e < m * n) : d_X1_shifted (ll s) (ii e) M = ll (shf m n s e) := by
  have hle := h.le
  obtain ⟨hm, hn, hN, -, h1, h2, h3, h4, -, -⟩ := h
  have hu : e % n < n := Nat.mod_lt _ hn
  have hue : e % n ≤ e := Nat.mod_le e n
  have hs64 := set64 hs hN
  have e1 : d_X7_rest (ii e) (M.1 2 1) = ii (e % n) := by rw [h1]; exact rest_i (by omega) hn (by omega)
  obtain ⟨t1, t2⟩ := rowsF_T hu m
  have hp : 1 ≤ 2 ^ (e % n) := Nat.two_pow_pos _
  have e2 : M.2 2 4 * (d_X7_bit (ii (e % n)) - (1 : Int64)) = ll (rowsF n m * (2 ^ (e % n) - 1)) := by
    rw [h4, bit_i (by omega), ll_1, ll_sub hp, ll_mul]
  unfold d_X1_shifted
  rw [e1, e2, h1, h2, h3, ii_sub (by omega), ii_sub hue, ll_not]
  generalize hTO : rowsF n m * (2 ^ (e % n) - 1) = TO at t1 t2 ⊢
  have hall : 2 ^ (m * n) - 1 < 18446744073709551616 := set64 (N := m * n) (Nat.sub_lt (Nat.two_pow_pos _) (by decide)) hN
  rw [Nat.mul_comm n m] at t1
  have hTO64 : TO < 18446744073709551616 := set64 t1 hN
  rw [ll_shl s (by omega), ll_shr hs64 (by omega), ll_and, ll_and, ll_and, ll_or]
  generalize hT : s <<< (e % n) &&& (TO ^^^ 2 ^ 64 - 1) &&& 2 ^ (m * n) - 1 ||| s >>> (n - e % n) &&& TO = T
  have hT64 : T < 18446744073709551616 := by
    rw [← hT]
    exact Nat.or_lt_two_pow (n := 64) (Nat.lt_of_le_of_lt Nat.and_le_right hall) (Nat.lt_of_le_of_lt Nat.and_le_right hTO64)
  have hTb : ∀ j, T.testBit j = if j < m * n then (if j % n < e % n then s.testBit (j + (n - e % n)) else s.testBit (j - e % n)) else false := by
    intro j
    rw [← hT, Nat.testBit_or, Nat.testBit_and, Nat.testBit_and, Nat.testBit_and, Nat.testBit_two_pow_sub_one, t2, Nat.mul_comm n m]
    by_cases hj : j < m * n
    · rw [if_pos hj, not_bit _ _ (by omega), t2, Nat.mul_comm n m, Nat.testBit_shiftLeft, Nat.testBit_shiftRight, decide_eq_true hj, Bool.and_true]
      by_cases c : j % n < e % n
      · rw [if_pos c, decide_eq_true (⟨hj, c⟩ : j < m * n ∧ j % n < e % n), Bool.not_true, Bool.and_false, Bool.false_or, Bool.and_true, Nat.add_comm]
      · have := Nat.mod_le j n
        rw [if_neg c, decide_eq_false (fun z : j < m * n ∧ j % n < e % n => c z.2), Bool.not_false, Bool.and_true, Bool.and_false, Bool.or_false, decide_eq_true (by omega : j ≥ e % n), Bool.true_and]
    · rw [if_neg hj, decide_eq_false hj, decide_eq_false (fun z : j < m * n ∧ j % n < e % n => hj z.1), Bool.and_false, Bool.and_false, Bool.or_false]
  rw [ii_sub (by omega), ll_shl T (by omega), ll_shr hT64 (by omega), ll_or, ll_and]
  congr 1
  refine st_eq (Nat.and_lt_two_pow _ (Nat.sub_lt (Nat.two_pow_pos _) (by decide))) fun i hi => ?_
  rw [Nat.testBit_and, Nat.testBit_two_pow_sub_one, decide_eq_true hi, Bool.and_true, turn_bit hm hn he hi hTb]
/-! loops over the elements of a set, the lowest first -/
theorem sz_zero : sz 0 = 0 := (sz_0 (by decide)).mpr rfl
theorem it_bits {A B : Type} {g : A → Option (A ⊕ B)} {S : Nat} (hS : S < 18446744073709551616) (P : Nat → A → Prop) (Q : B → Prop) {a : A} (h0 : P S a)
    (hs : ∀ l a, l < 18446744073709551616 → 0 < l → P l a → (∃ a', g a = some (.inl a') ∧ P (lwo l) a') ∨ (∃ b, g a = some (.inr b) ∧ Q b))
    (he : ∀ a, P 0 a → ∃ b, g a = some (.inr b) ∧ Q b) : ∃ b, iter g 20000 a = some b ∧ Q b := by
  refine it_loop (sz S) (fun k a => ∃ l, l < 18446744073709551616 ∧ sz l + k = sz S ∧ P l a) Q (by have := sz_le S; omega) ⟨S, hS, rfl, h0⟩ ?_ ?_
  · rintro k a hk ⟨l, hl, e, p⟩
    have hl0 : 0 < l := Nat.pos_of_ne_zero fun z => by
      subst z
      rw [sz_zero] at e
      omega
    rcases hs l a hl hl0 p with ⟨a', g1, g2⟩ | g
    · obtain ⟨t, -, -, -, -, -, g3⟩ := low_set hl hl0
      exact Or.inl ⟨a', g1, lwo l, lwo_lt hl, by omega, g2⟩
    · exact Or.inr g
  · rintro a ⟨l, hl, e, p⟩
    have : sz l = 0 := by omega
    rw [sz_0 hl] at this
    subst this
    exact he a p
end Cls
theorem k_ex {B : Type} {p q : B → Prop} {c : Prop} (k : ∀ b, p b → q b → c) (h : ∃ b, p b ∧ q b) : c := let ⟨b, h1, h2⟩ := h; k b h1 h2
theorem k_have {p q : Prop} (k : p → q) (h : p) : q := k h
