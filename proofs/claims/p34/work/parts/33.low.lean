/-! how the class library counts bits, step by step -/
def bc1 (v : Int64) : Int64 := v - ((jushr v (1 : Int32)) &&& (6148914691236517205 : Int64))
def bc2 (v : Int64) : Int64 := (v &&& (3689348814741910323 : Int64)) + ((jushr v (2 : Int32)) &&& (3689348814741910323 : Int64))
def bc3 (v : Int64) : Int64 := (v + (jushr v (4 : Int32))) &&& (1085102592571150095 : Int64)
def bc4 (v : Int64) : Int64 := v + (jushr v (8 : Int32))
def bc5 (v : Int64) : Int64 := v + (jushr v (16 : Int32))
def bc6 (v : Int64) : Int64 := v + (jushr v (32 : Int32))
theorem bc_eq (v : Int64) : d_J13_bitCount_95d88 v = ((bc6 (bc5 (bc4 (bc3 (bc2 (bc1 v)))))).toInt32 &&& (127 : Int32)) := rfl
theorem bcc1 : (6148914691236517205 : Int64) = ll (rep 5 16) := by decide +kernel
theorem bcc2 : (3689348814741910323 : Int64) = ll (rep 3 16) := by decide +kernel
theorem bcc3 : (1085102592571150095 : Int64) = ll (val [15, 0, 15, 0, 15, 0, 15, 0, 15, 0, 15, 0, 15, 0, 15, 0]) := by decide +kernel
theorem bc1_i {x r : Nat} (hx : x < 18446744073709551616) (hr : rep 5 16 = r) : bc1 (ll x) = ll (x - ((x >>> 1) &&& r)) := by
  have l1 : (x >>> 1) &&& r ≤ x := Nat.le_trans Nat.and_le_left (Nat.shiftRight_le x 1)
  unfold bc1
  rw [bcc1, hr, show (1 : Int32) = ii 1 from rfl, ll_shr hx (by decide), ll_and, ll_sub l1]
theorem bc2_i {x r : Nat} (hx : x < 18446744073709551616) (hr : rep 3 16 = r) : bc2 (ll x) = ll ((x &&& r) + ((x >>> 2) &&& r)) := by
  unfold bc2
  rw [bcc2, hr, show (2 : Int32) = ii 2 from rfl, ll_shr hx (by decide), ll_and, ll_and, ll_add]
theorem bc3_i {x r : Nat} (hx : x < 18446744073709551616) (hr : val [15, 0, 15, 0, 15, 0, 15, 0, 15, 0, 15, 0, 15, 0, 15, 0] = r) : bc3 (ll x) = ll ((x + x / 16) &&& r) := by
  unfold bc3
  rw [bcc3, hr, show (4 : Int32) = ii 4 from rfl, ll_shr hx (by decide), ll_add, ll_and, Nat.shiftRight_eq_div_pow]
theorem bc4_i {x : Nat} (hx : x < 18446744073709551616) : bc4 (ll x) = ll (x + x / 256) := by
  unfold bc4
  rw [show (8 : Int32) = ii 8 from rfl, ll_shr hx (by decide), ll_add, Nat.shiftRight_eq_div_pow]
theorem bc5_i {x : Nat} (hx : x < 18446744073709551616) : bc5 (ll x) = ll (x + x / 65536) := by
  unfold bc5
  rw [show (16 : Int32) = ii 16 from rfl, ll_shr hx (by decide), ll_add, Nat.shiftRight_eq_div_pow]
theorem bc6_i {x : Nat} (hx : x < 18446744073709551616) : ((bc6 (ll x)).toInt32 &&& (127 : Int32)) = ii ((x + x / 4294967296) % 128) := by
  unfold bc6
  rw [show (32 : Int32) = ii 32 from rfl, ll_shr hx (by decide), ll_add, Nat.shiftRight_eq_div_pow, ll_i32, show (127 : Int32) = ii 127 from rfl, ii_and, show (127 : Nat) = 2 ^ 7 - 1 from rfl, Nat.and_two_pow_sub_one_eq_mod]
theorem bitCount_i {x : Nat} (hx : x < 18446744073709551616) : d_J13_bitCount_95d88 (ll x) = ii (sz x) := by
  obtain ⟨-, s2⟩ := swar2 (n := 16) hx
  obtain ⟨p, hp, hv, hs⟩ := nib16 x
  obtain ⟨q, hq, hr, hsum⟩ := swar3 p hp
  rw [hv] at s2
  have bv : val ((List.range 16).map p) < 18446744073709551616 := by
    rw [val_vB]
    refine vB_lt16 (by simp) fun b hb => ?_
    obtain ⟨i, -, rfl⟩ := List.mem_map.mp hb
    have := hp i
    omega
  obtain ⟨f1, g1, g2, g3⟩ := swar4 (q 0) (q 1) (q 2) (q 3) (q 4) (q 5) (q 6) (q 7) _ _ _ _ (hq 0) (hq 1) (hq 2) (hq 3) (hq 4) (hq 5) (hq 6) (hq 7) rfl rfl rfl rfl
  generalize vB 256 [q 0, q 1, q 2, q 3, q 4, q 5, q 6, q 7] = X at hr f1 g1 g2 g3
  generalize val ((List.range 16).map p) = V at s2 hr bv
  generalize h5 : rep 5 16 = r5 at s2
  generalize h3 : rep 3 16 = r3 at s2
  generalize h15 : val [15, 0, 15, 0, 15, 0, 15, 0, 15, 0, 15, 0, 15, 0, 15, 0] = r15 at hr
  have b1 : x - ((x >>> 1) &&& r5) < 18446744073709551616 := Nat.lt_of_le_of_lt (Nat.sub_le _ _) hx
  rw [bc_eq, bc1_i hx h5, bc2_i b1 h3, s2, bc3_i bv h15, hr, bc4_i g1, bc5_i g2, bc6_i g3, f1, hs, ← hsum]
/-! THE LOWEST BIT -/
def ntzf (y : Int32) : Int32 := (if y ≤ 0 then (y &&& (32 : Int32)) else ((if (if (if (if y ≤ (65536 : Int32) then y else (jusr y (16 : Int32))) ≤ (256 : Int32) then (if y ≤ (65536 : Int32) then y else (jusr y (16 : Int32))) else (jusr (if y ≤ (65536 : Int32) then y else (jusr y (16 : Int32))) (8 : Int32))) ≤ (16 : Int32) then (if (if y ≤ (65536 : Int32) then y else (jusr y (16 : Int32))) ≤ (256 : Int32) then (if y ≤ (65536 : Int32) then y else (jusr y (16 : Int32))) else (jusr (if y ≤ (65536 : Int32) then y else (jusr y (16 : Int32))) (8 : Int32))) else (jusr (if (if y ≤ (65536 : Int32) then y else (jusr y (16 : Int32))) ≤ (256 : Int32) then (if y ≤ (65536 : Int32) then y else (jusr y (16 : Int32))) else (jusr (if y ≤ (65536 : Int32) then y else (jusr y (16 : Int32))) (8 : Int32))) (4 : Int32))) ≤ (4 : Int32) then (if (if (if y ≤ (65536 : Int32) then y else (jusr y (16 : Int32))) ≤ (256 : Int32) then (if y ≤ (65536 : Int32) then y else (jusr y (16 : Int32))) else (jusr (if y ≤ (65536 : Int32) then y else (jusr y (16 : Int32))) (8 : Int32))) ≤ (16 : Int32) then (if (if y ≤ (65536 : Int32) then y else (jusr y (16 : Int32))) ≤ (256 : Int32) then (if y ≤ (65536 : Int32) then (1 : Int32) else ((1 : Int32) + (16 : Int32))) else ((if y ≤ (65536 : Int32) then (1 : Int32) else ((1 : Int32) + (16 : Int32))) + (8 : Int32))) else ((if (if y ≤ (65536 : Int32) then y else (jusr y (16 : Int32))) ≤ (256 : Int32) then (if y ≤ (65536 : Int32) then (1 : Int32) else ((1 : Int32) + (16 : Int32))) else ((if y ≤ (65536 : Int32) then (1 : Int32) else ((1 : Int32) + (16 : Int32))) + (8 : Int32))) + (4 : Int32))) else ((if (if (if y ≤ (65536 : Int32) then y else (jusr y (16 : Int32))) ≤ (256 : Int32) then (if y ≤ (65536 : Int32) then y else (jusr y (16 : Int32))) else (jusr (if y ≤ (65536 : Int32) then y else (jusr y (16 : Int32))) (8 : Int32))) ≤ (16 : Int32) then (if (if y ≤ (65536 : Int32) then y else (jusr y (16 : Int32))) ≤ (256 : Int32) then (if y ≤ (65536 : Int32) then (1 : Int32) else ((1 : Int32) + (16 : Int32))) else ((if y ≤ (65536 : Int32) then (1 : Int32) else ((1 : Int32) + (16 : Int32))) + (8 : Int32))) else ((if (if y ≤ (65536 : Int32) then y else (jusr y (16 : Int32))) ≤ (256 : Int32) then (if y ≤ (65536 : Int32) then (1 : Int32) else ((1 : Int32) + (16 : Int32))) else ((if y ≤ (65536 : Int32) then (1 : Int32) else ((1 : Int32) + (16 : Int32))) + (8 : Int32))) + (4 : Int32))) + (2 : Int32))) + (jusr (if (if (if (if y ≤ (65536 : Int32) then y else (jusr y (16 : Int32))) ≤ (256 : Int32) then (if y ≤ (65536 : Int32) then y else (jusr y (16 : Int32))) else (jusr (if y ≤ (65536 : Int32) then y else (jusr y (16 : Int32))) (8 : Int32))) ≤ (16 : Int32) then (if (if y ≤ (65536 : Int32) then y else (jusr y (16 : Int32))) ≤ (256 : Int32) then (if y ≤ (65536 : Int32) then y else (jusr y (16 : Int32))) else (jusr (if y ≤ (65536 : Int32) then y else (jusr y (16 : Int32))) (8 : Int32))) else (jusr (if (if y ≤ (65536 : Int32) then y else (jusr y (16 : Int32))) ≤ (256 : Int32) then (if y ≤ (65536 : Int32) then y else (jusr y (16 : Int32))) else (jusr (if y ≤ (65536 : Int32) then y else (jusr y (16 : Int32))) (8 : Int32))) (4 : Int32))) ≤ (4 : Int32) then (if (if (if y ≤ (65536 : Int32) then y else (jusr y (16 : Int32))) ≤ (256 : Int32) then (if y ≤ (65536 : Int32) then y else (jusr y (16 : Int32))) else (jusr (if y ≤ (65536 : Int32) then y else (jusr y (16 : Int32))) (8 : Int32))) ≤ (16 : Int32) then (if (if y ≤ (65536 : Int32) then y else (jusr y (16 : Int32))) ≤ (256 : Int32) then (if y ≤ (65536 : Int32) then y else (jusr y (16 : Int32))) else (jusr (if y ≤ (65536 : Int32) then y else (jusr y (16 : Int32))) (8 : Int32))) else (jusr (if (if y ≤ (65536 : Int32) then y else (jusr y (16 : Int32))) ≤ (256 : Int32) then (if y ≤ (65536 : Int32) then y else (jusr y (16 : Int32))) else (jusr (if y ≤ (65536 : Int32) then y else (jusr y (16 : Int32))) (8 : Int32))) (4 : Int32))) else (jusr (if (if (if y ≤ (65536 : Int32) then y else (jusr y (16 : Int32))) ≤ (256 : Int32) then (if y ≤ (65536 : Int32) then y else (jusr y (16 : Int32))) else (jusr (if y ≤ (65536 : Int32) then y else (jusr y (16 : Int32))) (8 : Int32))) ≤ (16 : Int32) then (if (if y ≤ (65536 : Int32) then y else (jusr y (16 : Int32))) ≤ (256 : Int32) then (if y ≤ (65536 : Int32) then y else (jusr y (16 : Int32))) else (jusr (if y ≤ (65536 : Int32) then y else (jusr y (16 : Int32))) (8 : Int32))) else (jusr (if (if y ≤ (65536 : Int32) then y else (jusr y (16 : Int32))) ≤ (256 : Int32) then (if y ≤ (65536 : Int32) then y else (jusr y (16 : Int32))) else (jusr (if y ≤ (65536 : Int32) then y else (jusr y (16 : Int32))) (8 : Int32))) (4 : Int32))) (2 : Int32))) (1 : Int32))))
theorem ntz_f (v0 : Int32) : d_J6_numberOfTrailingZeros_0f7a4 v0 = ntzf ((v0 ^^^ (-1 : Int32)) &&& (v0 - (1 : Int32))) := rfl
theorem ntzf_i : ∀ t, t < 32 → ntzf (ii (2 ^ t - 1)) = ii t := by decide +kernel
/-- a number above 0: its lowest bit and what is above it -/
theorem low_ex : ∀ x : Nat, 0 < x → ∃ t q, x = 2 ^ (t + 1) * q + 2 ^ t := fun x => by
  induction x using Nat.strongRecOn with
  | ind x ih =>
    intro h
    by_cases e : x % 2 = 1
    · exact ⟨0, x / 2, by show x = 2 * (x / 2) + 1; omega⟩
    · obtain ⟨t, q, hq⟩ := ih (x / 2) (by omega) (by omega)
      refine ⟨t + 1, q, ?_⟩
      have e1 : x = 2 * (x / 2) := by omega
      rw [e1, hq, Nat.mul_add, ← Nat.mul_assoc, Nat.pow_succ 2 (t + 1), Nat.pow_succ 2 t, Nat.mul_comm 2 (2 ^ t * 2), Nat.mul_comm 2 (2 ^ t)]
theorem low_bit (t q i : Nat) : (2 ^ (t + 1) * q + 2 ^ t).testBit i = if i < t then false else if i = t then true else q.testBit (i - (t + 1)) := by
  rw [Nat.testBit_two_pow_mul_add q (i := t + 1) (Nat.pow_lt_pow_right (by decide) (Nat.lt_succ_self t)) i, Nat.testBit_two_pow]
  by_cases h : i < t
  · rw [if_pos (by omega), if_pos h, decide_eq_false (by omega)]
  · by_cases e : i = t
    · rw [if_pos (by omega), if_neg h, if_pos e, decide_eq_true e.symm]
    · rw [if_neg (by omega), if_neg h, if_neg e]
theorem low_pred (t q i : Nat) : (2 ^ (t + 1) * q + 2 ^ t - 1).testBit i = if i < t then true else if i = t then false else q.testBit (i - (t + 1)) := by
  have h0 : 0 < 2 ^ t := Nat.two_pow_pos t
  have h1 : 2 ^ t - 1 < 2 ^ (t + 1) := by rw [Nat.pow_succ]; omega
  rw [Nat.add_sub_assoc h0, Nat.testBit_two_pow_mul_add q (i := t + 1) h1 i, Nat.testBit_two_pow_sub_one]
  by_cases h : i < t
  · rw [if_pos (by omega), if_pos h, decide_eq_true h]
  · by_cases e : i = t
    · rw [if_pos (by omega), if_neg h, if_pos e, decide_eq_false h]
    · rw [if_neg (by omega), if_neg h, if_neg e]
theorem ii_ext {a b : Nat} (h : ∀ i, i < 32 → a.testBit i = b.testBit i) : ii a = ii b := by
  apply ii_bit
  rw [ii_nat, show (4294967296 : Nat) = 2 ^ 32 from rfl]
  refine Nat.eq_of_testBit_eq fun i => ?_
  rw [Nat.testBit_mod_two_pow, Nat.testBit_mod_two_pow]
  by_cases hi : i < 32
  · rw [h i hi]
  · rw [decide_eq_false hi, Bool.false_and, Bool.false_and]
theorem ntz32 {t q : Nat} (ht : t < 32) : d_J6_numberOfTrailingZeros_0f7a4 (ii (2 ^ (t + 1) * q + 2 ^ t)) = ii t := by
  have h0 : 0 < 2 ^ t := Nat.two_pow_pos t
  rw [ntz_f, show (-1 : Int32) = ii (2 ^ 32 - 1) by decide +kernel, ii_xor, show (1 : Int32) = ii 1 from rfl, ii_sub (by omega), ii_and, ← ntzf_i t ht]
  congr 1
  refine ii_ext fun i hi => ?_
  rw [Nat.testBit_and, Nat.testBit_xor, low_bit, low_pred, Nat.testBit_two_pow_sub_one, Nat.testBit_two_pow_sub_one, decide_eq_true hi]
  by_cases h : i < t
  · rw [if_pos h, if_pos h, decide_eq_true h]; rfl
  · rw [if_neg h, if_neg h, decide_eq_false h]
    by_cases e : i = t
    · rw [if_pos e, if_pos e]; rfl
    · rw [if_neg e, if_neg e]
      cases q.testBit (i - (t + 1)) <;> rfl
theorem lowest_i {x t q : Nat} (hx : x < 18446744073709551616) (e : x = 2 ^ (t + 1) * q + 2 ^ t) : t < 64 ∧ d_X7_lowest (ll x) = ii t := by
  have h0 : 0 < 2 ^ t := Nat.two_pow_pos t
  have ht : t < 64 := by
    apply Nat.lt_of_not_le
    intro h
    have := Nat.pow_le_pow_right (n := 2) (by decide) h
    have e2 : (2 : Nat) ^ 64 = 18446744073709551616 := by decide
    omega
  refine ⟨ht, ?_⟩
  unfold d_X7_lowest d_J13_numberOfTrailingZeros_95d88
  rw [show (32 : Int32) = ii 32 from rfl, ll_shr hx (by decide), ll_i32, ll_i32]
  by_cases h : t < 32
  · rw [if_neg, e, ntz32 h]
    intro c
    have c1 := congrArg (fun y : Int32 => y.toBitVec.toNat.testBit t) c
    simp only [ii_nat] at c1
    rw [show (4294967296 : Nat) = 2 ^ 32 from rfl, Nat.testBit_mod_two_pow, decide_eq_true h, e, low_bit, if_neg (Nat.lt_irrefl t), if_pos rfl] at c1
    exact absurd c1 (by rw [show ((0 : Int32).toBitVec.toNat) = 0 from rfl, Nat.zero_testBit]; decide)
  · have ed : x = 2 ^ 32 * (2 ^ (t - 32 + 1) * q + 2 ^ (t - 32)) := by
      rw [Nat.mul_add, ← Nat.mul_assoc, ← Nat.pow_add, ← Nat.pow_add, show 32 + (t - 32 + 1) = t + 1 by omega, show 32 + (t - 32) = t by omega]
      exact e
    have e1 : ii x = 0 := by
      show _ = ii 0
      refine ii_ext fun i hi => ?_
      rw [e, low_bit, if_pos (by omega), Nat.zero_testBit]
    have e2 : x >>> 32 = 2 ^ (t - 32 + 1) * q + 2 ^ (t - 32) := by
      rw [Nat.shiftRight_eq_div_pow]
      conv => lhs; rw [ed]
      exact Nat.mul_div_cancel_left _ (Nat.two_pow_pos 32)
    rw [if_pos e1, e2, ntz32 (by omega), ii_add]
    congr 1
    omega
/-- a set without its lowest element -/
def lwo (x : Nat) : Nat := x &&& (x - 1)
theorem lwo_lt {x : Nat} (hx : x < 18446744073709551616) : lwo x < 18446744073709551616 := Nat.lt_of_le_of_lt Nat.and_le_left hx
theorem without_i {x : Nat} (h : 0 < x) : d_X7_withoutLowest (ll x) = ll (lwo x) := by
  unfold d_X7_withoutLowest lwo
  rw [show (1 : Int64) = ll 1 from rfl, ll_sub h, ll_and]
/-- a set's lowest element, and what is left without it -/
theorem low_set {x : Nat} (hx : x < 18446744073709551616) (h : 0 < x) : ∃ t, t < 64 ∧ d_X7_lowest (ll x) = ii t ∧ x.testBit t = true ∧ (∀ i, i < t → x.testBit i = false) ∧ (∀ i, (lwo x).testBit i = (x.testBit i && !decide (i = t))) ∧ sz x = sz (lwo x) + 1 := by
  obtain ⟨t, q, e⟩ := low_ex x h
  obtain ⟨ht, hl⟩ := lowest_i hx e
  have hb : x.testBit t = true := by rw [e, low_bit, if_neg (Nat.lt_irrefl t), if_pos rfl]
  have hw : ∀ i, (lwo x).testBit i = (x.testBit i && !decide (i = t)) := fun i => by
    unfold lwo
    rw [Nat.testBit_and, e, low_bit, low_pred]
    by_cases h : i < t
    · rw [if_pos h]; rfl
    · rw [if_neg h, if_neg h]
      by_cases e : i = t
      · rw [if_pos e, if_pos e, decide_eq_true e]; rfl
      · rw [if_neg e, if_neg e, decide_eq_false e]
        cases q.testBit (i - (t + 1)) <;> rfl
  refine ⟨t, ht, hl, hb, fun i hi => by rw [e, low_bit, if_pos hi], hw, ?_⟩
  refine pc_out ht hb (by rw [hw, decide_eq_true rfl]; cases x.testBit t <;> rfl) fun i _ hn => ?_
  rw [hw, decide_eq_false hn]
  cases x.testBit i <;> rfl
