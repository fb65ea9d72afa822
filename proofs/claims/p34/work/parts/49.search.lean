/-! THE HIGHEST BIT -/
theorem sh_u32 : ∀ k, k < 32 → ((ii k).toUInt32 &&& Int32.toUInt32 31).toBitVec % 32 = BitVec.ofNat 32 k := by decide +kernel
theorem ii_shr {a k : Nat} (ha : a < 4294967296) (hk : k < 32) : jusr (ii a) (ii k) = ii (a >>> k) := ii_bit (by
  unfold jusr
  rw [UInt32.toBitVec_toInt32, UInt32.toBitVec_shiftRight, sh_u32 k hk, BitVec.ushiftRight_eq', BitVec.toNat_ushiftRight, Int32.toBitVec_toUInt32, ii_nat, BitVec.toNat_ofNat, Nat.mod_eq_of_lt (show k < 2 ^ 32 by omega), Nat.mod_eq_of_lt ha]
  exact (Nat.mod_eq_of_lt (Nat.lt_of_le_of_lt (Nat.shiftRight_le a k) ha)).symm)
def lzN (b k : Int32) (n v : Int32) : Int32 := if v < b then n else n + k
def lzV (b k : Int32) (v : Int32) : Int32 := if v < b then v else jusr v k
theorem nlz_f (v : Int32) : d_J6_numberOfLeadingZeros_0f7a4 v = if v ≤ 0 then (if v = 0 then (32 : Int32) else 0) else
    lzN 4 (-2) (lzN 16 (-4) (lzN 256 (-8) (lzN 65536 (-16) 31 v) (lzV 65536 16 v)) (lzV 256 8 (lzV 65536 16 v))) (lzV 16 4 (lzV 256 8 (lzV 65536 16 v))) - jusr (lzV 4 2 (lzV 16 4 (lzV 256 8 (lzV 65536 16 v)))) 1 := rfl
/-- one step: y below 2^(2k), of which t is the highest bit -/
theorem lz_step {b kk : Int32} {k N y t : Nat} (hb : b = ii (2 ^ k)) (hk : kk = ii k) (hk2 : k < 31) {nk : Int32} (hnk : nk = zi (-(k : Int))) (hN : k ≤ N) (hy : y < 2 ^ (2 * k)) (hy2 : y < 2147483648) (h1 : 2 ^ t ≤ y) (h2 : y < 2 ^ (t + 1)) :
    ∃ N' y' t', lzN b nk (ii N) (ii y) = ii N' ∧ lzV b kk (ii y) = ii y' ∧ y' < 2 ^ k ∧ y' < 2147483648 ∧ 2 ^ t' ≤ y' ∧ y' < 2 ^ (t' + 1) ∧ N' + t = N + t' ∧ N ≤ N' + k := by
  have hp : 2 ^ k < 2147483648 := Nat.lt_of_lt_of_le (Nat.pow_lt_pow_right (a := 2) (by decide) hk2) (by decide)
  unfold lzN lzV
  rw [hb, hk, hnk]
  by_cases c : y < 2 ^ k
  · rw [if_pos ((ii_lt hy2 hp).mpr c), if_pos ((ii_lt hy2 hp).mpr c)]
    exact ⟨N, y, t, rfl, rfl, c, hy2, h1, h2, rfl, by omega⟩
  · rw [if_neg (fun z => c ((ii_lt hy2 hp).mp z)), if_neg (fun z => c ((ii_lt hy2 hp).mp z)), ii_shr (by omega) (by omega), ← zi_ii N, zi_add]
    have ht : k ≤ t := by
      apply Nat.le_of_not_lt
      intro z
      have := Nat.pow_le_pow_right (n := 2) (by decide) (show t + 1 ≤ k from z)
      omega
    have hs : y >>> k = y / 2 ^ k := Nat.shiftRight_eq_div_pow y k
    have hpos := Nat.two_pow_pos k
    have e1 : 2 ^ t = 2 ^ k * 2 ^ (t - k) := by rw [← Nat.pow_add]; congr 1; omega
    have e2 : 2 ^ (t + 1) = 2 ^ k * 2 ^ (t - k + 1) := by rw [← Nat.pow_add]; congr 1; omega
    have e3 : 2 ^ (2 * k) = 2 ^ k * 2 ^ k := by rw [← Nat.pow_add]; congr 1; omega
    have hle := Nat.div_le_self y (2 ^ k)
    refine ⟨N - k, y >>> k, t - k, ?_, rfl, ?_, by omega, ?_, ?_, by omega, by omega⟩
    · rw [← zi_ii]
      congr 1
      omega
    · rw [hs]; exact Nat.div_lt_of_lt_mul (by omega)
    · rw [hs]; exact (Nat.le_div_iff_mul_le hpos).mpr (by rw [Nat.mul_comm]; omega)
    · rw [hs]; exact Nat.div_lt_of_lt_mul (by omega)
theorem nlz32 {y t : Nat} (ht : t < 32) (h1 : 2 ^ t ≤ y) (h2 : y < 2 ^ (t + 1)) : d_J6_numberOfLeadingZeros_0f7a4 (ii y) = ii (31 - t) := by
  rw [nlz_f]
  by_cases c : t = 31
  · subst c
    have hneg : ii y < 0 := by
      rw [show ii y = zi ((y : Int) - 4294967296) by
        rw [← zi_ii, show (y : Int) = ((y : Int) - 4294967296) + 4294967296 by omega, ← zi_add, show zi 4294967296 = 0 by decide, Int32.add_zero]
        congr 1
        omega]
      rw [zi_lt0 (by omega) (by omega)]
      omega
    rw [if_pos (Int32.le_of_lt hneg), if_neg (fun z => by rw [z] at hneg; exact absurd hneg (by decide))]
    rfl
  · have hy31 : y < 2147483648 := Nat.lt_of_lt_of_le h2 (Nat.pow_le_pow_right (n := 2) (i := t + 1) (j := 31) (by decide) (by omega))
    have hy0 := Nat.two_pow_pos t
    rw [if_neg (ii_gt0 (by omega) hy31)]
    obtain ⟨N1, y1, t1, a1, a2, a3, a4, a5, a6, a7, a8⟩ := lz_step (b := 65536) (kk := 16) (k := 16) (N := 31) (nk := -16) (by decide) (by decide) (by decide) (by decide) (by decide) (Nat.lt_of_lt_of_le hy31 (by decide)) hy31 h1 h2
    rw [show (31 : Int32) = ii 31 from rfl, a1, a2]
    obtain ⟨N2, y2, t2, b1, b2, b3, b4, b5, b6, b7, b8⟩ := lz_step (b := 256) (kk := 8) (k := 8) (N := N1) (nk := -8) (by decide) (by decide) (by decide) (by decide) (by omega) a3 a4 a5 a6
    rw [b1, b2]
    obtain ⟨N3, y3, t3, c1, c2, c3, c4, c5, c6, c7, c8⟩ := lz_step (b := 16) (kk := 4) (k := 4) (N := N2) (nk := -4) (by decide) (by decide) (by decide) (by decide) (by omega) b3 b4 b5 b6
    rw [c1, c2]
    obtain ⟨N4, y4, t4, d1, d2, d3, d4, d5, d6, d7, d8⟩ := lz_step (b := 4) (kk := 2) (k := 2) (N := N3) (nk := -2) (by decide) (by decide) (by decide) (by decide) (by omega) c3 c4 c5 c6
    rw [d1, d2, show (1 : Int32) = ii 1 from rfl, ii_shr (by omega) (by decide)]
    have h4 : y4 >>> 1 = t4 := by
      have : t4 < 2 := (Nat.pow_lt_pow_iff_right (a := 2) (by decide)).mp (Nat.lt_of_le_of_lt d5 d3)
      have d3' : y4 < 4 := d3
      rw [Nat.shiftRight_eq_div_pow]
      rcases (show t4 = 0 ∨ t4 = 1 by omega) with rfl | rfl
      · omega
      · have : 2 ≤ y4 := d5
        omega
    rw [h4, ii_sub (by omega)]
    congr 1
    omega
theorem high_i {x t : Nat} (ht : t < 64) (h1 : 2 ^ t ≤ x) (h2 : x < 2 ^ (t + 1)) : d_J13_highestOneBit_067f4 (ll x) = ll (2 ^ t) := by
  have hx : x < 18446744073709551616 := Nat.lt_of_lt_of_le h2 (Nat.pow_le_pow_right (n := 2) (i := t + 1) (j := 64) (by decide) (by omega))
  have hz : d_J13_numberOfLeadingZeros_95d88 (ll x) = ii (63 - t) := by
    unfold d_J13_numberOfLeadingZeros_95d88
    rw [show (32 : Int32) = ii 32 from rfl, ll_shr hx (by decide), ll_i32, ll_i32]
    have hs : x >>> 32 = x / 2 ^ 32 := Nat.shiftRight_eq_div_pow x 32
    by_cases c : t < 32
    · have h3 : x < 2 ^ 32 := Nat.lt_of_lt_of_le h2 (Nat.pow_le_pow_right (n := 2) (by decide) (by omega))
      have e0 : x >>> 32 = 0 := by rw [hs]; exact Nat.div_eq_of_lt h3
      rw [e0, if_pos (by decide), nlz32 c h1 h2, ii_add]
      congr 1
      omega
    · have e1 : 2 ^ t = 2 ^ 32 * 2 ^ (t - 32) := by rw [← Nat.pow_add]; congr 1; omega
      have e2 : 2 ^ (t + 1) = 2 ^ 32 * 2 ^ (t - 32 + 1) := by rw [← Nat.pow_add]; congr 1; omega
      have g1 : 2 ^ (t - 32) ≤ x >>> 32 := by rw [hs]; exact (Nat.le_div_iff_mul_le (by decide)).mpr (by rw [Nat.mul_comm]; omega)
      have g2 : x >>> 32 < 2 ^ (t - 32 + 1) := by rw [hs]; exact Nat.div_lt_of_lt_mul (by omega)
      have g3 : x >>> 32 < 4294967296 := by rw [hs]; exact Nat.div_lt_of_lt_mul (by omega)
      have hpos := Nat.two_pow_pos (t - 32)
      rw [if_neg, nlz32 (by omega) g1 g2]
      · congr 1
        omega
      · intro z
        have := congrArg (fun y : Int32 => y.toBitVec.toNat) z
        simp only [ii_nat] at this
        rw [Nat.mod_eq_of_lt g3, show ((0 : Int32).toBitVec.toNat) = 0 from rfl] at this
        omega
  unfold d_J13_highestOneBit_067f4
  rw [hz, show (-9223372036854775808 : Int64) = ll (2 ^ 63) by decide +kernel, ll_shr (by decide) (by omega), ll_and]
  congr 1
  have e3 : 2 ^ 63 >>> (63 - t) = 2 ^ t := by
    rw [Nat.shiftRight_eq_div_pow, Nat.pow_div (by omega) (by decide)]
    congr 1
    omega
  rw [e3]
  refine Nat.eq_of_testBit_eq fun i => ?_
  rw [Nat.testBit_and, Nat.testBit_two_pow]
  by_cases c : t = i
  · subst c
    rw [decide_eq_true rfl, Bool.and_true]
    have : x = 2 ^ t * 1 + (x - 2 ^ t) := by omega
    rw [this, Nat.testBit_two_pow_mul_add _ (by rw [Nat.pow_succ] at h2; omega), if_neg (Nat.lt_irrefl t), Nat.sub_self]
    rfl
  · rw [decide_eq_false c, Bool.and_false]
