/-! PARTS OF THE ROW: how the class library counts an int's bits, sums of parts, the least zero part -/
def bi1 (v : Int32) : Int32 := v - ((jusr v (1 : Int32)) &&& (1431655765 : Int32))
def bi2 (v : Int32) : Int32 := (v &&& (858993459 : Int32)) + ((jusr v (2 : Int32)) &&& (858993459 : Int32))
def bi3 (v : Int32) : Int32 := (v + (jusr v (4 : Int32))) &&& (252645135 : Int32)
def bi4 (v : Int32) : Int32 := v + (jusr v (8 : Int32))
def bi5 (v : Int32) : Int32 := v + (jusr v (16 : Int32))
theorem bi_eq (v : Int32) : d_J6_bitCount_0f7a4 v = (bi5 (bi4 (bi3 (bi2 (bi1 v)))) &&& (63 : Int32)) := rfl
theorem bic1 : (1431655765 : Int32) = ii (rep 5 8) := by decide +kernel
theorem bic2 : (858993459 : Int32) = ii (rep 3 8) := by decide +kernel
theorem bic3 : (252645135 : Int32) = ii (val [15, 0, 15, 0, 15, 0, 15, 0]) := by decide +kernel
theorem bi1_i {x r : Nat} (hx : x < 4294967296) (hr : rep 5 8 = r) : bi1 (ii x) = ii (x - ((x >>> 1) &&& r)) := by
  have l1 : (x >>> 1) &&& r ≤ x := Nat.le_trans Nat.and_le_left (Nat.shiftRight_le x 1)
  unfold bi1
  rw [bic1, hr, show (1 : Int32) = ii 1 from rfl, ii_shr hx (by decide), ii_and, ii_sub l1]
theorem bi2_i {x r : Nat} (hx : x < 4294967296) (hr : rep 3 8 = r) : bi2 (ii x) = ii ((x &&& r) + ((x >>> 2) &&& r)) := by
  unfold bi2
  rw [bic2, hr, show (2 : Int32) = ii 2 from rfl, ii_shr hx (by decide), ii_and, ii_and, ii_add]
theorem bi3_i {x r : Nat} (hx : x < 4294967296) (hr : val [15, 0, 15, 0, 15, 0, 15, 0] = r) : bi3 (ii x) = ii ((x + x / 16) &&& r) := by
  unfold bi3
  rw [bic3, hr, show (4 : Int32) = ii 4 from rfl, ii_shr hx (by decide), ii_add, ii_and, Nat.shiftRight_eq_div_pow]
theorem bi4_i {x : Nat} (hx : x < 4294967296) : bi4 (ii x) = ii (x + x / 256) := by
  unfold bi4
  rw [show (8 : Int32) = ii 8 from rfl, ii_shr hx (by decide), ii_add, Nat.shiftRight_eq_div_pow]
theorem bi5_i {x : Nat} (hx : x < 4294967296) : (bi5 (ii x) &&& (63 : Int32)) = ii ((x + x / 65536) % 64) := by
  unfold bi5
  rw [show (16 : Int32) = ii 16 from rfl, ii_shr hx (by decide), ii_add, Nat.shiftRight_eq_div_pow, show (63 : Int32) = ii 63 from rfl, ii_and, show (63 : Nat) = 2 ^ 6 - 1 from rfl, Nat.and_two_pow_sub_one_eq_mod]
theorem nib8 (x : Nat) : ∃ p : Nat → Nat, (∀ i, p i ≤ 4) ∧ val ((nibs x 8).map p4) = val ((List.range 8).map p) ∧ pc x.testBit 32 = p 0 + p 1 + p 2 + p 3 + p 4 + p 5 + p 6 + p 7 := by
  refine ⟨fun i => p4 (x / 16 ^ i % 16), fun i => p4_le _ (Nat.mod_lt _ (by decide)), ?_, ?_⟩
  · have h : ∀ n k : Nat, nibs (x / 16 ^ k) n = (List.range' k n).map fun i => x / 16 ^ i % 16 := by
      intro n
      induction n with
      | zero => intro k; rfl
      | succ n ih =>
        intro k
        show x / 16 ^ k % 16 :: nibs (x / 16 ^ k / 16) n = x / 16 ^ k % 16 :: (List.range' (k + 1) n).map _
        rw [Nat.div_div_eq_div_mul, ← Nat.pow_succ, ih (k + 1)]
    have h0 := h 8 0
    rw [Nat.pow_zero, Nat.div_one] at h0
    rw [h0, List.map_map, List.range_eq_range']
    rfl
  · have h : ∀ k n : Nat, pc (x / 16 ^ k).testBit (4 * (n + 1)) = p4 (x / 16 ^ k % 16) + pc (x / 16 ^ (k + 1)).testBit (4 * n) := by
      intro k n
      rw [pc_nib, Nat.div_div_eq_div_mul, ← Nat.pow_succ]
    have h0 : pc x.testBit 32 = pc (x / 16 ^ 0).testBit (4 * (7 + 1)) := by rw [Nat.pow_zero, Nat.div_one]
    rw [h0, h 0 7, h 1 6, h 2 5, h 3 4, h 4 3, h 5 2, h 6 1, h 7 0]
    show _ = _
    simp only [Nat.mul_zero, pc, Nat.add_zero, Nat.add_assoc]
theorem swar3_8 (p : Nat → Nat) (h : ∀ i, p i ≤ 4) : ∃ q : Nat → Nat, (∀ i, q i ≤ 8) ∧ ((val ((List.range 8).map p) + val ((List.range 8).map p) / 16) &&& val [15, 0, 15, 0, 15, 0, 15, 0]) = vB 256 [q 0, q 1, q 2, q 3] ∧ q 0 + q 1 + q 2 + q 3 = p 0 + p 1 + p 2 + p 3 + p 4 + p 5 + p 6 + p 7 := by
  have e : val ((List.range 8).map p) + val ((List.range 8).map p) / 16 = val [p 0 + p 1, p 1 + p 2, p 2 + p 3, p 3 + p 4, p 4 + p 5, p 5 + p 6, p 6 + p 7, p 7] := by
    have d0 : (List.range 8).map p = [p 0, p 1, p 2, p 3, p 4, p 5, p 6, p 7] := rfl
    rw [d0, val_vB, val_vB, vB_div (by have := h 0; omega), vB_addl]
    rfl
  have hs : ∀ i j, p i + p j < 16 := fun i j => by have := h i; have := h j; omega
  refine ⟨fun i => p (2 * i) + p (2 * i + 1), fun i => by have := h (2 * i); have := h (2 * i + 1); show p (2 * i) + p (2 * i + 1) ≤ 8; omega, ?_, ?_⟩
  · have q0 := val_and [p 0 + p 1, p 1 + p 2, p 2 + p 3, p 3 + p 4, p 4 + p 5, p 5 + p 6, p 6 + p 7, p 7] [15, 0, 15, 0, 15, 0, 15, 0] (by
      have := h 7
      simp only [List.forall_mem_cons, List.not_mem_nil, false_implies, implies_true, hs, true_and, and_true]
      omega) (by decide) rfl
    rw [e, q0]
    show val [(p 0 + p 1) &&& 15, (p 1 + p 2) &&& 0, (p 2 + p 3) &&& 15, (p 3 + p 4) &&& 0, (p 4 + p 5) &&& 15, (p 5 + p 6) &&& 0, (p 6 + p 7) &&& 15, p 7 &&& 0] = _
    simp only [Nat.and_zero, and15 _ (hs _ _)]
    rw [val_vB]
    simp only [vB_two]
    rfl
  · show (p 0 + p 1) + (p 2 + p 3) + (p 4 + p 5) + (p 6 + p 7) = _
    omega
theorem swar4_8 (a b c d x y z : Nat) (h0 : a ≤ 8) (h1 : b ≤ 8) (h2 : c ≤ 8) (h3 : d ≤ 8) (hx : x = vB 256 [a, b, c, d]) (hy : y = x + x / 256) (hz : z = y + y / 65536) : z % 64 = a + b + c + d ∧ x < 4294967296 ∧ y < 4294967296 := by
  have e1 : y = vB 256 [a + b, b + c, c + d, d] := by
    rw [hy, hx, vB_div (by omega), vB_addl]
    rfl
  have e2 : z = vB 256 [a + b + (c + d), b + c + d, c + d, d] := by
    rw [hz, e1, show (65536 : Nat) = 256 * 256 from rfl, ← Nat.div_div_eq_div_mul, vB_div (by omega), vB_div (by omega), vB_addl]
    rfl
  refine ⟨?_, ?_, ?_⟩
  · rw [e2]
    show (a + b + (c + d) + 256 * vB 256 _) % 64 = _
    generalize vB 256 _ = R
    omega
  · rw [hx]
    show a + 256 * (b + 256 * (c + 256 * (d + 256 * 0))) < _
    omega
  · rw [e1]
    show a + b + 256 * (b + c + 256 * (c + d + 256 * (d + 256 * 0))) < _
    omega
theorem bitCount32_i {x : Nat} (hx : x < 4294967296) : d_J6_bitCount_0f7a4 (ii x) = ii (sz x) := by
  obtain ⟨-, s2⟩ := swar2 (n := 8) hx
  obtain ⟨p, hp, hv, hs⟩ := nib8 x
  obtain ⟨q, hq, hr, hsum⟩ := swar3_8 p hp
  rw [hv] at s2
  have bv : val ((List.range 8).map p) < 4294967296 := by
    have g0 := hp 0; have g1 := hp 1; have g2 := hp 2; have g3 := hp 3; have g4 := hp 4; have g5 := hp 5; have g6 := hp 6; have g7 := hp 7
    show p 0 + 16 * (p 1 + 16 * (p 2 + 16 * (p 3 + 16 * (p 4 + 16 * (p 5 + 16 * (p 6 + 16 * (p 7 + 16 * 0))))))) < _
    omega
  obtain ⟨f1, g1, g2⟩ := swar4_8 (q 0) (q 1) (q 2) (q 3) _ _ _ (hq 0) (hq 1) (hq 2) (hq 3) rfl rfl rfl
  generalize vB 256 [q 0, q 1, q 2, q 3] = X at hr f1 g1 g2
  generalize val ((List.range 8).map p) = V at s2 hr bv
  generalize h5 : rep 5 8 = r5 at s2
  generalize h3 : rep 3 8 = r3 at s2
  generalize h15 : val [15, 0, 15, 0, 15, 0, 15, 0] = r15 at hr
  have b1 : x - ((x >>> 1) &&& r5) < 4294967296 := Nat.lt_of_le_of_lt (Nat.sub_le _ _) hx
  have e : sz x = pc x.testBit 32 := sz_to (n := 32) hx (by decide)
  rw [bi_eq, bi1_i hx h5, bi2_i b1 h3, s2, bi3_i bv h15, hr, bi4_i g1, bi5_i g2, f1, e, hs, ← hsum]
/-- the sum of a part's first places -/
def rsum (m n : Nat) (q : Nat → Nat) (part : Nat) : Nat → Nat
  | 0 => 0
  | k + 1 => if part.testBit k then ad m n (rsum m n q part k) (q k) else rsum m n q part k
theorem rsum_lt {m n : Nat} (hm : 0 < m) (hn : 0 < n) (q : Nat → Nat) (part : Nat) : ∀ k, rsum m n q part k < m * n
  | 0 => Nat.mul_pos hm hn
  | k + 1 => by
    show (if part.testBit k then _ else _) < _
    split
    · exact ad_lt hm hn _ _
    · exact rsum_lt hm hn q part k
theorem rsum_none {m n : Nat} {q : Nat → Nat} {part : Nat} : ∀ k, (∀ i, i < k → part.testBit i = false) → rsum m n q part k = 0
  | 0, _ => rfl
  | k + 1, h => by
    show (if part.testBit k then _ else _) = _
    rw [h k (by omega), if_neg (by decide)]
    exact rsum_none k fun i hi => h i (by omega)
theorem rsum_low {m n : Nat} (hm : 0 < m) (hn : 0 < n) {q : Nat → Nat} {part t : Nat} (hq : q t < m * n) (h1 : part.testBit t = true) (h2 : ∀ i, i < t → part.testBit i = false) (h3 : ∀ i, (lwo part).testBit i = (part.testBit i && !decide (i = t))) : ∀ d, rsum m n q part (t + 1 + d) = ad m n (rsum m n q (lwo part) (t + 1 + d)) (q t)
  | 0 => by
    have a1 : rsum m n q (lwo part) (t + 1) = 0 := rsum_none _ fun i hi => by
      rw [h3]
      by_cases c : i = t
      · rw [decide_eq_true c]; cases part.testBit i <;> rfl
      · rw [h2 i (by omega)]; rfl
    show (if part.testBit t then ad m n (rsum m n q part t) (q t) else _) = ad m n (rsum m n q (lwo part) (t + 1)) (q t)
    rw [h1, if_pos rfl, a1, rsum_none t h2]
  | d + 1 => by
    have ih := rsum_low hm hn hq h1 h2 h3 d
    have hb : (lwo part).testBit (t + 1 + d) = part.testBit (t + 1 + d) := by
      rw [h3, decide_eq_false (by omega)]
      cases part.testBit (t + 1 + d) <;> rfl
    show (if part.testBit (t + 1 + d) then ad m n (rsum m n q part (t + 1 + d)) (q (t + 1 + d)) else rsum m n q part (t + 1 + d)) = ad m n (if (lwo part).testBit (t + 1 + d) then ad m n (rsum m n q (lwo part) (t + 1 + d)) (q (t + 1 + d)) else rsum m n q (lwo part) (t + 1 + d)) (q t)
    rw [hb]
    split
    · rw [ih, ad_assoc hn, ad_comm (q t), ← ad_assoc hn]
    · exact ih
/-- the best zero part among those below a number -/
def zb (m n : Nat) (q : Nat → Nat) (r : Nat) : Nat → Nat
  | 0 => 0
  | k + 1 => if k ≠ 0 ∧ rsum m n q k r = 0 ∧ (zb m n q r k = 0 ∨ sz k < sz (zb m n q r k)) then k else zb m n q r k
theorem zb_le {m n : Nat} {q : Nat → Nat} {r : Nat} : ∀ k, zb m n q r k ≤ k
  | 0 => Nat.le_refl 0
  | k + 1 => by
    have := zb_le (m := m) (n := n) (q := q) (r := r) k
    show (if _ then k else _) ≤ _
    split <;> omega
section Cas
variable {M : Mem} {m n c : Nat} {a : Nat → Nat} {r : Nat} {q : Nat → Nat} {p w : Nat}
theorem czero_i (h : InvP M m n c a r q p w) : ∃ D, d_X3_leastZeroPart M = some (.inl (some (.int (ii (zb m n q r (2 ^ r))))), D) ∧ Wk M D := by
  obtain ⟨hr12, hr1, hr2, hr3, hr4⟩ := h.2.2.2.1
  have hm := h.1.1
  have hn := h.1.2.1
  have hN := h.1.2.2.1
  have hp : 2 ^ r ≤ 2 ^ 12 := Nat.pow_le_pow_right (by decide) hr12
  have hp0 := Nat.two_pow_pos r
  have hcnt : jsl (1 : Int32) (jmin (M.1 14 2) (12 : Int32)) = ii (2 ^ r) := by
    rw [hr1, show (12 : Int32) = ii 12 from rfl, jmin_i hr12 (by decide), jsl_i _ (by omega)]
  refine k_ex (fun b e1 e2 => ?_) (it_loop (g := g_X3_leastZeroPart_1 M) (2 ^ r - 1) (fun k x => ∃ D : Mem, x = (ii (zb m n q r (k + 1)), ii (k + 1), D) ∧ Wk M D ∧ ∀ s, s < k + 1 → D.1 16 s = ii (rsum m n q s r))
    (fun x => ∃ D y, x = .inl (ii (zb m n q r (2 ^ r)), y, D) ∧ Wk M D) (a := ((0 : Int32), (1 : Int32), M)) (by omega) ⟨M, rfl, Wk.rf M, fun s hs => by
      have : s = 0 := by omega
      rw [this, hr3, rsum_none r fun i _ => Nat.zero_testBit i]
      rfl⟩ ?_ ?_)
  · obtain ⟨D, y, rfl, hw⟩ := e2
    refine ⟨D, ?_, hw⟩
    unfold d_X3_leastZeroPart
    rw [e1]
    rfl
  · rintro k x hk ⟨D, rfl, hw, hD⟩
    have hG := h.w hw
    obtain ⟨-, -, -, -, hq⟩ := hG.2.2.2.1
    generalize hpart : k + 1 = part at hD ⊢
    have hp1 : 0 < part := by omega
    have hp2 : part < 2 ^ r := by omega
    obtain ⟨t, qq, e⟩ := low_ex part hp1
    have hbt : part.testBit t = true := by rw [e, low_bit, if_neg (Nat.lt_irrefl t), if_pos rfl]
    have hbl : ∀ i, i < t → part.testBit i = false := fun i hi => by rw [e, low_bit, if_pos hi]
    have htr : t < r := tb_lt hp2 hbt
    have hw3 : ∀ i, (lwo part).testBit i = (part.testBit i && !decide (i = t)) := fun i => by
      unfold lwo
      rw [Nat.testBit_and, e, low_bit, low_pred]
      by_cases c : i < t
      · rw [if_pos c]; rfl
      · rw [if_neg c, if_neg c]
        by_cases c2 : i = t
        · rw [if_pos c2, if_pos c2, decide_eq_true c2]; rfl
        · rw [if_neg c2, if_neg c2, decide_eq_false c2]
          cases qq.testBit (i - (t + 1)) <;> rfl
    have hlw : lwo part < part := by
      have : lwo part ≤ part - 1 := Nat.and_le_right
      omega
    have hqt : q t < m * n := (hq t htr).2.2
    have hs : rsum m n q part r = ad m n (rsum m n q (lwo part) r) (q t) := by
      have := rsum_low hm hn hqt hbt hbl hw3 (r - (t + 1))
      rwa [show t + 1 + (r - (t + 1)) = r by omega] at this
    have hsl := rsum_lt hm hn q (lwo part) r
    have hsp := rsum_lt hm hn q part r
    have e16 : d_X7_at 16 4096 (ii part &&& (ii part - (1 : Int32))) D = ii (rsum m n q (lwo part) r) := by
      rw [show (1 : Int32) = ii 1 from rfl, ii_sub hp1, ii_and]
      show d_X7_at 16 4096 (ii (lwo part)) D = _
      unfold d_X7_at
      rw [if_neg (ii_lt0 (by omega)), if_pos (by rw [show (4096 : Int32) = ii 4096 from rfl, ii_lt (by omega) (by decide)]; omega), ii_ix (by omega), hD _ hlw]
    have e15 : d_X7_at 15 12 (d_J6_numberOfTrailingZeros_0f7a4 (ii part)) D = ii (q t) := by
      rw [show d_J6_numberOfTrailingZeros_0f7a4 (ii part) = ii t by rw [e]; exact ntz32 (by omega)]
      unfold d_X7_at
      rw [if_neg (ii_lt0 (by omega)), if_pos (by rw [show (12 : Int32) = ii 12 from rfl, ii_lt (by omega) (by decide)]; omega), ii_ix (by omega), (hq t htr).1]
    have lay : ∀ v : Int32, d_X7_lay 16 4096 (ii part) v D = sI D 16 part v := fun v => by
      unfold d_X7_lay
      rw [if_neg (ii_lt0 (by omega)), if_pos (by rw [show (4096 : Int32) = ii 4096 from rfl, ii_lt (by omega) (by decide)]; omega), ii_ix (by omega)]
    have hz := zb_le (m := m) (n := n) (q := q) (r := r) part
    unfold g_X3_leastZeroPart_1
    dsimp only
    rw [hcnt, if_pos ((ii_lt (by omega) (by omega)).mpr hp2), e16, e15, plus_i hG.1 hsl hqt, ← hs, lay, bitCount32_i (by omega), bitCount32_i (by omega), ii_inc]
    refine Or.inl ⟨_, rfl, sI D 16 part (ii (rsum m n q part r)), ?_, hw.i (by unfold wk; omega), fun s hs1 => ?_⟩
    · congr 1
      show _ = ii (if part ≠ 0 ∧ rsum m n q part r = 0 ∧ (zb m n q r part = 0 ∨ sz part < sz (zb m n q r part)) then part else zb m n q r part)
      by_cases c1 : rsum m n q part r = 0
      · rw [if_pos (by rw [c1]; rfl)]
        by_cases c2 : zb m n q r part = 0
        · rw [if_pos (by rw [c2]; rfl), if_pos ⟨by omega, c1, Or.inl c2⟩]
        · rw [if_neg (ii_ne0 (by omega) (by omega))]
          have l1 := sz_le part
          have l2 := sz_le (zb m n q r part)
          by_cases c3 : sz part < sz (zb m n q r part)
          · rw [if_pos ((ii_lt (by omega) (by omega)).mpr c3), if_pos ⟨by omega, c1, Or.inr c3⟩]
          · rw [if_neg (fun z => c3 ((ii_lt (by omega) (by omega)).mp z)), if_neg (by omega)]
      · rw [if_neg (ii_ne0 (Nat.pos_of_ne_zero c1) (by omega)), if_neg (fun z => c1 z.2.1)]
    · by_cases c : s = part
      · rw [c, sI_at]
      · rw [sI_ne _ _ (fun z => c z.2)]
        exact hD s (by omega)
  · rintro x ⟨D, rfl, hw, hD⟩
    have e : 2 ^ r - 1 + 1 = 2 ^ r := by omega
    rw [e]
    unfold g_X3_leastZeroPart_1
    dsimp only
    rw [hcnt, if_neg (by rw [ii_lt (by omega) (by omega)]; omega)]
    exact ⟨_, rfl, D, _, rfl, hw⟩
end Cas
