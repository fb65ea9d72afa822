/-! HOW MANY BITS a long has, as the class library counts them -/
theorem val_and : ∀ (l m : List Nat), (∀ b ∈ l, b < 16) → (∀ b ∈ m, b < 16) → l.length = m.length → val l &&& val m = val (List.zipWith (fun a b => a &&& b) l m)
  | [], [], _, _, _ => rfl
  | [], _ :: _, _, _, h => by cases h
  | _ :: _, [], _, _, h => by cases h
  | a :: l, b :: m, h1, h2, h => by
    show (a + 16 * val l) &&& (b + 16 * val m) = (a &&& b) + 16 * val (List.zipWith (fun a b => a &&& b) l m)
    rw [and_nib _ _ _ _ (h1 a List.mem_cons_self) (h2 b List.mem_cons_self), val_and l m (fun c hc => h1 c (List.mem_cons_of_mem _ hc)) (fun c hc => h2 c (List.mem_cons_of_mem _ hc)) (Nat.succ.inj h)]
theorem and15 : ∀ a, a < 16 → a &&& 15 = a := by decide +kernel
theorem ii_bit {x : Int32} {n : Nat} (h : x.toBitVec.toNat = n % 4294967296) : x = ii n := by
  apply Int32.toBitVec_inj.mp
  apply BitVec.eq_of_toNat_eq
  rw [h]
  show _ = (BitVec.ofNat 32 n).toNat
  rw [BitVec.toNat_ofNat]
theorem ii_nat (a : Nat) : (ii a).toBitVec.toNat = a % 4294967296 := by
  show (BitVec.ofNat 32 a).toNat = _
  rw [BitVec.toNat_ofNat]
theorem ii_and (a b : Nat) : ii a &&& ii b = ii (a &&& b) := ii_bit (by
  rw [Int32.toBitVec_and, BitVec.toNat_and, ii_nat, ii_nat]
  exact (Nat.and_mod_two_pow (n := 32)).symm)
theorem ii_or (a b : Nat) : ii a ||| ii b = ii (a ||| b) := ii_bit (by
  rw [Int32.toBitVec_or, BitVec.toNat_or, ii_nat, ii_nat]
  exact (Nat.or_mod_two_pow (n := 32)).symm)
theorem ii_xor (a b : Nat) : ii a ^^^ ii b = ii (a ^^^ b) := ii_bit (by
  rw [Int32.toBitVec_xor, BitVec.toNat_xor, ii_nat, ii_nat]
  exact (Nat.xor_mod_two_pow (n := 32)).symm)
/-- the sixteen nibbles' counts -/
theorem nib16 (x : Nat) : ∃ p : Nat → Nat, (∀ i, p i ≤ 4) ∧ val ((nibs x 16).map p4) = val ((List.range 16).map p) ∧ sz x = p 0 + p 1 + p 2 + p 3 + p 4 + p 5 + p 6 + p 7 + p 8 + p 9 + p 10 + p 11 + p 12 + p 13 + p 14 + p 15 := by
  refine ⟨fun i => p4 (x / 16 ^ i % 16), fun i => p4_le _ (Nat.mod_lt _ (by decide)), ?_, ?_⟩
  · have h : ∀ n k : Nat, nibs (x / 16 ^ k) n = (List.range' k n).map fun i => x / 16 ^ i % 16 := by
      intro n
      induction n with
      | zero => intro k; rfl
      | succ n ih =>
        intro k
        show x / 16 ^ k % 16 :: nibs (x / 16 ^ k / 16) n = x / 16 ^ k % 16 :: (List.range' (k + 1) n).map _
        rw [Nat.div_div_eq_div_mul, ← Nat.pow_succ, ih (k + 1)]
    have h0 := h 16 0
    rw [Nat.pow_zero, Nat.div_one] at h0
    rw [h0, List.map_map, List.range_eq_range']
    rfl
  · have h : ∀ k n : Nat, pc (x / 16 ^ k).testBit (4 * (n + 1)) = p4 (x / 16 ^ k % 16) + pc (x / 16 ^ (k + 1)).testBit (4 * n) := by
      intro k n
      rw [pc_nib, Nat.div_div_eq_div_mul, ← Nat.pow_succ]
    have h0 : sz x = pc (x / 16 ^ 0).testBit (4 * (15 + 1)) := by rw [Nat.pow_zero, Nat.div_one]; rfl
    rw [h0, h 0 15, h 1 14, h 2 13, h 3 12, h 4 11, h 5 10, h 6 9, h 7 8, h 8 7, h 9 6, h 10 5, h 11 4, h 12 3, h 13 2, h 14 1, h 15 0]
    show _ = _
    simp only [Nat.mul_zero, pc, Nat.add_zero, Nat.add_assoc]
/-- figures of a base -/
def vB (B : Nat) : List Nat → Nat
  | [] => 0
  | b :: l => b + B * vB B l
def addl : List Nat → List Nat → List Nat
  | [], m => m
  | a :: l, [] => a :: l
  | a :: l, b :: m => (a + b) :: addl l m
theorem vB_addl (B : Nat) : ∀ l m, vB B l + vB B m = vB B (addl l m)
  | [], m => Nat.zero_add _
  | a :: l, [] => rfl
  | a :: l, b :: m => by
    show a + B * vB B l + (b + B * vB B m) = a + b + B * vB B (addl l m)
    rw [← vB_addl B l m, Nat.mul_add]
    omega
theorem vB_div {B a : Nat} (h : a < B) (l : List Nat) : vB B (a :: l) / B = vB B l := by
  show (a + B * vB B l) / B = _
  rw [Nat.add_mul_div_left _ _ (by omega), Nat.div_eq_of_lt h, Nat.zero_add]
theorem val_vB : ∀ l, val l = vB 16 l
  | [] => rfl
  | b :: l => by
    show b + 16 * val l = b + 16 * vB 16 l
    rw [val_vB l]
theorem vB_two (a : Nat) (l : List Nat) : vB 16 (a :: 0 :: l) = a + 256 * vB 16 l := by
  show a + 16 * (0 + 16 * vB 16 l) = _
  omega
theorem swar3 (p : Nat → Nat) (h : ∀ i, p i ≤ 4) : ∃ q : Nat → Nat, (∀ i, q i ≤ 8) ∧ ((val ((List.range 16).map p) + val ((List.range 16).map p) / 16) &&& val [15, 0, 15, 0, 15, 0, 15, 0, 15, 0, 15, 0, 15, 0, 15, 0]) = vB 256 [q 0, q 1, q 2, q 3, q 4, q 5, q 6, q 7] ∧ q 0 + q 1 + q 2 + q 3 + q 4 + q 5 + q 6 + q 7 = p 0 + p 1 + p 2 + p 3 + p 4 + p 5 + p 6 + p 7 + p 8 + p 9 + p 10 + p 11 + p 12 + p 13 + p 14 + p 15 := by
  have e : val ((List.range 16).map p) + val ((List.range 16).map p) / 16 = val [p 0 + p 1, p 1 + p 2, p 2 + p 3, p 3 + p 4, p 4 + p 5, p 5 + p 6, p 6 + p 7, p 7 + p 8, p 8 + p 9, p 9 + p 10, p 10 + p 11, p 11 + p 12, p 12 + p 13, p 13 + p 14, p 14 + p 15, p 15] := by
    have d0 : (List.range 16).map p = [p 0, p 1, p 2, p 3, p 4, p 5, p 6, p 7, p 8, p 9, p 10, p 11, p 12, p 13, p 14, p 15] := rfl
    rw [d0, val_vB, val_vB, vB_div (by have := h 0; omega), vB_addl]
    rfl
  have hs : ∀ i j, p i + p j < 16 := fun i j => by have := h i; have := h j; omega
  refine ⟨fun i => p (2 * i) + p (2 * i + 1), fun i => by have := h (2 * i); have := h (2 * i + 1); show p (2 * i) + p (2 * i + 1) ≤ 8; omega, ?_, ?_⟩
  · have q0 := val_and [p 0 + p 1, p 1 + p 2, p 2 + p 3, p 3 + p 4, p 4 + p 5, p 5 + p 6, p 6 + p 7, p 7 + p 8, p 8 + p 9, p 9 + p 10, p 10 + p 11, p 11 + p 12, p 12 + p 13, p 13 + p 14, p 14 + p 15, p 15] [15, 0, 15, 0, 15, 0, 15, 0, 15, 0, 15, 0, 15, 0, 15, 0] (by
      have := h 15
      simp only [List.forall_mem_cons, List.not_mem_nil, false_implies, implies_true, hs, true_and, and_true]
      omega) (by decide) rfl
    rw [e, q0]
    show val [(p 0 + p 1) &&& 15, (p 1 + p 2) &&& 0, (p 2 + p 3) &&& 15, (p 3 + p 4) &&& 0, (p 4 + p 5) &&& 15, (p 5 + p 6) &&& 0, (p 6 + p 7) &&& 15, (p 7 + p 8) &&& 0, (p 8 + p 9) &&& 15, (p 9 + p 10) &&& 0, (p 10 + p 11) &&& 15, (p 11 + p 12) &&& 0, (p 12 + p 13) &&& 15, (p 13 + p 14) &&& 0, (p 14 + p 15) &&& 15, p 15 &&& 0] = _
    simp only [Nat.and_zero, and15 _ (hs _ _)]
    rw [val_vB]
    simp only [vB_two]
    rfl
  · show (p 0 + p 1) + (p 2 + p 3) + (p 4 + p 5) + (p 6 + p 7) + (p 8 + p 9) + (p 10 + p 11) + (p 12 + p 13) + (p 14 + p 15) = _
    omega
theorem vB_lt {B : Nat} : ∀ (l : List Nat), (∀ b ∈ l, b < B) → vB B l < B ^ l.length
  | [], _ => Nat.one_pos
  | b :: l, h => by
    have h1 := h b List.mem_cons_self
    have h2 := vB_lt l fun c hc => h c (List.mem_cons_of_mem _ hc)
    show b + B * vB B l < B ^ (l.length + 1)
    have h3 : B * (vB B l + 1) ≤ B * B ^ l.length := Nat.mul_le_mul_left B h2
    rw [Nat.mul_add, Nat.mul_one] at h3
    rw [Nat.pow_succ, Nat.mul_comm (B ^ l.length)]
    omega
theorem vB_lt8 {l : List Nat} (hl : l.length = 8) (h : ∀ b ∈ l, b < 256) : vB 256 l < 18446744073709551616 := by
  have h1 := vB_lt l h
  rw [hl] at h1
  have e : (256 : Nat) ^ 8 = 18446744073709551616 := by decide +kernel
  omega
theorem vB_lt16 {l : List Nat} (hl : l.length = 16) (h : ∀ b ∈ l, b < 16) : vB 16 l < 18446744073709551616 := by
  have h1 := vB_lt l h
  rw [hl] at h1
  have e : (16 : Nat) ^ 16 = 18446744073709551616 := by decide +kernel
  omega
theorem swar4 (a b c d e f g h x y z w : Nat) (h0 : a ≤ 8) (h1 : b ≤ 8) (h2 : c ≤ 8) (h3 : d ≤ 8) (h4 : e ≤ 8) (h5 : f ≤ 8) (h6 : g ≤ 8) (h7 : h ≤ 8) (hx : x = vB 256 [a, b, c, d, e, f, g, h]) (hy : y = x + x / 256) (hz : z = y + y / 65536) (hw : w = z + z / 4294967296) : w % 128 = a + b + c + d + e + f + g + h ∧ x < 18446744073709551616 ∧ y < 18446744073709551616 ∧ z < 18446744073709551616 := by
  have e1 : y = vB 256 [a + b, b + c, c + d, d + e, e + f, f + g, g + h, h] := by
    rw [hy, hx, vB_div (by omega), vB_addl]
    rfl
  have e2 : z = vB 256 [a + b + (c + d), b + c + (d + e), c + d + (e + f), d + e + (f + g), e + f + (g + h), f + g + h, g + h, h] := by
    rw [hz, e1, show (65536 : Nat) = 256 * 256 from rfl, ← Nat.div_div_eq_div_mul, vB_div (by omega), vB_div (by omega), vB_addl]
    rfl
  have e3 : z / 4294967296 = vB 256 [e + f + (g + h), f + g + h, g + h, h] := by
    rw [e2, show (4294967296 : Nat) = 256 * 256 * 256 * 256 from rfl, ← Nat.div_div_eq_div_mul, ← Nat.div_div_eq_div_mul, ← Nat.div_div_eq_div_mul, vB_div (by omega), vB_div (by omega), vB_div (by omega), vB_div (by omega)]
  have e4 : w = vB 256 [a + b + (c + d) + (e + f + (g + h)), b + c + (d + e) + (f + g + h), c + d + (e + f) + (g + h), d + e + (f + g) + h, e + f + (g + h), f + g + h, g + h, h] := by
    rw [hw, e3, e2, vB_addl]
    rfl
  refine ⟨?_, ?_, ?_, ?_⟩
  · rw [e4]
    show (a + b + (c + d) + (e + f + (g + h)) + 256 * vB 256 _) % 128 = _
    generalize vB 256 _ = R
    omega
  · rw [hx]
    exact vB_lt8 (l := [a, b, c, d, e, f, g, h]) rfl (by simp only [List.forall_mem_cons, List.not_mem_nil, false_implies, implies_true, and_true]; omega)
  · rw [e1]
    exact vB_lt8 (l := [a + b, b + c, c + d, d + e, e + f, f + g, g + h, h]) rfl (by simp only [List.forall_mem_cons, List.not_mem_nil, false_implies, implies_true, and_true]; omega)
  · rw [e2]
    exact vB_lt8 (l := [a + b + (c + d), b + c + (d + e), c + d + (e + f), d + e + (f + g), e + f + (g + h), f + g + h, g + h, h]) rfl (by simp only [List.forall_mem_cons, List.not_mem_nil, false_implies, implies_true, and_true]; omega)
