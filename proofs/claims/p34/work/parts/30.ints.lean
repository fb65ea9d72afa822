/-! NUMBERS: ints as naturals, longs as naturals of 64 bits -/
def ii (n : Nat) : Int32 := Int32.ofNat n
def ll (n : Nat) : Int64 := Int64.ofNat n
theorem ii_add (a b : Nat) : ii a + ii b = ii (a + b) := (Int32.ofNat_add a b).symm
theorem ii_mul (a b : Nat) : ii a * ii b = ii (a * b) := (Int32.ofNat_mul a b).symm
theorem ii_toInt {a : Nat} (h : a < 2147483648) : (ii a).toInt = a := Int32.toInt_ofNat_of_lt h
theorem ii_lt {a b : Nat} (ha : a < 2147483648) (hb : b < 2147483648) : ii a < ii b ↔ a < b := Int32.ofNat_lt_iff_lt ha hb
theorem ii_le {a b : Nat} (ha : a < 2147483648) (hb : b < 2147483648) : ii a ≤ ii b ↔ a ≤ b := Int32.ofNat_le_iff_le ha hb
theorem ii_eq {a b : Nat} (ha : a < 2147483648) (hb : b < 2147483648) : ii a = ii b ↔ a = b :=
  ⟨fun h => by have := congrArg Int32.toInt h; rw [ii_toInt ha, ii_toInt hb] at this; omega, fun h => h ▸ rfl⟩
theorem ii_sub {a b : Nat} (h : b ≤ a) : ii a - ii b = ii (a - b) := (Int32.ofNat_sub a b h).symm
theorem ii_div {a b : Nat} (ha : a < 2147483648) (hb : b < 2147483648) : ii a / ii b = ii (a / b) := (Int32.ofNat_div ha hb).symm
theorem ii_0 : (0 : Int32) = ii 0 := rfl
theorem ii_1 : (1 : Int32) = ii 1 := rfl
theorem ii_lt0 {a : Nat} (h : a < 2147483648) : ¬ ii a < 0 := fun c => by
  have := (ii_lt (b := 0) h (by decide)).mp c
  omega
theorem ii_rem {a b : Nat} (ha : a < 2147483648) (hb : b < 2147483648) : jrem (ii a) (ii b) = ii (a % b) := by
  have h : a / b * b ≤ a := Nat.div_mul_le_self a b
  unfold jrem
  rw [ii_div ha hb, ii_mul, ii_sub h]
  congr 1
  have := Nat.mod_add_div a b
  rw [Nat.mul_comm] at this
  omega
theorem ii_ix {a : Nat} (h : a < 2147483648) : ix (ii a) = a := by
  unfold ix Int32.toNatClampNeg
  rw [ii_toInt h]
  rfl
theorem ii_inb {a n : Nat} (h : a < n) (hn : n < 2147483648) : inb (ii a) n = true := by
  unfold inb
  rw [ii_toInt (by omega)]
  simp only [Bool.and_eq_true, decide_eq_true_eq]
  omega
/-- an int that is not below 0 -/
theorem ii_of {x : Int32} (h : ¬ x < 0) : ∃ a, a < 2147483648 ∧ x = ii a := by
  have h1 := Int32.not_lt.mp h
  refine ⟨x.toNatClampNeg, ?_, (Int32.ofNat_toNatClampNeg x h1).symm⟩
  have := Int32.toInt_lt x
  unfold Int32.toNatClampNeg
  omega
theorem ii_all (x : Int32) : x = ii x.toBitVec.toNat := by
  apply Int32.toBitVec_inj.mp
  apply BitVec.eq_of_toNat_eq
  show _ = (BitVec.ofNat 32 _).toNat
  rw [BitVec.toNat_ofNat]
  exact (Nat.mod_eq_of_lt x.toBitVec.isLt).symm
/-! ints below 0 too -/
def zi (n : Int) : Int32 := Int32.ofInt n
theorem zi_ii (n : Nat) : zi (n : Int) = ii n := Int32.ofInt_eq_ofNat
theorem zi_add (a b : Int) : zi a + zi b = zi (a + b) := (Int32.ofInt_add a b).symm
theorem zi_mul (a b : Int) : zi a * zi b = zi (a * b) := (Int32.ofInt_mul a b).symm
theorem zi_sub (a b : Int) : zi a - zi b = zi (a - b) := (Int32.ofInt_sub a b).symm
theorem zi_toInt {a : Int} (h : -2147483648 ≤ a) (h2 : a < 2147483648) : (zi a).toInt = a := Int32.toInt_ofInt_of_le h h2
theorem zi_of (x : Int32) : x = zi x.toInt := (Int32.ofInt_toInt x).symm
theorem zi_lt {a b : Int} (h : -2147483648 ≤ a) (h2 : a < 2147483648) (g : -2147483648 ≤ b) (g2 : b < 2147483648) : zi a < zi b ↔ a < b := by
  rw [Int32.lt_iff_toInt_lt, zi_toInt h h2, zi_toInt g g2]
theorem zi_le {a b : Int} (h : -2147483648 ≤ a) (h2 : a < 2147483648) (g : -2147483648 ≤ b) (g2 : b < 2147483648) : zi a ≤ zi b ↔ a ≤ b := by
  rw [Int32.le_iff_toInt_le, zi_toInt h h2, zi_toInt g g2]
theorem zi_eq {a b : Int} (h : -2147483648 ≤ a) (h2 : a < 2147483648) (g : -2147483648 ≤ b) (g2 : b < 2147483648) : zi a = zi b ↔ a = b :=
  ⟨fun e => by have := congrArg Int32.toInt e; rwa [zi_toInt h h2, zi_toInt g g2] at this, fun e => e ▸ rfl⟩
theorem zi_lt0 {a : Int} (h : -2147483648 ≤ a) (h2 : a < 2147483648) : zi a < 0 ↔ a < 0 := by
  rw [show (0 : Int32) = zi 0 from rfl]
  exact zi_lt h h2 (by decide) (by decide)
theorem zi_rem {a b : Int} (h : -2147483648 ≤ a) (h2 : a < 2147483648) (g : -2147483648 ≤ b) (g2 : b < 2147483648) : jrem (zi a) (zi b) = zi (a.tmod b) := by
  have e : zi a / zi b = zi (a.tdiv b) := (Int32.ofInt_tdiv h (by show a ≤ 2147483647; omega) g (by show b ≤ 2147483647; omega)).symm
  unfold jrem
  rw [e, zi_mul, zi_sub]
  congr 1
  have := Int.tmod_add_mul_tdiv a b
  rw [Int.mul_comm] at this
  omega
/-! rests -/
def rr (a : Int) (b : Nat) : Nat := (a % (b : Int)).toNat
theorem rr_lt (a : Int) {b : Nat} (hb : 0 < b) : rr a b < b := by
  unfold rr
  have h1 := Int.emod_nonneg a (b := (b : Int)) (by omega)
  have h2 := Int.emod_lt_of_pos a (b := (b : Int)) (by omega)
  omega
theorem rr_z (a : Int) {b : Nat} (hb : 0 < b) : (rr a b : Int) = a % (b : Int) := by
  unfold rr
  have h1 := Int.emod_nonneg a (b := (b : Int)) (by omega)
  omega
theorem rr_n (a b : Nat) : rr (a : Int) b = a % b := by
  unfold rr
  rw [← Int.natCast_emod]
  rfl
theorem tmod_cases (a : Int) {b : Nat} (hb : 0 < b) : a.tmod b = rr a b ∨ (a.tmod b < 0 ∧ a.tmod b + b = rr a b) := by
  rw [rr_z a hb]
  have h3 := Int.tmod_lt_of_pos a (b := (b : Int)) (by omega)
  have h0 := Int.tmod_add_mul_tdiv a (b : Int)
  have h4 : a.tmod b % (b : Int) = a % (b : Int) := by
    rw [show a.tmod b = a - b * a.tdiv b by omega, Int.sub_mul_emod_self_left]
  by_cases h : 0 ≤ a.tmod b
  · rw [Int.emod_eq_of_lt h h3] at h4
    exact Or.inl h4
  · have h5 : -(b : Int) < a.tmod b := Int.lt_tmod_of_pos a (by omega)
    have h6 : (a.tmod b + b) % (b : Int) = a.tmod b % (b : Int) := Int.add_emod_right ..
    rw [Int.emod_eq_of_lt (by omega) (by omega), h4] at h6
    exact Or.inr ⟨by omega, h6⟩
theorem rest_z {a : Int} {b : Nat} (h : -2147483648 ≤ a) (h2 : a < 2147483648) (hb : 0 < b) (hb2 : b < 1073741824) : d_X7_rest (zi a) (ii b) = ii (rr a b) := by
  have hl := rr_lt a hb
  have hm : jrem (zi a) (ii b) = zi (a.tmod b) := by rw [← zi_ii]; exact zi_rem h h2 (by omega) (by omega)
  have c1 : ¬ ii b < (1 : Int32) := fun c => by have := (ii_lt (b := 1) (by omega) (by decide)).mp c; omega
  unfold d_X7_rest
  rw [if_neg c1, hm]
  rcases tmod_cases a hb with e | ⟨e1, e2⟩
  · rw [e, zi_ii, if_neg (ii_lt0 (by omega))]
  · rw [if_pos ((zi_lt0 (by omega) (by omega)).mpr e1), ← zi_ii, zi_add, e2, zi_ii]
theorem rest_i {a b : Nat} (h2 : a < 2147483648) (hb : 0 < b) (hb2 : b < 1073741824) : d_X7_rest (ii a) (ii b) = ii (a % b) := by
  rw [← zi_ii, rest_z (by omega) (by omega) hb hb2, rr_n]
theorem share_i {a b : Nat} (h2 : a < 2147483648) (hb : 0 < b) (hb2 : b < 2147483648) : d_X7_share (ii a) (ii b) = ii (a / b) := by
  have c1 : ¬ ii b < (1 : Int32) := fun c => by have := (ii_lt (b := 1) (by omega) (by decide)).mp c; omega
  unfold d_X7_share
  rw [if_neg c1, ii_div h2 hb2]
theorem ii_ne0 {b : Nat} (hb : 0 < b) (hb2 : b < 2147483648) : ¬ ii b = (0 : Int32) := fun c => by
  have := (ii_eq (b := 0) hb2 (by decide)).mp c
  omega
/-! longs -/
theorem ll_un (x : Int64) : x = ll x.toBitVec.toNat := by
  apply Int64.toBitVec_inj.mp
  apply BitVec.eq_of_toNat_eq
  show _ = (BitVec.ofNat 64 _).toNat
  rw [BitVec.toNat_ofNat]
  exact (Nat.mod_eq_of_lt x.toBitVec.isLt).symm
theorem ll_of (x : Int64) : ∃ n, n < 18446744073709551616 ∧ x = ll n := ⟨_, x.toBitVec.isLt, ll_un x⟩
theorem ll_nat (a : Nat) : (ll a).toBitVec.toNat = a % 18446744073709551616 := by
  show (BitVec.ofNat 64 a).toNat = _
  rw [BitVec.toNat_ofNat]
theorem ll_eq {a b : Nat} (ha : a < 18446744073709551616) (hb : b < 18446744073709551616) : ll a = ll b ↔ a = b :=
  ⟨fun h => by have := congrArg (fun x => x.toBitVec.toNat) h; rw [ll_nat, ll_nat, Nat.mod_eq_of_lt ha, Nat.mod_eq_of_lt hb] at this; exact this, fun h => h ▸ rfl⟩
theorem ll_add (a b : Nat) : ll a + ll b = ll (a + b) := (Int64.ofNat_add a b).symm
theorem ll_mul (a b : Nat) : ll a * ll b = ll (a * b) := (Int64.ofNat_mul a b).symm
theorem ll_sub {a b : Nat} (h : b ≤ a) : ll a - ll b = ll (a - b) := (Int64.ofNat_sub a b h).symm
theorem ll_bit {x : Int64} {n : Nat} (h : x.toBitVec.toNat = n % 18446744073709551616) : x = ll n := by
  apply Int64.toBitVec_inj.mp
  apply BitVec.eq_of_toNat_eq
  rw [h, ll_nat]
theorem ll_and (a b : Nat) : ll a &&& ll b = ll (a &&& b) := ll_bit (by
  rw [Int64.toBitVec_and, BitVec.toNat_and, ll_nat, ll_nat]
  exact (Nat.and_mod_two_pow (n := 64)).symm)
theorem ll_or (a b : Nat) : ll a ||| ll b = ll (a ||| b) := ll_bit (by
  rw [Int64.toBitVec_or, BitVec.toNat_or, ll_nat, ll_nat]
  exact (Nat.or_mod_two_pow (n := 64)).symm)
theorem ll_xor (a b : Nat) : ll a ^^^ ll b = ll (a ^^^ b) := ll_bit (by
  rw [Int64.toBitVec_xor, BitVec.toNat_xor, ll_nat, ll_nat]
  exact (Nat.xor_mod_two_pow (n := 64)).symm)
theorem sh_k : ∀ k, k < 64 → ((ii k).toInt64 &&& 63).toBitVec.smod 64 = BitVec.ofNat 64 k := by decide +kernel
theorem sh_u : ∀ k, k < 64 → ((ii k).toInt64.toUInt64 &&& Int64.toUInt64 63).toBitVec % 64 = BitVec.ofNat 64 k := by decide +kernel
theorem ll_shl (a : Nat) {k : Nat} (hk : k < 64) : jshl (ll a) (ii k) = ll (a <<< k) := ll_bit (by
  unfold jshl
  rw [Int64.toBitVec_shiftLeft, sh_k k hk, BitVec.shiftLeft_eq', BitVec.toNat_shiftLeft, ll_nat, BitVec.toNat_ofNat, Nat.mod_eq_of_lt (show k < 2 ^ 64 by omega)]
  show _ % 2 ^ 64 = _ % 2 ^ 64
  rw [Nat.shiftLeft_eq, Nat.shiftLeft_eq]
  exact Nat.mod_mul_mod ..)
theorem ll_shr {a k : Nat} (ha : a < 18446744073709551616) (hk : k < 64) : jushr (ll a) (ii k) = ll (a >>> k) := ll_bit (by
  unfold jushr
  rw [UInt64.toBitVec_toInt64, UInt64.toBitVec_shiftRight, sh_u k hk, BitVec.ushiftRight_eq', BitVec.toNat_ushiftRight, Int64.toBitVec_toUInt64, ll_nat, BitVec.toNat_ofNat, Nat.mod_eq_of_lt (show k < 2 ^ 64 by omega), Nat.mod_eq_of_lt ha]
  exact (Nat.mod_eq_of_lt (Nat.lt_of_le_of_lt (Nat.shiftRight_le a k) ha)).symm)
theorem ll_i32 (a : Nat) : (ll a).toInt32 = ii a := Int64.toInt32_ofNat'
theorem ii_i64 {a : Nat} (h : a < 2147483648) : (ii a).toInt64 = ll a := by
  apply Int64.toInt_inj.mp
  rw [Int32.toInt_toInt64, ii_toInt h]
  exact (Int64.toInt_ofNat_of_lt (show a < 2 ^ 63 by omega)).symm
theorem lc_0 {a b : Nat} (ha : a < 18446744073709551616) (hb : b < 18446744073709551616) : (lg_cmp (ll a) (ll b) = 0) ↔ a = b := (lg_cmp_eq _ _).trans (ll_eq ha hb)
theorem ll_0 : (0 : Int64) = ll 0 := rfl
theorem ll_1 : (1 : Int64) = ll 1 := rfl
theorem ll_m1 : (-1 : Int64) = ll 18446744073709551615 := by decide +kernel
theorem bit_i {k : Nat} (hk : k < 64) : d_X7_bit (ii k) = ll (2 ^ k) := by
  unfold d_X7_bit
  rw [ll_1, ll_shl 1 hk, Nat.shiftLeft_eq, Nat.one_mul]
theorem has_i {a k : Nat} (ha : a < 18446744073709551616) (hk : k < 64) : d_X7_has (ll a) (ii k) = if a.testBit k then (1 : Int32) else 0 := by
  unfold d_X7_has
  rw [ll_shr ha hk, ll_1, ll_and, ll_0]
  have e : (a >>> k) &&& 1 = if a.testBit k then 1 else 0 := by
    rw [Nat.and_one_is_mod, Nat.testBit_eq_decide_div_mod_eq, Nat.shiftRight_eq_div_pow]
    simp only [decide_eq_true_eq]
    split <;> omega
  rw [e]
  cases a.testBit k
  · exact if_pos ((lc_0 (by decide) (by decide)).mpr rfl)
  · exact if_neg fun c => absurd ((lc_0 (by decide) (by decide)).mp c) (by decide)
/-! loops -/
theorem iter_run {A B : Type} {g : A → Option (A ⊕ B)} (S : Nat → A) {b : B} : ∀ (d k fuel : Nat), d < fuel → (∀ j, k ≤ j → j < k + d → g (S j) = some (.inl (S (j + 1)))) → g (S (k + d)) = some (.inr b) → iter g fuel (S k) = some b
  | _, _, 0, h, _, _ => absurd h (Nat.not_lt_zero _)
  | 0, k, f + 1, _, _, e => by
    unfold iter
    rw [show g (S k) = some (.inr b) from e]
  | d + 1, k, f + 1, h, s, e => by
    unfold iter
    rw [s k (Nat.le_refl k) (by omega)]
    exact iter_run S d (k + 1) f (by omega) (fun j h1 h2 => s j (by omega) (by omega)) (by rw [show k + 1 + d = k + (d + 1) by omega]; exact e)
/-- a value told again and again with a rising number -/
def fo {X : Type} (f : X → Nat → X) (a : X) : Nat → X
  | 0 => a
  | k + 1 => f (fo f a k) k
theorem fo_ind {X : Type} {f : X → Nat → X} {a : X} (P : Nat → X → Prop) (n : Nat) (h0 : P 0 a) (hs : ∀ k x, k < n → P k x → P (k + 1) (f x k)) : ∀ k, k ≤ n → P k (fo f a k)
  | 0, _ => h0
  | k + 1, h => hs k _ (by omega) (fo_ind P n h0 hs k (by omega))
theorem for_up {X B : Type} {g : X × Int32 → Option ((X × Int32) ⊕ B)} (f : X → Nat → X) (a : X) (n : Nat) (hn : n < 20000) {b : B} (h : ∀ k x, k < n → g (x, ii k) = some (.inl (f x k, ii (k + 1)))) (e : g (fo f a n, ii n) = some (.inr b)) : iter g 20000 (a, ii 0) = some b :=
  iter_run (fun k => (fo f a k, ii k)) n 0 20000 (by omega) (fun j _ h2 => h j _ (by omega)) (by rw [Nat.zero_add]; exact e)
theorem for_up2 {X Y B : Type} {g : X × Y × Int32 → Option ((X × Y × Int32) ⊕ B)} (f : X × Y → Nat → X × Y) (a : X) (a' : Y) (n : Nat) (hn : n < 20000) {b : B} (h : ∀ k x y, k < n → g (x, y, ii k) = some (.inl ((f (x, y) k).1, (f (x, y) k).2, ii (k + 1)))) (e : g ((fo f (a, a') n).1, (fo f (a, a') n).2, ii n) = some (.inr b)) : iter g 20000 (a, a', ii 0) = some b :=
  iter_run (fun k => ((fo f (a, a') k).1, (fo f (a, a') k).2, ii k)) n 0 20000 (by omega) (fun j _ h2 => h j _ _ (by omega)) (by rw [Nat.zero_add]; exact e)
