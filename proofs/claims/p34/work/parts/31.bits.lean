/-! BITS: how many, which is the lowest, which is the highest -/
/-- how many of the numbers below n -/
def pc (p : Nat → Bool) : Nat → Nat
  | 0 => 0
  | n + 1 => pc p n + (if p n then 1 else 0)
theorem pc_le (p : Nat → Bool) : ∀ n, pc p n ≤ n
  | 0 => Nat.le_refl 0
  | n + 1 => by
    have := pc_le p n
    unfold pc
    split <;> omega
theorem pc_congr {p q : Nat → Bool} : ∀ {n}, (∀ i, i < n → p i = q i) → pc p n = pc q n
  | 0, _ => rfl
  | n + 1, h => by
    unfold pc
    rw [pc_congr fun i hi => h i (by omega), h n (by omega)]
theorem pc_add (p : Nat → Bool) (a : Nat) : ∀ b, pc p (a + b) = pc p a + pc (fun i => p (a + i)) b
  | 0 => rfl
  | b + 1 => by
    show pc p (a + b) + (if p (a + b) then 1 else 0) = pc p a + (pc (fun i => p (a + i)) b + (if p (a + b) then 1 else 0))
    rw [pc_add p a b]
    omega
theorem pc_zero {p : Nat → Bool} {n : Nat} : pc p n = 0 ↔ ∀ i, i < n → p i = false := by
  induction n with
  | zero => exact ⟨fun _ i h => absurd h (Nat.not_lt_zero _), fun _ => rfl⟩
  | succ n ih =>
    unfold pc
    constructor
    · intro h i hi
      by_cases hp : p n = true
      · rw [if_pos hp] at h; omega
      · rw [if_neg hp] at h
        by_cases e : i = n
        · rw [e]; exact Bool.eq_false_iff.mpr hp
        · exact ih.mp (by omega) i (by omega)
    · intro h
      rw [ih.mpr fun i hi => h i (by omega), h n (by omega)]
      rfl
theorem pc_high {p : Nat → Bool} {a b : Nat} (hab : a ≤ b) (h : ∀ i, a ≤ i → i < b → p i = false) : pc p b = pc p a := by
  obtain ⟨d, rfl⟩ := Nat.exists_eq_add_of_le hab
  rw [pc_add, pc_zero.mpr fun i hi => h (a + i) (by omega) (by omega)]
  rfl
/-- one fewer -/
theorem pc_out {p q : Nat → Bool} {n t : Nat} (ht : t < n) (hp : p t = true) (hq : q t = false) (h : ∀ i, i < n → i ≠ t → p i = q i) : pc p n = pc q n + 1 := by
  obtain ⟨d, rfl⟩ := Nat.exists_eq_add_of_le (Nat.succ_le_of_lt ht)
  rw [pc_add p, pc_add q, pc_congr (p := fun i => p (t.succ + i)) (q := fun i => q (t.succ + i)) fun i hi => h _ (by omega) (by omega)]
  show pc p t + _ + _ = pc q t + _ + _ + 1
  rw [pc_congr (p := p) (q := q) fun i hi => h i (by omega) (by omega), hp, hq]
  rw [if_pos rfl, if_neg (by decide)]
  omega
theorem pc_mono {p q : Nat → Bool} : ∀ {n}, (∀ i, i < n → p i = true → q i = true) → pc p n ≤ pc q n
  | 0, _ => Nat.le_refl 0
  | n + 1, h => by
    have := pc_mono (p := p) (q := q) (n := n) fun i hi => h i (by omega)
    unfold pc
    by_cases hp : p n = true
    · rw [if_pos hp, if_pos (h n (by omega) hp)]; omega
    · rw [if_neg hp]; omega
/-- how many elements a set has -/
def sz (a : Nat) : Nat := pc a.testBit 64
theorem sz_le (a : Nat) : sz a ≤ 64 := pc_le _ _
theorem tB_hi {a n i : Nat} (h : a < 2 ^ n) (hi : n ≤ i) : a.testBit i = false := Nat.testBit_lt_two_pow (Nat.lt_of_lt_of_le h (Nat.pow_le_pow_right (by decide) hi))
theorem tB_ext {a b n : Nat} (ha : a < 2 ^ n) (hb : b < 2 ^ n) (h : ∀ i, i < n → a.testBit i = b.testBit i) : a = b := Nat.eq_of_testBit_eq fun i => by
  by_cases hi : i < n
  · exact h i hi
  · rw [tB_hi ha (by omega), tB_hi hb (by omega)]
theorem sz_to {a n : Nat} (h : a < 2 ^ n) (hn : n ≤ 64) : sz a = pc a.testBit n := pc_high hn fun _ h1 _ => tB_hi h h1
theorem sz_0 {a : Nat} (h : a < 2 ^ 64) : sz a = 0 ↔ a = 0 := pc_zero.trans ⟨fun g => tB_ext h (by decide) fun i hi => by rw [g i hi, Nat.zero_testBit], fun g i _ => by rw [g, Nat.zero_testBit]⟩
/-! nibbles -/
def val : List Nat → Nat
  | [] => 0
  | b :: l => b + 16 * val l
theorem tB_nib (b V i : Nat) (hb : b < 16) : (b + 16 * V).testBit i = if i < 4 then b.testBit i else V.testBit (i - 4) := by
  rw [Nat.add_comm]
  exact Nat.testBit_two_pow_mul_add V (i := 4) hb i
theorem and_nib (a b c d : Nat) (hb : b < 16) (hd : d < 16) : (b + 16 * a) &&& (d + 16 * c) = (b &&& d) + 16 * (a &&& c) := Nat.eq_of_testBit_eq fun i => by
  have h : b &&& d < 16 := Nat.lt_of_le_of_lt Nat.and_le_left hb
  rw [Nat.testBit_and, tB_nib _ _ _ hb, tB_nib _ _ _ hd, tB_nib _ _ _ h]
  split
  · rw [Nat.testBit_and]
  · rw [Nat.testBit_and]
/-- a mask's figure whose lower part alone is taken -/
theorem shr_nib (V b R m j : Nat) (hb : b < 16) (hm : m < 2 ^ (4 - j)) (hj : j ≤ 4) : ((b + 16 * V) >>> j) &&& (m + 16 * R) = ((b >>> j) &&& m) + 16 * ((V >>> j) &&& R) := Nat.eq_of_testBit_eq fun i => by
  have hm16 : m < 16 := Nat.lt_of_lt_of_le hm (Nat.pow_le_pow_right (n := 2) (by decide) (by omega : 4 - j ≤ 4))
  have h : (b >>> j) &&& m < 16 := Nat.lt_of_le_of_lt Nat.and_le_right hm16
  rw [Nat.testBit_and, Nat.testBit_shiftRight, tB_nib _ _ _ hb, tB_nib _ _ _ hm16, tB_nib _ _ _ h]
  by_cases hi : i < 4
  · rw [if_pos hi, if_pos hi, Nat.testBit_and, Nat.testBit_shiftRight]
    by_cases h4 : j + i < 4
    · rw [if_pos h4]
    · rw [tB_hi hm (show 4 - j ≤ i by omega), Bool.and_false, Bool.and_false]
  · rw [if_neg hi, if_neg hi, if_neg (by omega), Nat.testBit_and, Nat.testBit_shiftRight, show j + i - 4 = j + (i - 4) by omega]
def rep (m : Nat) : Nat → Nat
  | 0 => 0
  | n + 1 => m + 16 * rep m n
theorem val_shr {m j : Nat} (hm : m < 2 ^ (4 - j)) (hj : j ≤ 4) : ∀ (l : List Nat), (∀ b ∈ l, b < 16) → (val l >>> j) &&& rep m l.length = val (l.map fun b => (b >>> j) &&& m)
  | [], _ => by
    show (0 >>> j) &&& 0 = 0
    exact Nat.and_zero _
  | b :: l, h => by
    show ((b + 16 * val l) >>> j) &&& (m + 16 * rep m l.length) = _ + 16 * val _
    rw [shr_nib _ _ _ _ _ (h b List.mem_cons_self) hm hj, val_shr hm hj l fun c hc => h c (List.mem_cons_of_mem _ hc)]
theorem val_le {f g : Nat → Nat} : ∀ (l : List Nat), (∀ b ∈ l, f b ≤ g b) → val (l.map f) ≤ val (l.map g)
  | [], _ => Nat.le_refl 0
  | b :: l, h => by
    have h1 := h b List.mem_cons_self
    have h2 := val_le l fun c hc => h c (List.mem_cons_of_mem _ hc)
    show f b + 16 * val (l.map f) ≤ g b + 16 * val (l.map g)
    omega
theorem val_sub {f g : Nat → Nat} : ∀ (l : List Nat), (∀ b ∈ l, f b ≤ g b) → val (l.map g) - val (l.map f) = val (l.map fun b => g b - f b)
  | [], _ => rfl
  | b :: l, h => by
    have h1 := h b List.mem_cons_self
    have h3 := val_le l fun c hc => h c (List.mem_cons_of_mem _ hc)
    have h2 := val_sub l fun c hc => h c (List.mem_cons_of_mem _ hc)
    show g b + 16 * val (l.map g) - (f b + 16 * val (l.map f)) = (g b - f b) + 16 * val (l.map fun b => g b - f b)
    omega
theorem val_add {f g : Nat → Nat} : ∀ (l : List Nat), val (l.map f) + val (l.map g) = val (l.map fun b => f b + g b)
  | [] => rfl
  | b :: l => by
    have h2 := val_add (f := f) (g := g) l
    show f b + 16 * val (l.map f) + (g b + 16 * val (l.map g)) = (f b + g b) + 16 * val (l.map fun b => f b + g b)
    omega
def nibs (x : Nat) : Nat → List Nat
  | 0 => []
  | n + 1 => x % 16 :: nibs (x / 16) n
theorem nibs_len (x : Nat) : ∀ n, (nibs x n).length = n := fun n => by
  induction n generalizing x with
  | zero => rfl
  | succ n ih => show (nibs (x / 16) n).length + 1 = _; rw [ih]
theorem nibs_lt (x : Nat) : ∀ n, ∀ b ∈ nibs x n, b < 16 := fun n => by
  induction n generalizing x with
  | zero => exact fun b h => absurd h List.not_mem_nil
  | succ n ih =>
    intro b h
    rcases List.mem_cons.mp h with h | h
    · rw [h]; exact Nat.mod_lt _ (by decide)
    · exact ih _ b h
theorem val_nibs : ∀ (n x : Nat), x < 16 ^ n → val (nibs x n) = x
  | 0, x, h => by
    show 0 = x
    omega
  | n + 1, x, h => by
    show x % 16 + 16 * val (nibs (x / 16) n) = x
    rw [val_nibs n (x / 16) (by rw [Nat.pow_succ] at h; omega)]
    omega
/-- the bits of a nibble, counted -/
def p4 (b : Nat) : Nat := ((b - ((b >>> 1) &&& 5)) &&& 3) + (((b - ((b >>> 1) &&& 5)) >>> 2) &&& 3)
theorem p4_i : ∀ b, b < 16 → p4 b = pc b.testBit 4 := by decide +kernel
theorem p4_a : ∀ b, b < 16 → ((b >>> 1) &&& 5) ≤ b := by decide +kernel
theorem p4_b : ∀ b, b < 16 → b - ((b >>> 1) &&& 5) < 16 := by decide +kernel
theorem p4_le : ∀ b, b < 16 → p4 b ≤ 4 := by decide +kernel
theorem pc_nib (x n : Nat) : pc x.testBit (4 * (n + 1)) = p4 (x % 16) + pc (x / 16).testBit (4 * n) := by
  rw [show 4 * (n + 1) = 4 + 4 * n by omega, pc_add, p4_i _ (Nat.mod_lt _ (by decide))]
  congr 1
  · refine pc_congr fun i hi => ?_
    rw [show (16 : Nat) = 2 ^ 4 from rfl, Nat.testBit_mod_two_pow, decide_eq_true hi, Bool.true_and]
  · refine pc_congr fun i _ => ?_
    rw [show (16 : Nat) = 2 ^ 4 from rfl, Nat.testBit_div_two_pow, Nat.add_comm]
theorem swar2 {n x : Nat} (hx : x < 16 ^ n) : x - ((x >>> 1) &&& rep 5 n) = val ((nibs x n).map fun b => b - ((b >>> 1) &&& 5)) ∧ ((x - ((x >>> 1) &&& rep 5 n)) &&& rep 3 n) + (((x - ((x >>> 1) &&& rep 5 n)) >>> 2) &&& rep 3 n) = val ((nibs x n).map p4) := by
  have hl := nibs_len x n
  have hb := nibs_lt x n
  have e0 := val_nibs n x hx
  have e1 : (x >>> 1) &&& rep 5 n = val ((nibs x n).map fun b => (b >>> 1) &&& 5) := by
    have := val_shr (m := 5) (j := 1) (by decide) (by decide) (nibs x n) hb
    rwa [hl, e0] at this
  have e2 : x - ((x >>> 1) &&& rep 5 n) = val ((nibs x n).map fun b => b - ((b >>> 1) &&& 5)) := by
    rw [e1]
    have := val_sub (f := fun b => (b >>> 1) &&& 5) (g := fun b => b) (nibs x n) fun b h => p4_a b (hb b h)
    rwa [List.map_id', e0] at this
  refine ⟨e2, ?_⟩
  have hb2 : ∀ b ∈ (nibs x n).map fun b => b - ((b >>> 1) &&& 5), b < 16 := fun b h => by
    obtain ⟨c, hc, rfl⟩ := List.mem_map.mp h
    exact p4_b c (hb c hc)
  have l2 : ((nibs x n).map fun b => b - ((b >>> 1) &&& 5)).length = n := by rw [List.length_map, hl]
  have f1 := val_shr (m := 3) (j := 0) (by decide) (by decide) _ hb2
  have f2 := val_shr (m := 3) (j := 2) (by decide) (by decide) _ hb2
  rw [l2, Nat.shiftRight_zero] at f1
  rw [l2] at f2
  rw [e2, f1, f2, List.map_map, List.map_map, val_add]
  rfl
