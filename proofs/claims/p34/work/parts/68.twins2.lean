/-! COMPUTABLE TWINS, 2: games, maps, primes -/
section Twj
variable {m n : Nat}
def lsC (m n r : Nat) : Nat → Nat → Bool
  | 0, _ => false
  | f + 1, s => kpC m n r s && allB (fun e => s.testBit e || !(lsC m n r f (s ||| 2 ^ e))) (m * n)
def wnC (m n r put : Nat) : Nat := ob (fun e => !(put.testBit e) && lsC m n r (m * n + 1) (put ||| 2 ^ e)) (m * n)
theorem sz_or {s e N : Nat} (hN : N ≤ 64) (hs : s < 2 ^ N) (he : e < N) (hb : s.testBit e = false) : sz (s ||| 2 ^ e) = sz s + 1 := by
  rw [sz_st hN (or_lt hs he), sz_st hN hs]
  refine pc_out he ?_ hb fun i hi hne => ?_
  · rw [Nat.testBit_or, Nat.testBit_two_pow_self, Bool.or_true]
  · rw [Nat.testBit_or, Nat.testBit_two_pow, decide_eq_false (fun z => hne z.symm), Bool.or_false]
theorem lsC_iff (hm : 0 < m) (hn : 0 < n) (hN : m * n ≤ 36) (r put : Nat) {C : Nat → Prop} (hC : ∀ s, put < s → s < 2 ^ (m * n) → Sub put s → (C s ↔ Keep m n r s ∧ ∀ e, e < m * n → s.testBit e = false → ¬ C (s ||| 2 ^ e))) : ∀ (f s : Nat), put < s → s < 2 ^ (m * n) → Sub put s → m * n < f + sz s → (lsC m n r f s = true ↔ C s)
  | 0, s, _, h2, _, hf => by
    have := sz_leN (show m * n ≤ 64 by omega) h2
    omega
  | f + 1, s, h1, h2, h3, hf => by
    show (kpC m n r s && allB (fun e => s.testBit e || !(lsC m n r f (s ||| 2 ^ e))) (m * n)) = true ↔ _
    rw [Bool.and_eq_true, kpC_iff hm hn r h2, allB_iff, hC s h1 h2 h3]
    refine and_congr_right fun _ => forall_congr' fun e => forall_congr' fun he => ?_
    cases hb : s.testBit e with
    | true => exact ⟨fun _ z => (by cases z), fun _ => rfl⟩
    | false =>
      have ih := lsC_iff hm hn hN r put hC f (s ||| 2 ^ e) (by have := or_gt hb; omega) (or_lt h2 he) (fun i hi => by rw [Nat.testBit_or, h3 i hi]; rfl) (by rw [sz_or (by omega) h2 he hb]; omega)
      rw [Bool.false_or, Bool.not_eq_true', ← Bool.not_eq_true, ih]
      exact ⟨fun z _ => z, fun z => z rfl⟩
theorem wnC_eq (hm : 0 < m) (hn : 0 < n) (hN : m * n ≤ 36) (r : Nat) {put : Nat} (hp : put < 2 ^ (m * n)) {C : Nat → Prop} (hC : ∀ s, put < s → s < 2 ^ (m * n) → Sub put s → (C s ↔ Keep m n r s ∧ ∀ e, e < m * n → s.testBit e = false → ¬ C (s ||| 2 ^ e))) : st (m * n) (fun e => put.testBit e = false ∧ C (put ||| 2 ^ e)) = wnC m n r put := by
  refine st_ob fun e he => ?_
  rw [Bool.and_eq_true, Bool.not_eq_true']
  refine and_congr_right fun hb => ?_
  exact lsC_iff hm hn hN r put hC (m * n + 1) _ (or_gt hb) (or_lt hp he) (fun i hi => by rw [Nat.testBit_or, hi]; rfl) (by omega)
/-! maps -/
def gdC (m n r t : Nat) (F : Nat → Nat) (l : List Nat) : Bool := allB (fun i => allB (fun j => Nat.beq (F i) (F j) == Nat.beq (Sj m n r (gx m n t l) i) (Sj m n r (gx m n t l) j)) (nu r l.length 0 0)) (nu r l.length 0 0)
theorem gdC_eq (r t : Nat) (F : Nat → Nat) (l : List Nat) : gd m n r t F l = gdC m n r t F l := by
  refine Bool.eq_iff_iff.mpr ?_
  rw [gd_iff]
  unfold gdC CoP Con
  rw [allB_iff]
  constructor
  · intro h i hi
    refine allB_iff.mpr fun j hj => ?_
    rw [beq_iff_eq]
    refine Bool.eq_iff_iff.mpr ?_
    rw [nb, nb]
    exact h i j hi hj
  · intro h i j hi hj
    have h1 := allB_iff.mp (h i hi) j hj
    rw [beq_iff_eq] at h1
    rw [← nb, ← nb (a := Sj m n r (gx m n t l) i), h1]
def alC (m n r k s t : Nat) : List (List Nat) := (ext k k []).filter (gdC m n r t (Sj m n r (el s (m * n))))
theorem alC_eq (r k s t : Nat) : allM m n r k s t = alC m n r k s t := by
  unfold allM alC
  congr 1
  funext l
  exact gdC_eq r t _ l
/-- what the first map gives an element; all in all -/
def imL (m n t v : Nat) : List (List Nat) → Int32
  | [] => -1
  | l :: _ => ii (gx m n t l v)
def imC (m n o x y v : Nat) : Int32 := bif Nat.beq (pc x.testBit (m * n)) (pc y.testBit (m * n)) && x.testBit v then imL m n y (pc x.testBit v) (alC m n o (pc x.testBit (m * n)) x y) else -1
def mpC (m n o x y : Nat) : Int32 := bif Nat.beq (pc x.testBit (m * n)) (pc y.testBit (m * n)) then ii (alC m n o (pc x.testBit (m * n)) x y).length else 0
/-! primes, roots -/
def prC (p : Nat) : Bool := Nat.ble 2 p && allB (fun d => !(Nat.ble 2 d) || !(Nat.beq (p % d) 0)) p
theorem prC_iff (p : Nat) : prC p = true ↔ Prm p := by
  unfold prC Prm
  rw [Bool.and_eq_true, nble, allB_iff]
  refine and_congr_right fun _ => ⟨fun h d h1 h2 => ?_, fun h d h2 => ?_⟩
  · have := (imp_b Iff.rfl).mp (h d h2) (nble.mpr h1)
    rw [Bool.not_eq_true', ← Bool.not_eq_true, nb] at this
    exact this
  · refine (imp_b Iff.rfl).mpr fun h1 => ?_
    rw [Bool.not_eq_true', ← Bool.not_eq_true, nb]
    exact h d (nble.mp h1) h2
def orC (p w n : Nat) : Bool := Nat.beq (w ^ n % p) 1 && allB (fun e => !(Nat.ble 1 e) || !(Nat.beq (w ^ e % p) 1)) n
theorem orC_iff (p w n : Nat) : orC p w n = true ↔ Od p w n := by
  unfold orC Od
  rw [Bool.and_eq_true, nb, allB_iff]
  refine and_congr_right fun _ => ⟨fun h d h1 h2 => ?_, fun h d h2 => ?_⟩
  · have := (imp_b Iff.rfl).mp (h d h2) (nble.mpr h1)
    rw [Bool.not_eq_true', ← Bool.not_eq_true, nb] at this
    exact this
  · refine (imp_b Iff.rfl).mpr fun h1 => ?_
    rw [Bool.not_eq_true', ← Bool.not_eq_true, nb]
    exact h d (nble.mp h1) h2
end Twj
