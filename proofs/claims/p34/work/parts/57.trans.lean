/-! TRANSFORMS -/
theorem su_mod {p : Nat} {f g : Nat → Nat} : ∀ {n}, (∀ i, i < n → f i % p = g i % p) → su f n % p = su g n % p
  | 0, _ => rfl
  | n + 1, h => by
    show (su f n + f n) % p = (su g n + g n) % p
    rw [Nat.add_mod, su_mod (fun i hi => h i (by omega)), h n (by omega), ← Nat.add_mod]
theorem su_le {f : Nat → Nat} {c : Nat} : ∀ {n}, (∀ i, i < n → f i ≤ c) → su f n ≤ n * c
  | 0, _ => by rw [Nat.zero_mul]; exact Nat.le_refl 0
  | n + 1, h => by
    have := su_le (n := n) fun i hi => h i (by omega)
    have := h n (by omega)
    show su f n + f n ≤ _
    rw [Nat.add_mul]
    omega
def trf (p w n S k : Nat) : Nat := su (fun y => if S.testBit y then w ^ (k * y) else 0) n % p
section Tra
variable {M : Mem}
theorem powerOf_i {p w n x : Nat} (h1 : M.1 17 1 = ii n) (h18 : ∀ e, e < n → M.1 18 e = ii (w ^ e % p)) (hp : 1 < p) (hw : w ^ n % p = 1) (hn : 0 < n) (hn36 : n ≤ 36) (hx : x < 2147483648) : d_X6_powerOf (ii x) M = ii (w ^ x % p) := by
  have hl := Nat.mod_lt x hn
  unfold d_X6_powerOf d_X7_at
  rw [h1, rest_i hx hn (by omega), if_neg (ii_lt0 (by omega)), if_pos (by rw [show (36 : Int32) = ii 36 from rfl, ii_lt (by omega) (by decide)]; omega), ii_ix (by omega), h18 _ hl, ← pow_red hp hw]
theorem valueAt_i {p w n k S : Nat} (h0 : M.1 17 0 = ii p) (h1 : M.1 17 1 = ii n) (h18 : ∀ e, e < n → M.1 18 e = ii (w ^ e % p)) (hp : 1 < p) (h9 : p ≤ 9999) (hw : w ^ n % p = 1) (hn : 0 < n) (hn36 : n ≤ 36) (hk : k < n) (hS : S < 2 ^ n) : d_X6_valueAt (ii k) (ll S) M = some (ii (trf p w n S k)) := by
  have hpow : ∀ e, w ^ e % p < p := fun e => Nat.mod_lt _ (by omega)
  have hS64 : S < 18446744073709551616 := set64 hS hn36
  unfold d_X6_valueAt
  rw [show ((0 : Int32), (0 : Int32)) = (ii 0, (0 : Int32)) from rfl, up_sum (N := n) (by omega) (fun y => if S.testBit y then w ^ (k * y) % p else 0) 0 (b := .inl (ii (su (fun y => if S.testBit y then w ^ (k * y) % p else 0) n), ii n)) ?_ ?_]
  · have hb : su (fun y => if S.testBit y then w ^ (k * y) % p else 0) n ≤ n * 9999 := su_le fun i _ => by
      show (if S.testBit i then _ else _) ≤ _
      have := hpow (k * i)
      split <;> omega
    show some (d_X7_rest (ii _) (M.1 17 0)) = _
    rw [h0, rest_i (by omega) (by omega) (by omega)]
    congr 2
    unfold trf
    refine su_mod fun i _ => ?_
    show (if S.testBit i then _ else _) % p = (if S.testBit i then _ else _) % p
    split
    · rw [Nat.mod_mod]
    · rfl
  · intro y s hy
    have hky : k * y ≤ 36 * 36 := Nat.mul_le_mul (by omega) (by omega)
    unfold g_X6_valueAt_1
    dsimp only
    rw [h1, if_pos ((ii_lt (by omega) (by omega)).mpr hy), has_i hS64 (by omega), ii_mul, powerOf_i h1 h18 hp hw hn hn36 (by omega), ii_inc]
    cases S.testBit y with
    | false =>
      rw [if_pos (by decide), if_neg (by decide)]
      rfl
    | true => rw [if_neg (by decide), if_pos rfl, ii_add]
  · unfold g_X6_valueAt_1
    dsimp only
    rw [h1, if_neg (by rw [ii_lt (by omega) (by omega)]; omega), Nat.zero_add]
/-- the ways to an element, but for the number that n is turned over by -/
def wsum (p w n A B y : Nat) : Nat := su (fun k => trf p w n A k * trf p w n B k % p * (w ^ (n * n - k * y) % p)) n
theorem cwaysTo_i {p w n y A B : Nat} (h0 : M.1 17 0 = ii p) (h1 : M.1 17 1 = ii n) (h18 : ∀ e, e < n → M.1 18 e = ii (w ^ e % p)) (hp : 1 < p) (h9 : p ≤ 9999) (hw : w ^ n % p = 1) (hn : 0 < n) (hn36 : n ≤ 36) (hy : y < n) (hA : A < 2 ^ n) (hB : B < 2 ^ n) : d_X6_waysTo (ii y) (ll A) (ll B) M = some (ii (wsum p w n A B y % p * (p - (p - 1) / n) % p)) := by
  have hpow : ∀ e, w ^ e % p < p := fun e => Nat.mod_lt _ (by omega)
  have htr : ∀ S k, trf p w n S k < p := fun S k => Nat.mod_lt _ (by omega)
  unfold d_X6_waysTo
  rw [show ((0 : Int32), (0 : Int32)) = (ii 0, (0 : Int32)) from rfl, up_sum (N := n) (by omega) (fun k => trf p w n A k * trf p w n B k % p * (w ^ (n * n - k * y) % p) % p) 0 (b := .inl (ii (su (fun k => trf p w n A k * trf p w n B k % p * (w ^ (n * n - k * y) % p) % p) n), ii n)) ?_ ?_]
  · have hb : su (fun k => trf p w n A k * trf p w n B k % p * (w ^ (n * n - k * y) % p) % p) n ≤ n * 9999 := su_le fun i _ => by
      have := Nat.mod_lt (trf p w n A i * trf p w n B i % p * (w ^ (n * n - i * y) % p)) (show 0 < p by omega)
      show _ % p ≤ _
      omega
    have hs : su (fun k => trf p w n A k * trf p w n B k % p * (w ^ (n * n - k * y) % p) % p) n % p = wsum p w n A B y % p := su_mod fun i _ => Nat.mod_mod _ _
    have hl := Nat.mod_lt (wsum p w n A B y) (show 0 < p by omega)
    have hq := Nat.div_le_self (p - 1) n
    have b3 : wsum p w n A B y % p * (p - (p - 1) / n) ≤ 9999 * 9999 := Nat.mul_le_mul (by omega) (Nat.le_trans (Nat.sub_le _ _) h9)
    show some (d_X7_rest ((d_X7_rest (ii _) (M.1 17 0)) * ((M.1 17 0) - (d_X7_share ((M.1 17 0) - (1 : Int32)) (M.1 17 1)))) (M.1 17 0)) = _
    rw [h0, h1, rest_i (by omega) (by omega) (by omega), hs, show (1 : Int32) = ii 1 from rfl, ii_sub (by omega), share_i (by omega) hn (by omega), ii_sub (by omega), ii_mul, rest_i (by omega) (by omega) (by omega)]
  · intro k s hk
    have hky : k * y ≤ n * n := Nat.mul_le_mul (by omega) (by omega)
    have hnn : n * n ≤ 36 * 36 := Nat.mul_le_mul hn36 hn36
    have t1 := htr A k
    have t2 := htr B k
    have t3 := hpow (n * n - k * y)
    have b1 : trf p w n A k * trf p w n B k ≤ 9999 * 9999 := Nat.mul_le_mul (by omega) (by omega)
    have l1 := Nat.mod_lt (trf p w n A k * trf p w n B k) (show 0 < p by omega)
    have b2 : trf p w n A k * trf p w n B k % p * (w ^ (n * n - k * y) % p) ≤ 9999 * 9999 := Nat.mul_le_mul (by omega) (by omega)
    unfold g_X6_waysTo_1
    dsimp only
    rw [h1, if_pos ((ii_lt (by omega) (by omega)).mpr hk), valueAt_i h0 h1 h18 hp h9 hw hn hn36 hk hA, valueAt_i h0 h1 h18 hp h9 hw hn hn36 hk hB, ii_mul, ii_mul, ii_sub hky, powerOf_i h1 h18 hp hw hn hn36 (by omega), ii_inc]
    show some (Sum.inl (ii s + (d_X7_rest ((d_X7_rest (ii _ * ii _) (M.1 17 0)) * ii _) (M.1 17 0)), _)) = _
    rw [h0, ii_mul, rest_i (by omega) (by omega) (by omega), ii_mul, rest_i (by omega) (by omega) (by omega), ii_add]
  · unfold g_X6_waysTo_1
    dsimp only
    rw [h1, if_neg (by rw [ii_lt (by omega) (by omega)]; omega), Nat.zero_add]
end Tra
section Cas
variable {M : Mem} {m n c : Nat} {a : Nat → Nat} {r : Nat} {q : Nat → Nat} {p w : Nat}
theorem needRoot_no (h : InvP M m n c a r q p w) (hp : p = 0) : d_X7_needRoot M = some (.inr "java/lang/IllegalStateException", M) := by
  unfold d_X7_needRoot
  rw [h.2.2.2.2.1, if_pos (by rw [hp]; rfl)]
theorem needRoot_ok (h : InvP M m n c a r q p w) (hp : p ≠ 0) : d_X7_needRoot M = some (.inl none, M) := by
  have := h.2.2.2.2.2.2.1
  unfold d_X7_needRoot
  rw [h.2.2.2.2.1, if_neg (ii_ne0 (by omega) (by omega))]
end Cas
