/-! TRANSFORMS -/
theorem su_mod {p : Nat} {f g : Nat → Nat} : ∀ {n}, (∀ i, i < n → f i % p = g i % p) → su f n % p = su g n % p
  | 0, _ => rfl
  | n + 1, h => by
    show (su f n + f n) % p = (su g n + g n) % p
    rw [Nat.add_mod, su_mod (fun i hi => h i (by omega)), h n (by omega), ← Nat.add_mod]
theorem su_le {f : Nat → Nat} {c : Nat} : ∀ {n}, (∀ i, i < n → f i ≤ c) → su f n ≤ n * c
  | 0, _ => by rw [Nat.zero_mul]; exact Nat.le_refl 0
  | n + 1, h => by
    have := su_le (n := n) fun i hi => h i (by omega)
    have := h n (by omega)
    show su f n + f n ≤ _
    rw [Nat.add_mul]
    omega
def trf (p w n S k : Nat) : Nat := su (fun y => if S.testBit y then w ^ (k * y) else 0) n % p
section Tra
variable {M : Mem}
theorem power_i {p b e : Nat} (h6 : M.1 19 6 = ii p) (hp : 2 ≤ p) (h9 : p ≤ 9999) (hb : b ≤ 9999) (he : e < 20000) : d_X8_power (ii b) (ii e) M = some (ii (b ^ e % p)) := by
  have hpow : ∀ e, b ^ e % p < p := fun e => Nat.mod_lt _ (by omega)
  unfold d_X8_power
  have key := it_full (g := g_X8_power_1 (ii b) (ii e) M) e (fun k => (ll (b ^ k % p), ii k)) (b := .inl (ll (b ^ e % p), ii e)) he (fun k hk => by
    have b1 := hpow k
    have b3 : b ^ k % p * b ≤ 9999 * 9999 := Nat.mul_le_mul (by omega) hb
    unfold g_X8_power_1
    dsimp only
    rw [if_pos ((ii_lt (by omega) (by omega)).mpr hk), h6, ii_i64 (by omega), ii_i64 (by omega), if_neg (ll_ne0 (by omega) (by omega)), ll_mul, ll_rem (by omega) (by omega), Nat.mod_mul_mod, ← Nat.pow_succ, ii_inc]) (by
    unfold g_X8_power_1
    dsimp only
    rw [if_neg (by rw [ii_lt (by omega) (by omega)]; omega)])
  have e0 : ((1 : Int64), (0 : Int32)) = (ll (b ^ 0 % p), ii 0) := by rw [Nat.pow_zero, Nat.mod_eq_of_lt hp]; rfl
  rw [e0, key]
  show some (ll _).toInt32 = _
  rw [ll_i32]
theorem powerOf_i {p w n x : Nat} (h1 : M.1 17 1 = ii n) (h18 : ∀ e, e < n → M.1 18 e = ii (w ^ e % p)) (hp : 1 < p) (hw : w ^ n % p = 1) (hn : 0 < n) (hn36 : n ≤ 36) (hx : x < 2147483648) : d_X6_powerOf (ii x) M = ii (w ^ x % p) := by
  have hl := Nat.mod_lt x hn
  unfold d_X6_powerOf d_X7_at
  rw [h1, rest_i hx hn (by omega), if_neg (ii_lt0 (by omega)), if_pos (by rw [show (36 : Int32) = ii 36 from rfl, ii_lt (by omega) (by decide)]; omega), ii_ix (by omega), h18 _ hl, ← pow_red hp hw]
theorem valueAt_i {p w n k S : Nat} (h0 : M.1 17 0 = ii p) (h1 : M.1 17 1 = ii n) (h18 : ∀ e, e < n → M.1 18 e = ii (w ^ e % p)) (hp : 1 < p) (h9 : p ≤ 9999) (hw : w ^ n % p = 1) (hn : 0 < n) (hn36 : n ≤ 36) (hk : k < n) (hS : S < 2 ^ n) : d_X6_valueAt (ii k) (ll S) M = some (ii (trf p w n S k)) := by
  have hpow : ∀ e, w ^ e % p < p := fun e => Nat.mod_lt _ (by omega)
  have hS64 : S < 18446744073709551616 := set64 hS hn36
  unfold d_X6_valueAt
  rw [show ((0 : Int32), (0 : Int32)) = (ii 0, (0 : Int32)) from rfl, up_sum (N := n) (by omega) (fun y => if S.testBit y then w ^ (k * y) % p else 0) 0 (b := .inl (ii (su (fun y => if S.testBit y then w ^ (k * y) % p else 0) n), ii n)) ?_ ?_]
  · have hb : su (fun y => if S.testBit y then w ^ (k * y) % p else 0) n ≤ n * 9999 := su_le fun i _ => by
      show (if S.testBit i then _ else _) ≤ _
      have := hpow (k * i)
      split <;> omega
    show some (d_X7_rest (ii _) (M.1 17 0)) = _
    rw [h0, rest_i (by omega) (by omega) (by omega)]
    congr 2
    unfold trf
    refine su_mod fun i _ => ?_
    show (if S.testBit i then _ else _) % p = (if S.testBit i then _ else _) % p
    split
    · rw [Nat.mod_mod]
    · rfl
  · intro y s hy
    have hky : k * y ≤ 36 * 36 := Nat.mul_le_mul (by omega) (by omega)
    unfold g_X6_valueAt_1
    dsimp only
    rw [h1, if_pos ((ii_lt (by omega) (by omega)).mpr hy), has_i hS64 (by omega), ii_mul, powerOf_i h1 h18 hp hw hn hn36 (by omega), ii_inc]
    cases S.testBit y with
    | false =>
      rw [if_pos (by decide), if_neg (by decide)]
      rfl
    | true => rw [if_neg (by decide), if_pos rfl, ii_add]
  · unfold g_X6_valueAt_1
    dsimp only
    rw [h1, if_neg (by rw [ii_lt (by omega) (by omega)]; omega), Nat.zero_add]
theorem mtrans_i {p w n k S : Nat} (h6 : M.1 19 6 = ii p) (h7 : M.1 19 7 = ii w) (h1 : M.1 19 1 = ii n) (hp : 2 ≤ p) (h9 : p ≤ 9999) (hw : w ≤ 9999) (hn36 : n ≤ 36) (hk : k < n) (hS : S < 2 ^ n) : d_X8_transformOf (ll S) (ii k) M = some (ii (trf p w n S k)) := by
  have hpow : ∀ e, w ^ e % p < p := fun e => Nat.mod_lt _ (by omega)
  have hS64 : S < 18446744073709551616 := set64 hS hn36
  unfold d_X8_transformOf
  have key := it_full (g := g_X8_transformOf_1 (ll S) (ii k) M) n (fun y => (ii (trf p w y S k), ii y)) (b := .inl (ii (trf p w n S k), ii n)) (by omega) (fun y hy => by
    have hky : k * y ≤ 36 * 36 := Nat.mul_le_mul (by omega) (by omega)
    have b1 := hpow (k * y)
    have b2 : trf p w y S k < p := Nat.mod_lt _ (by omega)
    have e : trf p w (y + 1) S k = (trf p w y S k + (if S.testBit y then w ^ (k * y) else 0)) % p := by
      show (su _ y + (if S.testBit y then w ^ (k * y) else 0)) % p = _
      unfold trf
      rw [Nat.mod_add_mod]
    unfold g_X8_transformOf_1
    dsimp only
    rw [h1, if_pos ((ii_lt (by omega) (by omega)).mpr hy), mhas_i hS64 (by omega), h7, ii_mul, power_i h6 hp h9 hw (by omega), ii_inc, e]
    cases S.testBit y with
    | false => rw [if_pos (by decide), if_neg (by decide), show (trf p w y S k + 0) % p = trf p w y S k from Nat.mod_eq_of_lt b2]
    | true =>
      rw [if_neg (by decide), if_pos rfl]
      show (if M.1 19 6 = 0 then none else some (Sum.inl (jrem (ii _ + ii _) (M.1 19 6), _))) = _
      rw [h6, if_neg (ii_ne0 (by omega) (by omega)), ii_add, ii_rem (by omega) (by omega), Nat.add_mod_mod]) (by
    unfold g_X8_transformOf_1
    dsimp only
    rw [h1, if_neg (by rw [ii_lt (by omega) (by omega)]; omega)])
  have e0 : ((0 : Int32), (0 : Int32)) = (ii (trf p w 0 S k), ii 0) := by
    show _ = (ii (0 % p), ii 0)
    rw [Nat.zero_mod]
    rfl
  rw [e0, key]
  rfl
/-- the ways to an element, but for the number that n is turned over by -/
def wsum (p w n A B y : Nat) : Nat := su (fun k => trf p w n A k * trf p w n B k % p * (w ^ (n * n - k * y) % p)) n
theorem cwaysTo_i {p w n y A B : Nat} (h0 : M.1 17 0 = ii p) (h1 : M.1 17 1 = ii n) (h18 : ∀ e, e < n → M.1 18 e = ii (w ^ e % p)) (hp : 1 < p) (h9 : p ≤ 9999) (hw : w ^ n % p = 1) (hn : 0 < n) (hn36 : n ≤ 36) (hy : y < n) (hA : A < 2 ^ n) (hB : B < 2 ^ n) : d_X6_waysTo (ii y) (ll A) (ll B) M = some (ii (wsum p w n A B y % p * (p - (p - 1) / n) % p)) := by
  have hpow : ∀ e, w ^ e % p < p := fun e => Nat.mod_lt _ (by omega)
  have htr : ∀ S k, trf p w n S k < p := fun S k => Nat.mod_lt _ (by omega)
  unfold d_X6_waysTo
  rw [show ((0 : Int32), (0 : Int32)) = (ii 0, (0 : Int32)) from rfl, up_sum (N := n) (by omega) (fun k => trf p w n A k * trf p w n B k % p * (w ^ (n * n - k * y) % p) % p) 0 (b := .inl (ii (su (fun k => trf p w n A k * trf p w n B k % p * (w ^ (n * n - k * y) % p) % p) n), ii n)) ?_ ?_]
  · have hb : su (fun k => trf p w n A k * trf p w n B k % p * (w ^ (n * n - k * y) % p) % p) n ≤ n * 9999 := su_le fun i _ => by
      have := Nat.mod_lt (trf p w n A i * trf p w n B i % p * (w ^ (n * n - i * y) % p)) (show 0 < p by omega)
      show _ % p ≤ _
      omega
    have hs : su (fun k => trf p w n A k * trf p w n B k % p * (w ^ (n * n - k * y) % p) % p) n % p = wsum p w n A B y % p := su_mod fun i _ => Nat.mod_mod _ _
    have hl := Nat.mod_lt (wsum p w n A B y) (show 0 < p by omega)
    have hq := Nat.div_le_self (p - 1) n
    have b3 : wsum p w n A B y % p * (p - (p - 1) / n) ≤ 9999 * 9999 := Nat.mul_le_mul (by omega) (Nat.le_trans (Nat.sub_le _ _) h9)
    show some (d_X7_rest ((d_X7_rest (ii _) (M.1 17 0)) * ((M.1 17 0) - (d_X7_share ((M.1 17 0) - (1 : Int32)) (M.1 17 1)))) (M.1 17 0)) = _
    rw [h0, h1, rest_i (by omega) (by omega) (by omega), hs, show (1 : Int32) = ii 1 from rfl, ii_sub (by omega), share_i (by omega) hn (by omega), ii_sub (by omega), ii_mul, rest_i (by omega) (by omega) (by omega)]
  · intro k s hk
    have hky : k * y ≤ n * n := Nat.mul_le_mul (by omega) (by omega)
    have hnn : n * n ≤ 36 * 36 := Nat.mul_le_mul hn36 hn36
    have t1 := htr A k
    have t2 := htr B k
    have t3 := hpow (n * n - k * y)
    have b1 : trf p w n A k * trf p w n B k ≤ 9999 * 9999 := Nat.mul_le_mul (by omega) (by omega)
    have l1 := Nat.mod_lt (trf p w n A k * trf p w n B k) (show 0 < p by omega)
    have b2 : trf p w n A k * trf p w n B k % p * (w ^ (n * n - k * y) % p) ≤ 9999 * 9999 := Nat.mul_le_mul (by omega) (by omega)
    unfold g_X6_waysTo_1
    dsimp only
    rw [h1, if_pos ((ii_lt (by omega) (by omega)).mpr hk), valueAt_i h0 h1 h18 hp h9 hw hn hn36 hk hA, valueAt_i h0 h1 h18 hp h9 hw hn hn36 hk hB, ii_mul, ii_mul, ii_sub hky, powerOf_i h1 h18 hp hw hn hn36 (by omega), ii_inc]
    show some (Sum.inl (ii s + (d_X7_rest ((d_X7_rest (ii _ * ii _) (M.1 17 0)) * ii _) (M.1 17 0)), _)) = _
    rw [h0, ii_mul, rest_i (by omega) (by omega) (by omega), ii_mul, rest_i (by omega) (by omega) (by omega), ii_add]
  · unfold g_X6_waysTo_1
    dsimp only
    rw [h1, if_neg (by rw [ii_lt (by omega) (by omega)]; omega), Nat.zero_add]
end Tra
section Cas
variable {M : Mem} {m n c : Nat} {a : Nat → Nat} {r : Nat} {q : Nat → Nat} {p w : Nat}
theorem needRoot_no (h : InvP M m n c a r q p w) (hp : p = 0) : d_X7_needRoot M = some (.inr "java/lang/IllegalStateException", M) := by
  unfold d_X7_needRoot
  rw [h.2.2.2.2.1, if_pos (by rw [hp]; rfl)]
theorem needRoot_ok (h : InvP M m n c a r q p w) (hp : p ≠ 0) : d_X7_needRoot M = some (.inl none, M) := by
  have := h.2.2.2.2.2.2.1
  unfold d_X7_needRoot
  rw [h.2.2.2.2.1, if_neg (ii_ne0 (by omega) (by omega))]
theorem cs_transform (h : Inv M) (v1 v2 : Int32) : CsI (d_L_transform v1 v2) (d_X8_transform v1 v2) M := by
  obtain ⟨m, n, c, a, r, q, p, w, h⟩ := h
  have hc := h.2.2.1.1
  have hle := h.1.le
  have hn := h.1.2.1
  have g1 := h.1.2.2.2.2.1
  have m1 := h.2.1.2.2.2.2
  have hp9 := h.2.2.2.2.2.2.1
  rcases nIx v1 (show c < 2147483648 by omega) with b1 | ⟨i, hi, rfl⟩
  · exact CsI.thr h 1 0 (by decide) (by simp only [d_L_transform, d_X7_transform, needSet_bad h b1, onV_ok, onV_thr, onI_ok, onI_thr, onL_ok, onL_thr, Option.bind_some, c10, c00, cl0, cl1, cl2, cl3, e1a, e1b, e1c, e2a, e2b, e2c, e3a, e3b, e3c, inb0, ix0, if_true, if_false, reduceIte]) (by simp only [d_X8_transform, isSet_bad h b1, onV_ok, onV_thr, onI_ok, onI_thr, onL_ok, onL_thr, Option.bind_some, c10, c00, cl0, cl1, cl2, cl3, e1a, e1b, e1c, e2a, e2b, e2c, e3a, e3b, e3c, inb0, ix0, if_true, if_false, reduceIte])
  have en : ii n - (1 : Int32) = ii (n - 1) := by rw [show (1 : Int32) = ii 1 from rfl, ii_sub hn]
  rcases inR (0 : Int32) v2 (ii (n - 1)) with ⟨r1, r2⟩ | ⟨r1, r2, r3, r4⟩
  · exact CsI.thr h 2 0 (by decide) (by simp only [d_L_transform, d_X7_transform, needSet_ok h hi, g1, en, r1, onV_ok, onV_thr, onI_ok, onI_thr, onL_ok, onL_thr, Option.bind_some, c10, c00, cl0, cl1, cl2, cl3, e1a, e1b, e1c, e2a, e2b, e2c, e3a, e3b, e3c, inb0, ix0, if_true, if_false, reduceIte]) (by simp only [d_X8_transform, isSet_ok h hi, m1, en, r2, onV_ok, onV_thr, onI_ok, onI_thr, onL_ok, onL_thr, Option.bind_some, c10, c00, cl0, cl1, cl2, cl3, e1a, e1b, e1c, e2a, e2b, e2c, e3a, e3b, e3c, inb0, ix0, if_true, if_false, reduceIte])
  obtain ⟨k, rfl, -, hk⟩ := rngN (lo := 0) (hi := n - 1) (by decide) (by omega) r3 r4
  by_cases hp : p = 0
  · have p6 : M.1 19 6 = 0 := by rw [h.2.2.2.2.2.1, hp]; rfl
    exact CsI.thr h 3 0 (by decide) (by simp only [d_L_transform, d_X7_transform, needSet_ok h hi, g1, en, r1, needRoot_no h hp, onV_ok, onV_thr, onI_ok, onI_thr, onL_ok, onL_thr, Option.bind_some, c10, c00, cl0, cl1, cl2, cl3, e1a, e1b, e1c, e2a, e2b, e2c, e3a, e3b, e3c, inb0, ix0, if_true, if_false, reduceIte]) (by simp only [d_X8_transform, isSet_ok h hi, m1, en, r2, if_pos p6, onV_ok, onV_thr, onI_ok, onI_thr, onL_ok, onL_thr, Option.bind_some, c10, c00, cl0, cl1, cl2, cl3, e1a, e1b, e1c, e2a, e2b, e2c, e3a, e3b, e3c, inb0, ix0, if_true, if_false, reduceIte])
  obtain ⟨rfl, t1, t7, ⟨hpr, -, hw1, hw2, ho, -⟩, t18⟩ := h.2.2.2.2.2.2.2 hp
  have t0 := h.2.2.2.2.1
  have hS : a i < 2 ^ n := by have := set_lt h hi; rwa [Nat.one_mul] at this
  refine CsI.ok h (ii (trf p w n (a i) k)) (by simp only [d_L_transform, d_X7_transform, needSet_ok h hi, g1, en, r1, needRoot_ok h hp, bitsOf_ok h hi, valueAt_i t0 t1 t18 hpr.1 hp9 ho hn hle.2 (show k < n by omega) hS, onV_ok, onV_thr, onI_ok, onI_thr, onL_ok, onL_thr, Option.bind_some, c10, c00, cl0, cl1, cl2, cl3, e1a, e1b, e1c, e2a, e2b, e2c, e3a, e3b, e3c, inb0, ix0, if_true, if_false, reduceIte]) (fun g => ?_)
  have p6 : ¬ (sL M 29 0 (ii (trf p w n (a i) k)).toInt64).1 19 6 = 0 := by rw [g.2.2.2.2.2.1]; exact ii_ne0 (by omega) (by omega)
  have g' := g.t 0
  simp only [d_X8_transform, isSet_ok g hi, g.2.1.2.2.2.2, en, r2, if_neg p6, inb_ok g hi, mem_ok g hi, mtrans_i g'.2.2.2.2.2.1 (g'.2.2.2.2.2.2.2 hp).2.2.1 g'.2.1.2.2.2.2 hpr.1 hp9 (show w ≤ 9999 by omega) hle.2 (show k < n by omega) hS, onV_ok, onV_thr, onI_ok, onI_thr, onL_ok, onL_thr, Option.bind_some, c10, c00, cl0, cl1, cl2, cl3, e1a, e1b, e1c, e2a, e2b, e2c, e3a, e3b, e3c, inb0, ix0, if_true, if_false, reduceIte]
theorem mwaysAnew_loop (h : InvP M m n c a r q p w) {i j e : Nat} (hi : i < c) (hj : j < c) (he : e < m * n) (hp : p ≠ 0) : iter (g_X8_waysAnew_1 (ii i) (ii j) (ii e) M) 20000 ((0 : Int64), (0 : Int32)) = some (.inl (ll (wsum p w n (a i) (a j) e % p), ii n)) := by
  have hle := h.1.le
  have hn := h.1.2.1
  have m1 := h.2.1.2.2.2.2
  have hp9 := h.2.2.2.2.2.2.1
  obtain ⟨rfl, t1, t7, ⟨hpr, -, hw1, hw2, ho, -⟩, t18⟩ := h.2.2.2.2.2.2.2 hp
  have p6 := h.2.2.2.2.2.1
  have p6' : ¬ ii p = (0 : Int32) := ii_ne0 (by omega) (by omega)
  have g := h.t 0
  have hA : a i < 2 ^ n := by have := set_lt h hi; rwa [Nat.one_mul] at this
  have hB : a j < 2 ^ n := by have := set_lt h hj; rwa [Nat.one_mul] at this
  have hp2 := hpr.1
  have htr : ∀ S k, trf p w n S k < p := fun S k => Nat.mod_lt _ (by omega)
  have hpow : ∀ e, w ^ e % p < p := fun e => Nat.mod_lt _ (by omega)
  have tr : ∀ {S k : Nat}, S < 2 ^ n → k < n → d_X8_transformOf (ll S) (ii k) (sI M 19 15 0) = some (ii (trf p w n S k)) := fun hS hk => mtrans_i g.2.2.2.2.2.1 (g.2.2.2.2.2.2.2 hp).2.2.1 g.2.1.2.2.2.2 hp2 hp9 (show w ≤ 9999 by omega) hle.2 hk hS
  rw [Nat.one_mul] at he
  have key := it_full (g := g_X8_waysAnew_1 (ii i) (ii j) (ii e) M) n (fun k => (ll (su (fun k => trf p w n (a i) k * trf p w n (a j) k % p * (w ^ (n * n - k * e) % p)) k % p), ii k)) (b := .inl (ll (wsum p w n (a i) (a j) e % p), ii n)) (by omega) (fun k hk => by
    have hky : k * e ≤ n * n := Nat.mul_le_mul (by omega) (by omega)
    have hnn : n * n ≤ 36 * 36 := Nat.mul_le_mul hle.2 hle.2
    have l0 := Nat.mod_lt (su (fun k => trf p w n (a i) k * trf p w n (a j) k % p * (w ^ (n * n - k * e) % p)) k) (show 0 < p by omega)
    have e1 : su (fun k => trf p w n (a i) k * trf p w n (a j) k % p * (w ^ (n * n - k * e) % p)) (k + 1) % p = (su (fun k => trf p w n (a i) k * trf p w n (a j) k % p * (w ^ (n * n - k * e) % p)) k % p + trf p w n (a i) k * trf p w n (a j) k % p * (w ^ (n * n - k * e) % p)) % p := by
      show (su _ k + _) % p = _
      rw [Nat.mod_add_mod]
    rw [e1]
    generalize su (fun k => trf p w n (a i) k * trf p w n (a j) k % p * (w ^ (n * n - k * e) % p)) k % p = s0 at l0 ⊢
    have x1 := htr (a i) k
    have x2 := htr (a j) k
    have x3 := hpow (n * n - k * e)
    have b1 : trf p w n (a i) k * trf p w n (a j) k ≤ 9999 * 9999 := Nat.mul_le_mul (by omega) (by omega)
    have l1 := Nat.mod_lt (trf p w n (a i) k * trf p w n (a j) k) (show 0 < p by omega)
    have b2 : trf p w n (a i) k * trf p w n (a j) k % p * (w ^ (n * n - k * e) % p) ≤ 9999 * 9999 := Nat.mul_le_mul (by omega) (by omega)
    have he1 : e < 1 * n := by omega
    simp only [g_X8_waysAnew_1, isSet_ok h hi, isSet_ok h hj, isElement_ok h he1, p6, eq_false p6', inb_ok h hi, inb_ok h hj, mem_ok h hi, mem_ok h hj, tr hA hk, tr hB hk, m1, t7, onV_ok, onV_thr, onI_ok, onI_thr, onL_ok, onL_thr, Option.bind_some, c10, c00, cl0, cl1, cl2, cl3, e1a, e1b, e1c, e2a, e2b, e2c, e3a, e3b, e3c, inb0, ix0, if_true, if_false, reduceIte]
    rw [if_pos ((ii_lt (by omega) (by omega)).mpr hk), ii_mul, ii_mul, ii_sub hky, power_i g.2.2.2.2.2.1 hp2 hp9 (show w ≤ 9999 by omega) (by omega), ii_i64 (show p < 2147483648 by omega), if_neg (ll_ne0 (by omega) (by omega)), ii_i64 (by omega), ii_i64 (by omega), ll_mul, ll_rem (by omega) (by omega), ii_inc]
    show (if ll p = 0 then none else some (Sum.inl (jlrem (ll s0 + ll _ * (ii _).toInt64) (ll p), _))) = _
    rw [if_neg (ll_ne0 (by omega) (by omega)), ii_i64 (by omega), ll_mul, ll_add, ll_rem (by omega) (by omega)]) (by
    have he1 : e < 1 * n := by omega
    simp only [g_X8_waysAnew_1, m1]
    rw [if_neg (by rw [ii_lt (by omega) (by omega)]; omega)]
    rfl)
  have e0 : ((0 : Int64), (0 : Int32)) = (ll (su (fun k => trf p w n (a i) k * trf p w n (a j) k % p * (w ^ (n * n - k * e) % p)) 0 % p), ii 0) := by
    show _ = (ll (0 % p), ii 0)
    rw [Nat.zero_mod]
    rfl
  rw [e0]
  exact key
theorem cs_waysAnew (h : Inv M) (v1 v2 v3 : Int32) : CsI (d_L_waysAnew v1 v2 v3) (d_X8_waysAnew v1 v2 v3) M := by
  obtain ⟨m, n, c, a, r, q, p, w, h⟩ := h
  have hc := h.2.2.1.1
  have hN := h.1.2.2.1
  have hle := h.1.le
  have hn := h.1.2.1
  have hp9 := h.2.2.2.2.2.2.1
  rcases nIx v1 (show c < 2147483648 by omega) with b1 | ⟨i, hi, rfl⟩
  · exact CsI.thr h 1 0 (by decide) (by simp only [d_L_waysAnew, d_X7_waysAnew, needSet_bad h b1, onV_ok, onV_thr, onI_ok, onI_thr, onL_ok, onL_thr, Option.bind_some, c10, c00, cl0, cl1, cl2, cl3, e1a, e1b, e1c, e2a, e2b, e2c, e3a, e3b, e3c, inb0, ix0, if_true, if_false, reduceIte]) (by simp only [d_X8_waysAnew, isSet_bad h b1, onV_ok, onV_thr, onI_ok, onI_thr, onL_ok, onL_thr, Option.bind_some, c10, c00, cl0, cl1, cl2, cl3, e1a, e1b, e1c, e2a, e2b, e2c, e3a, e3b, e3c, inb0, ix0, if_true, if_false, reduceIte])
  rcases nIx v2 (show c < 2147483648 by omega) with b2 | ⟨j, hj, rfl⟩
  · exact CsI.thr h 1 0 (by decide) (by simp only [d_L_waysAnew, d_X7_waysAnew, needSet_ok h hi, needSet_bad h b2, onV_ok, onV_thr, onI_ok, onI_thr, onL_ok, onL_thr, Option.bind_some, c10, c00, cl0, cl1, cl2, cl3, e1a, e1b, e1c, e2a, e2b, e2c, e3a, e3b, e3c, inb0, ix0, if_true, if_false, reduceIte]) (by simp only [d_X8_waysAnew, isSet_ok h hi, isSet_bad h b2, onV_ok, onV_thr, onI_ok, onI_thr, onL_ok, onL_thr, Option.bind_some, c10, c00, cl0, cl1, cl2, cl3, e1a, e1b, e1c, e2a, e2b, e2c, e3a, e3b, e3c, inb0, ix0, if_true, if_false, reduceIte])
  rcases nIx v3 (show m * n < 2147483648 by omega) with b3 | ⟨e, he, rfl⟩
  · exact CsI.thr h 1 0 (by decide) (by simp only [d_L_waysAnew, d_X7_waysAnew, needSet_ok h hi, needSet_ok h hj, needElement_bad h b3, onV_ok, onV_thr, onI_ok, onI_thr, onL_ok, onL_thr, Option.bind_some, c10, c00, cl0, cl1, cl2, cl3, e1a, e1b, e1c, e2a, e2b, e2c, e3a, e3b, e3c, inb0, ix0, if_true, if_false, reduceIte]) (by simp only [d_X8_waysAnew, isSet_ok h hi, isSet_ok h hj, isElement_bad h b3, onV_ok, onV_thr, onI_ok, onI_thr, onL_ok, onL_thr, Option.bind_some, c10, c00, cl0, cl1, cl2, cl3, e1a, e1b, e1c, e2a, e2b, e2c, e3a, e3b, e3c, inb0, ix0, if_true, if_false, reduceIte])
  by_cases hp : p = 0
  · have p6 : M.1 19 6 = 0 := by rw [h.2.2.2.2.2.1, hp]; rfl
    exact CsI.thr h 2 0 (by decide) (by simp only [d_L_waysAnew, d_X7_waysAnew, needSet_ok h hi, needSet_ok h hj, needElement_ok h he, needRoot_no h hp, onV_ok, onV_thr, onI_ok, onI_thr, onL_ok, onL_thr, Option.bind_some, c10, c00, cl0, cl1, cl2, cl3, e1a, e1b, e1c, e2a, e2b, e2c, e3a, e3b, e3c, inb0, ix0, if_true, if_false, reduceIte]) (by simp only [d_X8_waysAnew, isSet_ok h hi, isSet_ok h hj, isElement_ok h he, if_pos p6, onV_ok, onV_thr, onI_ok, onI_thr, onL_ok, onL_thr, Option.bind_some, c10, c00, cl0, cl1, cl2, cl3, e1a, e1b, e1c, e2a, e2b, e2c, e3a, e3b, e3c, inb0, ix0, if_true, if_false, reduceIte])
  have hrt := (h.2.2.2.2.2.2.2 hp).2.2.2.1
  obtain ⟨rfl, t1, t7, ⟨hpr, -, hw1, hw2, ho, -⟩, t18⟩ := h.2.2.2.2.2.2.2 hp
  have t0 := h.2.2.2.2.1
  have hA : a i < 2 ^ n := by have := set_lt h hi; rwa [Nat.one_mul] at this
  have hB : a j < 2 ^ n := by have := set_lt h hj; rwa [Nat.one_mul] at this
  have hen : e < n := by rwa [Nat.one_mul] at he
  have hp2 := hpr.1
  refine CsI.ok h (ii (wsum p w n (a i) (a j) e % p * (p - (p - 1) / n) % p)) (by simp only [d_L_waysAnew, d_X7_waysAnew, needSet_ok h hi, needSet_ok h hj, needElement_ok h he, needRoot_ok h hp, bitsOf_ok h hi, bitsOf_ok h hj, cwaysTo_i t0 t1 t18 hpr.1 hp9 ho hn hle.2 hen hA hB, onV_ok, onV_thr, onI_ok, onI_thr, onL_ok, onL_thr, Option.bind_some, c10, c00, cl0, cl1, cl2, cl3, e1a, e1b, e1c, e2a, e2b, e2c, e3a, e3b, e3c, inb0, ix0, if_true, if_false, reduceIte]) (fun g => ?_)
  have p6 := g.2.2.2.2.2.1
  have p6' : ¬ ii p = (0 : Int32) := ii_ne0 (by omega) (by omega)
  have g' := g.t 0
  have hl := Nat.mod_lt (wsum p w n (a i) (a j) e) (show 0 < p by omega)
  have hl2 := Nat.mod_lt (n ^ (p - 2)) (show 0 < p by omega)
  have b3 : wsum p w n (a i) (a j) e % p * (n ^ (p - 2) % p) ≤ 9999 * 9999 := Nat.mul_le_mul (by omega) (by omega)
  have ep : ii p - (2 : Int32) = ii (p - 2) := by rw [show (2 : Int32) = ii 2 from rfl, ii_sub hp2]
  have ll0 : ¬ ll p = (0 : Int64) := ll_ne0 (by omega) (by omega)
  simp only [d_X8_waysAnew, isSet_ok g hi, isSet_ok g hj, isElement_ok g he, p6, eq_false p6', mwaysAnew_loop g hi hj he hp, g.2.1.2.2.2.2, ep, power_i g'.2.2.2.2.2.1 hp2 hp9 (show n ≤ 9999 by omega) (show p - 2 < 20000 by omega), onIt, ii_i64 (show p < 2147483648 by omega), ii_i64 (show n ^ (p - 2) % p < 2147483648 by omega), eq_false ll0, onV_ok, onV_thr, onI_ok, onI_thr, onL_ok, onL_thr, Option.bind_some, c10, c00, cl0, cl1, cl2, cl3, e1a, e1b, e1c, e2a, e2b, e2c, e3a, e3b, e3c, inb0, ix0, if_true, if_false, reduceIte]
  rw [ll_mul, ll_rem (by omega) (by omega), ll_i32, inverse_i hpr hn (hrt.dvd hn)]
end Cas
