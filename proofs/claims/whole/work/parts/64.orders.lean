/-! THE REFERENCE'S ORDERS AND MAPS -/
def nxt' : Nat → Nat → Nat → Nat → Option Nat
  | 0, _, _, _ => none
  | f + 1, t, w, x => bif t.testBit x then nxt' f t w (x + 1) else bif Nat.beq w 0 then some x else nxt' f t (w - 1) (x + 1)
def unr (k : Nat) : Nat → Nat → Nat → Nat → List Nat → Option (List Nat)
  | 0, _, _, _, l => some l
  | d + 1, left, each, taken, l => bif Nat.beq (each / (d + 1)) 0 then none else
    match nxt' 12 taken (left / (each / (d + 1))) 0 with
    | none => none
    | some x => bif Nat.blt x k then unr k d (left % (each / (d + 1))) (each / (d + 1)) (taken ||| 2 ^ x) (l ++ [x]) else none
def fac : Nat → Nat
  | 0 => 1
  | k + 1 => fac k * (k + 1)
def Un (k x : Nat) : List Nat := (unr k k x (fac k) 0 []).getD []
theorem un_some : ∀ k, k < 7 → ∀ x, x < fac k → (unr k k x (fac k) 0 []).isSome = true := by decide +kernel
theorem un_lt : ∀ k, k < 7 → ∀ x, x < fac k → (Un k x).all (fun p => Nat.blt p k) = true := by decide +kernel
theorem un_len : ∀ k, k < 7 → ∀ x, x < fac k → (Un k x).length = k := by decide +kernel
theorem ext_un : ∀ k, k < 7 → ext k k [] = (List.range (fac k)).map (Un k) := by decide +kernel
theorem fac_le : ∀ k, k < 7 → 1 ≤ fac k ∧ fac k ≤ 720 := by decide +kernel
theorem jsl_6 (k : Nat) (h : k < 6) : jsl (1 : Int32) (ii k) = ii (2 ^ k) := jsl_i k (by omega)
section Ord
variable {m n r k s t : Nat}
theorem nxw_i {a1 : Int32 × Int32 × Int32 × Int32 × Mem} {T : Nat} (ht : T < 64) (e : a1.2.2.1 = ii T) : ∀ (f w x y fu : Nat), nxt' f T w x = some y → f < fu → w < 1000 → x + f < 60 → ∃ u, iter (g_X8_ordersBy_2 a1) fu (ii w, ii x) = some (.inl (u, ii y))
  | 0, w, x, y, fu, h, _, _, _ => by cases h
  | f + 1, w, x, y, 0, _, hf, _, _ => absurd hf (Nat.not_lt_zero _)
  | f + 1, w, x, y, fu + 1, h, hf, hw, hx => by
    have hh : d_X8_has a1.2.2.1.toInt64 (ii x) = if T.testBit x then (1 : Int32) else 0 := by
      rw [e, ii_i64 (by omega), mhas_i (by omega) (by omega)]
    unfold nxt' at h
    unfold iter
    by_cases c : T.testBit x = true
    · rw [c] at h
      have h' : nxt' f T w (x + 1) = some y := h
      have hg : g_X8_ordersBy_2 a1 (ii w, ii x) = some (.inl (ii w, ii (x + 1))) := by
        unfold g_X8_ordersBy_2
        dsimp only
        rw [hh, if_pos c, if_neg (by decide), if_neg (by decide), ii_inc, show (0 : Int32) = ii 0 from rfl, ii_sub (Nat.zero_le _)]
        rfl
      rw [hg]
      exact nxw_i ht e f w (x + 1) y fu h' (by omega) hw (by omega)
    · rw [Bool.eq_false_iff.mpr c] at h
      by_cases d : w = 0
      · subst d
        have h' : x = y := Option.some.inj h
        subst h'
        have hg : g_X8_ordersBy_2 a1 (ii 0, ii x) = some (.inr (.inl (ii 0, ii x))) := by
          unfold g_X8_ordersBy_2
          dsimp only
          rw [hh, if_neg c, if_pos rfl, if_pos (by decide)]
        rw [hg]
        exact ⟨_, rfl⟩
      · have h' : nxt' f T (w - 1) (x + 1) = some y := by
          rw [show Nat.beq w 0 = false from Bool.eq_false_iff.mpr fun z => d (Nat.eq_of_beq_eq_true z)] at h
          exact h
        have hg : g_X8_ordersBy_2 a1 (ii w, ii x) = some (.inl (ii (w - 1), ii (x + 1))) := by
          unfold g_X8_ordersBy_2
          dsimp only
          rw [hh, if_neg c, if_pos rfl, if_neg (by rw [show (0 : Int32) = ii 0 from rfl, ii_le (by omega) (by decide)]; omega), if_pos rfl, ii_inc, show (1 : Int32) = ii 1 from rfl, ii_sub (by omega)]
        rw [hg]
        exact nxw_i ht e f (w - 1) (x + 1) y fu h' (by omega) (by omega) (by omega)
theorem unr_i (hk : k ≤ 6) : ∀ (d left each T : Nat) (l l' : List Nat) (M : Mem) (fu : Nat), unr k d left each T l = some l' → d < fu → l.length + d = k → left < 1000 → each < 1000 → T < 64 → (∀ i, i < l.length → M.1 24 i = ii (l.getD i 0)) →
    ∃ (y1 y2 y3 y4 : Int32) (D : Mem), iter (g_X8_ordersBy_1 (ii k)) fu (ii left, ii each, ii T, ii l.length, M) = some (.inl (y1, y2, y3, y4, D)) ∧ (∀ i, i < k → D.1 24 i = ii (l'.getD i 0)) ∧ Fr (fun k _ => k = 24) M D
  | _, _, _, _, _, _, _, 0, _, hf, _, _, _, _, _ => absurd hf (Nat.not_lt_zero _)
  | 0, left, each, T, l, l', M, fu + 1, h, hf, hl, h1, h2, h3, hM => by
    have e : l = l' := Option.some.inj h
    subst e
    have hlk : l.length = k := by omega
    refine ⟨ii left, ii each, ii T, ii l.length, M, ?_, fun i hi => hM i (by omega), Fr.rf _ M⟩
    unfold iter g_X8_ordersBy_1
    dsimp only
    rw [if_neg (by rw [ii_lt (by omega) (by omega)]; omega)]
  | d + 1, left, each, T, l, l', M, fu + 1, h, hf, hl, h1, h2, h3, hM => by
    unfold unr at h
    have c : ¬ each / (d + 1) = 0 := fun z => by
      rw [z] at h
      cases h
    rw [show Nat.beq (each / (d + 1)) 0 = false from Bool.eq_false_iff.mpr fun z => c (Nat.eq_of_beq_eq_true z)] at h
    have hq1 := Nat.div_le_self each (d + 1)
    generalize hq : each / (d + 1) = q at *
    have hqp : 0 < q := Nat.pos_of_ne_zero c
    have hw := Nat.div_le_self left q
    have hlt := Nat.mod_lt left hqp
    cases hx : nxt' 12 T (left / q) 0 with
    | none => rw [hx] at h; cases h
    | some x =>
      rw [hx] at h
      replace h : (bif Nat.blt x k then unr k d (left % q) q (T ||| 2 ^ x) (l ++ [x]) else none) = some l' := h
      have hxk : Nat.blt x k = true := by
        cases hb : Nat.blt x k with
        | true => rfl
        | false => rw [hb] at h; cases h
      rw [hxk] at h
      replace h : unr k d (left % q) q (T ||| 2 ^ x) (l ++ [x]) = some l' := h
      have hxk' : x < k := Nat.blt_eq.mp hxk
      have hlen : (l ++ [x]).length = l.length + 1 := by rw [List.length_append]; rfl
      obtain ⟨u, i1⟩ := nxw_i (a1 := (ii left, ii each, ii T, ii l.length, M)) h3 rfl 12 (left / q) 0 x 20000 hx (by decide) (by omega) (by decide)
      have hT : T ||| 2 ^ x < 2 ^ 6 := or_lt h3 (by omega)
      have step : g_X8_ordersBy_1 (ii k) (ii left, ii each, ii T, ii l.length, M) = some (.inl (ii (left % q), ii q, ii (T ||| 2 ^ x), ii (l ++ [x]).length, sI M 24 l.length (ii x))) := by
        unfold g_X8_ordersBy_1
        dsimp only
        rw [if_pos ((ii_lt (by omega) (by omega)).mpr (by omega)), ii_sub (by omega), show k - l.length = d + 1 by omega, if_neg (ii_ne0 (by omega) (by omega)), ii_div (by omega) (by omega), hq, if_neg (ii_ne0 hqp (by omega)), if_neg (ii_ne0 hqp (by omega)), ii_div (by omega) (by omega), show (0 : Int32) = ii 0 from rfl, i1]
        show (if inb (ii l.length) 6 = true then some (Sum.inl (jrem (ii left) (ii q), ii q, ii T ||| jsl (1 : Int32) (ii x), ii l.length + (1 : Int32), sI M 24 (ix (ii l.length)) (ii x))) else none) = _
        rw [if_pos (ii_inb (n := 6) (by omega) (by decide)), ii_rem (by omega) (by omega), jsl_6 x (by omega), ii_or, ii_inc, ii_ix (by omega), hlen]
      unfold iter
      rw [step]
      obtain ⟨y1, y2, y3, y4, D, d1, d2, d3⟩ := unr_i hk d (left % q) q (T ||| 2 ^ x) (l ++ [x]) l' (sI M 24 l.length (ii x)) fu h (by omega) (by omega) (by omega) (by omega) (by omega) (fun i hi => by
        rw [getD_app]
        by_cases z : i < l.length
        · rw [if_pos z, sI_ne _ _ (fun w => by have := w.2; omega)]
          exact hM i z
        · have : i = l.length := by omega
          rw [if_neg z, if_pos this, this, sI_at])
      exact ⟨y1, y2, y3, y4, D, d1, d2, ((Fr.rf (fun k _ => k = 24) M).i 24 _ _ rfl).tr d3⟩
theorem orders_i {M : Mem} (hk : k ≤ 6) {x : Nat} (hx : x < fac k) : ∃ D : Mem, d_X8_ordersBy (ii x) (ii k) (ii (fac k)) M = some (.inl none, D) ∧ (∀ i, i < k → D.1 24 i = ii ((Un k x).getD i 0)) ∧ Fr (fun k _ => k = 24) M D := by
  have hfl := fac_le k (by omega)
  have hs := un_some k (by omega) x hx
  obtain ⟨l', hl'⟩ := Option.isSome_iff_exists.mp hs
  obtain ⟨y1, y2, y3, y4, D, d1, d2, d3⟩ := unr_i hk k x (fac k) 0 [] l' M 20000 hl' (by omega) (by show 0 + k = k; omega) (by omega) (by omega) (by decide) (fun i hi => absurd hi (Nat.not_lt_zero i))
  refine ⟨D, ?_, fun i hi => ?_, d3⟩
  · unfold d_X8_ordersBy
    show onIt (iter (g_X8_ordersBy_1 (ii k)) 20000 (ii x, ii (fac k), ii 0, ii ([] : List Nat).length, M)) _ _ = _
    rw [d1]
    rfl
  · rw [d2 i hi]
    unfold Un
    rw [hl']
    rfl
theorem fac_i (hk1 : 1 ≤ k) (hk : k ≤ 6) : ∃ y, iter (g_X8_mapsOf_3 (ii k)) 20000 ((1 : Int32), (2 : Int32)) = some (.inl (ii (fac k), y)) := by
  have := it_full (g := g_X8_mapsOf_3 (ii k)) (k - 1) (fun j => (ii (fac (j + 1)), ii (j + 2))) (b := .inl (ii (fac k), ii (k + 1))) (by omega) (fun j hj => by
    unfold g_X8_mapsOf_3
    dsimp only
    rw [if_pos ((ii_le (by omega) (by omega)).mpr (by omega)), ii_mul, ii_inc]
    rfl) (by
    unfold g_X8_mapsOf_3
    dsimp only
    rw [if_neg (by rw [ii_le (by omega) (by omega)]; omega), show k - 1 + 1 = k by omega, show k - 1 + 2 = k + 1 by omega])
  exact ⟨_, this⟩
/-! sums of the reference -/
def ts (m n k : Nat) (x : Nat → Nat) : Nat → Nat → Nat → Nat
  | 0, _, sum => sum
  | q + 1, left, sum => ts m n k x q (left / k) (ad m n sum (x (left % k)))
theorem ts_lt (hm : 0 < m) (hn : 0 < n) (x : Nat → Nat) : ∀ q left sum, sum < m * n → ts m n k x q left sum < m * n
  | 0, _, _, h => h
  | q + 1, left, sum, _ => ts_lt hm hn x q _ _ (ad_lt hm hn _ _)
theorem ts_it (hm : 0 < m) (hn : 0 < n) {x : Nat → Nat} {g : Int32 × Int32 × Int32 → Option ((Int32 × Int32 × Int32) ⊕ ((Int32 × Int32 × Int32) ⊕ Int32))} (hg : ∀ left sum j, left < 1000 → sum < m * n → j < r → g (ii left, ii sum, ii j) = some (.inl (ii (left / k), ii (ad m n sum (x (left % k))), ii (j + 1)))) (he : ∀ left sum, g (ii left, ii sum, ii r) = some (.inr (.inl (ii left, ii sum, ii r)))) :
    ∀ (q left sum j fu : Nat), j + q = r → q < fu → left < 1000 → sum < m * n → ∃ u v, iter g fu (ii left, ii sum, ii j) = some (.inl (u, ii (ts m n k x q left sum), v))
  | _, _, _, _, 0, _, hf, _, _ => absurd hf (Nat.not_lt_zero _)
  | 0, left, sum, j, fu + 1, hj, _, _, _ => by
    have : j = r := by omega
    subst this
    unfold iter
    rw [he]
    exact ⟨_, _, rfl⟩
  | q + 1, left, sum, j, fu + 1, hj, hf, hl, hs => by
    unfold iter
    rw [hg left sum j hl hs (by omega)]
    exact ts_it hm hn hg he q (left / k) _ (j + 1) fu (by omega) (by omega) (by have := Nat.div_le_self left k; omega) (ad_lt hm hn _ _)
theorem sum1_i {M : Mem} (h : MI M m n) (hk1 : 1 ≤ k) (hk : k ≤ 6) (hr : r = 2 ∨ r = 3) {x : Nat → Nat} (hx : ∀ i, i < k → M.1 22 i = ii (x i) ∧ x i < m * n) {a : Nat} (ha : a < 1000) : d_X8_sumBy (1 : Int32) (ii k) (ii a) (ii r) M = some (ii (ts m n k x r a 0)) := by
  obtain ⟨hm, hn, hN, -⟩ := id h
  have hp : 0 < m * n := Nat.mul_pos hm hn
  obtain ⟨u, v, e⟩ := ts_it (g := g_X8_sumBy_1 (1 : Int32) (ii k) (ii r) M) (r := r) (k := k) hm hn (x := x) (fun left sum j hl hs hj => by
    have hlt := Nat.mod_lt left (show 0 < k by omega)
    unfold g_X8_sumBy_1
    dsimp only
    rw [if_pos ((ii_lt (by omega) (by omega)).mpr hj), if_neg (ii_ne0 hk1 (by omega)), if_neg (ii_ne0 hk1 (by omega)), if_neg (by decide), ii_rem (by omega) (by omega), if_pos (ii_inb (n := 36) (by omega) (by decide)), ii_ix (by omega), (hx _ hlt).1, added_i h hs (hx _ hlt).2, ii_div (by omega) (by omega), ii_inc]
    rfl) (fun left sum => by
    unfold g_X8_sumBy_1
    dsimp only
    rw [if_neg (by rw [ii_lt (by omega) (by omega)]; omega)]) r a 0 0 20000 (Nat.zero_add r) (by omega) ha hp
  unfold d_X8_sumBy
  rw [show (0 : Int32) = ii 0 from rfl, e]
  rfl
theorem sum0_i {M : Mem} (h : MI M m n) (hk1 : 1 ≤ k) (hk : k ≤ 6) (hr : r = 2 ∨ r = 3) {x : Nat → Nat} {l : List Nat} (hl : ∀ i, i < k → M.1 24 i = ii (l.getD i 0) ∧ l.getD i 0 < k) (hx : ∀ i, i < k → M.1 23 i = ii (x i) ∧ x i < m * n) {a : Nat} (ha : a < 1000) : d_X8_sumBy (0 : Int32) (ii k) (ii a) (ii r) M = some (ii (ts m n k (fun i => x (l.getD i 0)) r a 0)) := by
  obtain ⟨hm, hn, hN, -⟩ := id h
  have hp : 0 < m * n := Nat.mul_pos hm hn
  obtain ⟨u, v, e⟩ := ts_it (g := g_X8_sumBy_1 (0 : Int32) (ii k) (ii r) M) (r := r) (k := k) hm hn (x := fun i => x (l.getD i 0)) (fun left sum j hl' hs hj => by
    have hlt := Nat.mod_lt left (show 0 < k by omega)
    obtain ⟨l1, l2⟩ := hl _ hlt
    obtain ⟨x1, x2⟩ := hx _ l2
    unfold g_X8_sumBy_1
    dsimp only
    rw [if_pos ((ii_lt (by omega) (by omega)).mpr hj), if_neg (ii_ne0 hk1 (by omega)), if_neg (ii_ne0 hk1 (by omega)), if_pos rfl, ii_rem (by omega) (by omega), if_pos (ii_inb (n := 6) (by omega) (by decide)), ii_ix (show left % k < 2147483648 by omega), l1, if_pos (ii_inb (n := 36) (by omega) (by decide)), ii_ix (by omega), x1, added_i h hs x2, ii_div (by omega) (by omega), ii_inc]
    rfl) (fun left sum => by
    unfold g_X8_sumBy_1
    dsimp only
    rw [if_neg (by rw [ii_lt (by omega) (by omega)]; omega)]) r a 0 0 20000 (Nat.zero_add r) (by omega) ha hp
  unfold d_X8_sumBy
  rw [show ((ii a, (0 : Int32), (0 : Int32))) = (ii a, ii 0, ii 0) from rfl, e]
  rfl
end Ord
