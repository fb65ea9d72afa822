/-! ROOTS AND TRANSFORMS: primes and orders as both find them -/
theorem ll_div {a b : Nat} (ha : a < 9223372036854775808) (hb : b < 9223372036854775808) : ll a / ll b = ll (a / b) := (Int64.ofNat_div ha hb).symm
theorem ll_rem {a b : Nat} (ha : a < 9223372036854775808) (hb : b < 9223372036854775808) : jlrem (ll a) (ll b) = ll (a % b) := by
  have h : a / b * b ≤ a := Nat.div_mul_le_self a b
  unfold jlrem
  rw [ll_div ha hb, ll_mul, ll_sub h]
  congr 1
  have := Nat.mod_add_div a b
  rw [Nat.mul_comm] at this
  omega
theorem ll_ne0 {b : Nat} (hb : 0 < b) (hb2 : b < 18446744073709551616) : ¬ ll b = (0 : Int64) := fun c => by
  have := (ll_eq (b := 0) hb2 (by decide)).mp c
  omega
theorem cprime_i {p : Nat} (h2 : 2 ≤ p) (h9 : p ≤ 9999) : d_X6_isPrime (ii p) = some (bI (Prm p)) := by
  refine k_ex (fun b e1 e2 => ?_) (it_loop (g := g_X6_isPrime_1 (ii p)) 98 (fun k a => a = ii (k + 2) ∧ ∀ d, 2 ≤ d → d < k + 2 → p % d ≠ 0)
    (fun b => (∃ y, b = .inl y ∧ Prm p) ∨ (b = .inr (0 : Int32) ∧ ¬ Prm p)) (a := (2 : Int32)) (by decide) ⟨rfl, fun d h1 h2 => by omega⟩ ?_ ?_)
  · unfold d_X6_isPrime
    rw [e1]
    rcases e2 with ⟨y, rfl, h⟩ | ⟨rfl, h⟩
    · show (if ii p ≤ (1 : Int32) then some (0 : Int32) else some 1) = _
      rw [if_neg (by rw [show (1 : Int32) = ii 1 from rfl, ii_le (by omega) (by decide)]; omega), bI_t h]
    · rw [bI_f h]; rfl
  · rintro k a hk ⟨rfl, h⟩
    unfold g_X6_isPrime_1
    rw [rest_i (by omega) (by omega) (by omega), ii_inc]
    rw [if_pos (show ii (k + 2) ≤ (99 : Int32) by rw [show (99 : Int32) = ii 99 from rfl, ii_le (by omega) (by decide)]; omega)]
    by_cases c : k + 2 < p
    · have hm := Nat.mod_lt p (show 0 < k + 2 by omega)
      rw [if_pos ((ii_lt (by omega) (by omega)).mpr c)]
      by_cases c2 : p % (k + 2) = 0
      · rw [if_pos (by rw [c2]; rfl)]
        exact Or.inr ⟨_, rfl, Or.inr ⟨rfl, fun z => z.2 (k + 2) (by omega) c c2⟩⟩
      · rw [if_neg (ii_ne0 (Nat.pos_of_ne_zero c2) (by omega))]
        refine Or.inl ⟨_, rfl, rfl, fun d g1 g2 => ?_⟩
        by_cases e : d = k + 2
        · rw [e]; exact c2
        · exact h d g1 (by omega)
    · rw [if_neg (fun z => c ((ii_lt (by omega) (by omega)).mp z))]
      exact Or.inr ⟨_, rfl, Or.inl ⟨_, rfl, h2, fun d g1 g2 => h d g1 (by omega)⟩⟩
  · rintro a ⟨rfl, h⟩
    unfold g_X6_isPrime_1
    rw [if_neg (show ¬ ii (98 + 2) ≤ (99 : Int32) by rw [show (99 : Int32) = ii 99 from rfl, ii_le (by omega) (by decide)]; omega)]
    exact ⟨_, rfl, Or.inl ⟨_, rfl, prm_sqrt h2 h (by omega)⟩⟩
theorem mprime_i {p : Nat} (h2 : 2 ≤ p) (h9 : p ≤ 9999) : d_X8_isPrime (ii p) = some (bI (Prm p)) := by
  have hex : ∀ k (P : Prop), k ≤ 98 → (k = 0 ∨ (k + 1) * (k + 1) ≤ p) → (P ↔ ∀ d, 2 ≤ d → d < k + 2 → p % d ≠ 0) → p < (k + 2) * (k + 2) → ∃ b, g_X8_isPrime_1 (ii p) (bI P, ii (k + 2)) = some (.inr b) ∧ ∃ y, b = (.inl (bI (Prm p), y) : (Int32 × Int32) ⊕ Int32) := by
    intro k P hk hs h c
    have hkk : (k + 2) * (k + 2) ≤ 100 * 100 := Nat.mul_le_mul (by omega) (by omega)
    have e : P ↔ Prm p := by
      refine h.trans ⟨fun z => prm_sqrt h2 z c, fun z d g1 g2 => z.2 d g1 ?_⟩
      rcases hs with rfl | hs
      · omega
      · have a1 : d * d ≤ (k + 1) * (k + 1) := Nat.mul_le_mul (by omega) (by omega)
        have a2 : d * 2 ≤ d * d := Nat.mul_le_mul_left _ g1
        omega
    unfold g_X8_isPrime_1
    dsimp only
    rw [ii_mul, if_neg (by rw [ii_le (by omega) (by omega)]; omega), bI_congr e]
    exact ⟨_, rfl, _, rfl⟩
  refine k_ex (fun b e1 e2 => ?_) (it_loop (g := g_X8_isPrime_1 (ii p)) 98 (fun k a => (∃ P : Prop, a = (bI P, ii (k + 2)) ∧ (k = 0 ∨ (k + 1) * (k + 1) ≤ p) ∧ (P ↔ ∀ d, 2 ≤ d → d < k + 2 → p % d ≠ 0)))
    (fun b => ∃ y, b = .inl (bI (Prm p), y)) (a := ((1 : Int32), (2 : Int32))) (by decide) ⟨True, by rw [bI_t trivial]; rfl, Or.inl rfl, fun _ d h1 h2 => by omega, fun _ => trivial⟩ ?_ ?_)
  · obtain ⟨y, rfl⟩ := e2
    unfold d_X8_isPrime
    rw [if_neg (by rw [show (1 : Int32) = ii 1 from rfl, ii_le (by omega) (by decide)]; omega), e1]
    show some (bI _ &&& 1) = _
    rw [bI_one]
  · rintro k a hk ⟨P, rfl, hs, h⟩
    have hkk : (k + 2) * (k + 2) ≤ 100 * 100 := Nat.mul_le_mul (by omega) (by omega)
    have hm := Nat.mod_lt p (show 0 < k + 2 by omega)
    by_cases c : (k + 2) * (k + 2) ≤ p
    · have h2k : (k + 2) * 2 ≤ (k + 2) * (k + 2) := Nat.mul_le_mul_left _ (by omega)
      unfold g_X8_isPrime_1
      dsimp only
      rw [ii_mul, ii_inc, ii_rem (by omega) (by omega), if_pos ((ii_le (by omega) (by omega)).mpr c)]
      by_cases cP : P
      · rw [bI_t cP, if_neg (by decide), if_neg (ii_ne0 (by omega) (by omega))]
        refine Or.inl ⟨_, rfl, p % (k + 2) ≠ 0, ?_, Or.inr c, ?_⟩
        · by_cases c2 : p % (k + 2) = 0
          · rw [if_pos (by rw [c2]; rfl), bI_f fun z => z c2]
          · rw [if_neg (ii_ne0 (Nat.pos_of_ne_zero c2) (by omega)), bI_t c2]
        · constructor
          · intro z d g1 g2
            by_cases e : d = k + 2
            · rw [e]; exact z
            · exact h.mp cP d g1 (by omega)
          · exact fun z => z (k + 2) (by omega) (by omega)
      · rw [bI_f cP, if_pos rfl]
        refine Or.inr ⟨_, rfl, ii (k + 2), ?_⟩
        rw [bI_f fun z : Prm p => cP (h.mpr fun d g1 g2 => z.2 d g1 (by omega))]
    · exact Or.inr (hex k P (by omega) hs h (by omega))
  · rintro a ⟨P, rfl, hs, h⟩
    exact hex 98 P (Nat.le_refl _) hs h (by omega)
/-- w to the n is 1, and to none ahead of it -/
def Od (p w n : Nat) : Prop := w ^ n % p = 1 ∧ ∀ e, 1 ≤ e → e < n → w ^ e % p ≠ 1
theorem croot_i {p w n : Nat} (h2 : 2 ≤ p) (h9 : p ≤ 9999) (hw : w < p) (hn : 0 < n) (hn36 : n ≤ 36) : d_X6_isRoot (ii p) (ii w) (ii n) = some (bI (Od p w n)) := by
  have hpow : ∀ e, w ^ e % p < p := fun e => Nat.mod_lt _ (by omega)
  refine k_ex (fun b e1 e2 => ?_) (it_loop (g := g_X6_isRoot_1 (ii p) (ii w) (ii n)) n (fun k a => a = (ii (w ^ k % p), ii (k + 1)) ∧ ∀ e, 1 ≤ e → e < k + 1 → w ^ e % p ≠ 1)
    (fun b => (∃ y, b = .inl y ∧ ¬ Od p w n) ∨ b = .inr (bI (Od p w n))) (a := ((1 : Int32), (1 : Int32))) (by omega) ⟨by rw [Nat.pow_zero, Nat.mod_eq_of_lt h2]; rfl, fun e g1 g2 => by omega⟩ ?_ ?_)
  · unfold d_X6_isRoot
    rw [e1]
    rcases e2 with ⟨y, rfl, h⟩ | rfl
    · rw [bI_f h]; rfl
    · rfl
  · rintro k a hk ⟨rfl, h⟩
    have b1 := hpow k
    have b2 := hpow (k + 1)
    have b3 : w ^ k % p * w ≤ 9999 * 9999 := Nat.mul_le_mul (by omega) (by omega)
    unfold g_X6_isRoot_1
    dsimp only
    rw [if_pos ((ii_le (by omega) (by omega)).mpr (by omega)), ii_mul, rest_i (by omega) (by omega) (by omega), Nat.mod_mul_mod, ← Nat.pow_succ, ii_inc]
    by_cases c : w ^ (k + 1) % p = 1
    · rw [if_pos (by rw [c]; rfl)]
      by_cases c2 : k + 1 = n
      · rw [if_pos (by rw [c2])]
        refine Or.inr ⟨_, rfl, Or.inr ?_⟩
        rw [bI_t ⟨by rw [← c2]; exact c, by rw [← c2]; exact h⟩]
      · rw [if_neg (fun z => c2 ((ii_eq (by omega) (by omega)).mp z))]
        refine Or.inr ⟨_, rfl, Or.inr ?_⟩
        rw [bI_f fun z : Od p w n => z.2 (k + 1) (by omega) (by omega) c]
    · rw [if_neg (fun (z : ii (w ^ (k + 1) % p) = (1 : Int32)) => c ((ii_eq (b := 1) (by omega) (by decide)).mp z))]
      refine Or.inl ⟨_, rfl, rfl, fun e g1 g2 => ?_⟩
      by_cases e3 : e = k + 1
      · rw [e3]; exact c
      · exact h e g1 (by omega)
  · rintro a ⟨rfl, h⟩
    unfold g_X6_isRoot_1
    dsimp only
    rw [if_neg (by rw [ii_le (by omega) (by omega)]; omega)]
    exact ⟨_, rfl, Or.inl ⟨_, rfl, fun z => h n hn (by omega) z.1⟩⟩
theorem morder_i {p w : Nat} (hp : Prm p) (h9 : p ≤ 9999) (hw1 : 1 ≤ w) (hw : w < p) : ∃ o, d_X8_orderBy (ii w) (ii p) = some (ii o) ∧ Od p w o ∧ 1 ≤ o ∧ o < p := by
  have h2 := hp.1
  have hpow : ∀ e, w ^ e % p < p := fun e => Nat.mod_lt _ (by omega)
  have hf := fermat1 hp hw1 hw
  refine k_ex (fun b e1 e2 => ?_) (it_loop (g := g_X8_orderBy_1 (ii w) (ii p)) (p - 2) (fun k a => a = (ii (k + 1), ll (w ^ (k + 1) % p)) ∧ ∀ e, 1 ≤ e → e < k + 1 → w ^ e % p ≠ 1)
    (fun b => ∃ o y, b = .inl (ii o, y) ∧ Od p w o ∧ 1 ≤ o ∧ o < p) (a := ((1 : Int32), ll (w ^ 1 % p))) (by omega) ⟨rfl, fun e g1 g2 => by omega⟩ ?_ ?_)
  · obtain ⟨o, y, rfl, h⟩ := e2
    refine ⟨o, ?_, h⟩
    unfold d_X8_orderBy
    rw [if_neg (ii_ne0 (by omega) (by omega)), ii_rem (by omega) (by omega), ii_i64 (by have := Nat.mod_lt w (show 0 < p by omega); omega)]
    rw [Nat.pow_one] at e1
    rw [e1]
    rfl
  · rintro k a hk ⟨rfl, h⟩
    have b1 := hpow (k + 1)
    have b3 : w ^ (k + 1) % p * w ≤ 9999 * 9999 := Nat.mul_le_mul (by omega) (by omega)
    unfold g_X8_orderBy_1
    dsimp only
    rw [ll_1]
    by_cases c : w ^ (k + 1) % p = 1
    · rw [if_pos ((lc_0 (by omega) (by decide)).mpr c)]
      exact Or.inr ⟨_, rfl, k + 1, _, rfl, ⟨c, h⟩, by omega, by omega⟩
    · rw [if_neg (fun z => c ((lc_0 (by omega) (by decide)).mp z)), if_pos ((ii_lt (by omega) (by omega)).mpr (by omega)), ii_i64 (by omega), ii_i64 (by omega), if_neg (ll_ne0 (by omega) (by omega)), ll_mul, ll_rem (by omega) (by omega), Nat.mod_mul_mod, ← Nat.pow_succ, ii_inc]
      refine Or.inl ⟨_, rfl, rfl, fun e g1 g2 => ?_⟩
      by_cases e3 : e = k + 1
      · rw [e3]; exact c
      · exact h e g1 (by omega)
  · rintro a ⟨rfl, h⟩
    unfold g_X8_orderBy_1
    dsimp only
    have b1 := hpow (p - 2 + 1)
    have c : w ^ (p - 2 + 1) % p = 1 := by rw [show p - 2 + 1 = p - 1 by omega]; exact hf
    rw [ll_1, if_pos ((lc_0 (by omega) (by decide)).mpr c)]
    exact ⟨_, rfl, p - 2 + 1, _, rfl, ⟨c, h⟩, by omega, by omega⟩
theorem Od.one {p w n o : Nat} (h : Od p w n) (h' : Od p w o) (hn : 1 ≤ n) (ho : 1 ≤ o) : n = o := by
  rcases Nat.lt_trichotomy n o with c | c | c
  · exact absurd h.1 (h'.2 n hn c)
  · exact c
  · exact absurd h'.1 (h.2 o ho c)
/-- nothing is answered -/
def CsV (F G : Mem → Option (Res × Mem)) (M : Mem) : Prop := ∃ (k : Int32) (M1 M2 : Mem), F M = some (.inl (some (.int k)), M1) ∧ G M1 = some (.inl none, M2) ∧ M2.1 19 15 = k ∧ Inv M2
theorem CsV.thr {F G : Mem → Option (Res × Mem)} {M : Mem} {m n c : Nat} {a : Nat → Nat} {r : Nat} {q : Nat → Nat} {p v : Nat} (h : InvP M m n c a r q p v) (k : Int32) (hF : F M = some (.inl (some (.int k)), M)) (hG : G M = some (.inl none, sI M 19 15 k)) : CsV F G M :=
  ⟨k, M, _, hF, hG, sI_at M 19 15 k, m, n, c, a, r, q, p, v, h.w (Wk.thr M k)⟩
theorem c20 : ((2 : Int32) = 0) = False := eq_false (by decide)
section Cas
variable {M : Mem} {m n c : Nat} {a : Nat → Nat} {r : Nat} {q : Nat → Nat} {p w : Nat}
def tS (k j : Nat) : Prop := wk k j ∨ k = 17 ∨ k = 18 ∨ (k = 19 ∧ (j = 6 ∨ j = 7))
theorem root_inv (h : InvP M m n c a r q p w) {p' w' : Nat} {M2 : Mem} (f : Fr tS M M2) (ht : TI M2 m n p' w') : InvP M2 m n c a r q p' w' := by
  obtain ⟨hg, hm, hs', hr, -⟩ := h
  exact ⟨hg.f fun k j hk => f k j (by unfold tS wk; omega), hm.f fun j hj => (f 19 j (by unfold tS wk; omega)).1, hs'.f (f 0 2 (by unfold tS wk; omega)).1 (f 19 2 (by unfold tS wk; omega)).1 fun k j hk => (f k j (by unfold tS wk; omega)).2, hr.f (f 14 2 (by unfold tS wk; omega)).1 (f 19 4 (by unfold tS wk; omega)).1 (f 16 0 (by unfold tS wk; omega)).1 fun k j hk => (f k j (by unfold tS wk; omega)).1, ht⟩
theorem beginT_i (M : Mem) {p w n : Nat} (hp : 2 ≤ p) (h9 : p ≤ 9999) (hw : w < p) (hn36 : n ≤ 36) : ∃ D, d_X6_begin (ii p) (ii w) (ii n) M = some (.inl none, D) ∧ D.1 17 0 = ii p ∧ D.1 17 1 = ii n ∧ (∀ e, e < n → D.1 18 e = ii (w ^ e % p)) ∧ Fr (fun k _ => k = 17 ∨ k = 18) M D := by
  have hpow : ∀ e, w ^ e % p < p := fun e => Nat.mod_lt _ (by omega)
  refine k_ex (fun b e1 e2 => ?_) (it_loop (g := g_X6_begin_1 (ii w)) n (fun k a => ∃ D : Mem, a = (ii (w ^ k % p), ii k, D) ∧ D.1 17 0 = ii p ∧ D.1 17 1 = ii n ∧ (∀ e, e < k → D.1 18 e = ii (w ^ e % p)) ∧ Fr (fun k _ => k = 17 ∨ k = 18) M D)
    (fun b => ∃ (D : Mem) (y z : Int32), b = .inl (y, z, D) ∧ D.1 17 0 = ii p ∧ D.1 17 1 = ii n ∧ (∀ e, e < n → D.1 18 e = ii (w ^ e % p)) ∧ Fr (fun k _ => k = 17 ∨ k = 18) M D) (a := ((1 : Int32), (0 : Int32), sI (sI M 17 0 (ii p)) 17 1 (ii n))) (by omega)
    ⟨_, by rw [Nat.pow_zero, Nat.mod_eq_of_lt hp]; rfl, rfl, rfl, fun e he => absurd he (Nat.not_lt_zero e), ((Fr.rf _ M).i 17 0 _ (Or.inl rfl)).i 17 1 _ (Or.inl rfl)⟩ ?_ ?_)
  · obtain ⟨D, y, z, rfl, h⟩ := e2
    refine ⟨D, ?_, h⟩
    unfold d_X6_begin
    rw [e1]
    rfl
  · rintro k a hk ⟨D, rfl, d1, d2, d3, d4⟩
    have b1 := hpow k
    have b3 : w ^ k % p * w ≤ 9999 * 9999 := Nat.mul_le_mul (by omega) (by omega)
    have lay : d_X7_lay 18 36 (ii k) (ii (w ^ k % p)) D = sI D 18 k (ii (w ^ k % p)) := by
      unfold d_X7_lay
      rw [if_neg (ii_lt0 (by omega)), if_pos (by rw [show (36 : Int32) = ii 36 from rfl, ii_lt (by omega) (by decide)]; omega), ii_ix (by omega)]
    unfold g_X6_begin_1
    dsimp only
    rw [d2, if_pos ((ii_lt (by omega) (by omega)).mpr hk), lay, show (sI D 18 k (ii (w ^ k % p))).1 17 0 = D.1 17 0 from rfl, d1, ii_mul, rest_i (by omega) (by omega) (by omega), Nat.mod_mul_mod, ← Nat.pow_succ, ii_inc]
    refine Or.inl ⟨_, rfl, _, rfl, d1, d2, fun e he => ?_, d4.i 18 k _ (Or.inr rfl)⟩
    by_cases c : e = k
    · rw [c, sI_at]
    · rw [sI_ne _ _ (fun z => c z.2)]
      exact d3 e (by omega)
  · rintro a ⟨D, rfl, d1, d2, d3, d4⟩
    unfold g_X6_begin_1
    dsimp only
    rw [d2, if_neg (by rw [ii_lt (by omega) (by omega)]; omega)]
    exact ⟨_, rfl, D, _, _, rfl, d1, d2, d3, d4⟩
theorem cs_root (h : Inv M) (v1 v2 : Int32) : CsV (d_L_root v1 v2) (d_X8_root v1 v2) M := by
  obtain ⟨m, n, c, a, r, q, p, w, h⟩ := h
  have hle := h.1.le
  have hm := h.1.1
  have hn := h.1.2.1
  have g0 := h.1.2.2.2.1
  have g1 := h.1.2.2.2.2.1
  have m0 := h.2.1.2.2.2.1
  have m1 := h.2.1.2.2.2.2
  rcases inR (2 : Int32) v1 (9999 : Int32) with ⟨r1, r2⟩ | ⟨r1, r2, r3, r4⟩
  · exact CsV.thr h 1 (by simp only [d_L_root, d_X7_root, r1, onV_ok, onV_thr, onI_ok, onI_thr, onL_ok, onL_thr, Option.bind_some, c10, c00, cl0, cl1, cl2, cl3, e1a, e1b, e1c, e2a, e2b, e2c, e3a, e3b, e3c, inb0, ix0, if_true, if_false, reduceIte]) (by simp only [d_X8_root, r2, onV_ok, onV_thr, onI_ok, onI_thr, onL_ok, onL_thr, Option.bind_some, c10, c00, cl0, cl1, cl2, cl3, e1a, e1b, e1c, e2a, e2b, e2c, e3a, e3b, e3c, inb0, ix0, if_true, if_false, reduceIte])
  rcases inR (1 : Int32) v2 (v1 - (1 : Int32)) with ⟨s1, s2⟩ | ⟨s1, s2, s3, s4⟩
  · exact CsV.thr h 1 (by simp only [d_L_root, d_X7_root, r1, s1, onV_ok, onV_thr, onI_ok, onI_thr, onL_ok, onL_thr, Option.bind_some, c10, c00, cl0, cl1, cl2, cl3, e1a, e1b, e1c, e2a, e2b, e2c, e3a, e3b, e3c, inb0, ix0, if_true, if_false, reduceIte]) (by simp only [d_X8_root, r2, s2, onV_ok, onV_thr, onI_ok, onI_thr, onL_ok, onL_thr, Option.bind_some, c10, c00, cl0, cl1, cl2, cl3, e1a, e1b, e1c, e2a, e2b, e2c, e3a, e3b, e3c, inb0, ix0, if_true, if_false, reduceIte])
  obtain ⟨x, rfl, hx2, hx9⟩ := rngN (lo := 2) (hi := 9999) (by decide) (by decide) r3 r4
  rw [show (1 : Int32) = ii 1 from rfl, ii_sub (by omega)] at s4
  obtain ⟨y, rfl, hy1, hy2⟩ := rngN (lo := 1) (hi := x - 1) (by decide) (by omega) s3 s4
  by_cases cp : Prm x
  · have k0 : ¬ bI (Prm x) = 0 := by rw [bI_t cp]; decide
    obtain ⟨o, o1, o2, o3, o4⟩ := morder_i cp hx9 hy1 (by omega)
    have cr := croot_i (n := n) hx2 hx9 (show y < x by omega) hn hle.2
    by_cases co : Od x y n
    · have e0 : ¬ bI (Od x y n) = 0 := by rw [bI_t co]; decide
      have eo : o = n := o2.one co o3 hn
      subst eo
      by_cases cm : m = 1
      · subst cm
        obtain ⟨D, d1, d2, d3, d4, d5⟩ := beginT_i M hx2 hx9 (show y < x by omega) hle.2
        refine ⟨0, D, sI (sI (sI D 19 15 0) 19 6 (ii x)) 19 7 (ii y), ?_, ?_, rfl, 1, o, c, a, r, q, x, y, root_inv h ?_ ⟨d2, rfl, hx9, fun _ => ⟨rfl, d3, rfl, ⟨cp, hx9, hy1, by omega, co⟩, d4⟩⟩⟩
        · simp only [d_L_root, d_X7_root, r1, s1, cprime_i hx2 hx9, if_neg k0, g1, cr, if_neg e0, g0, d1, onV_ok, onV_thr, onI_ok, onI_thr, onL_ok, onL_thr, Option.bind_some, c10, c00, cl0, cl1, cl2, cl3, e1a, e1b, e1c, e2a, e2b, e2c, e3a, e3b, e3c, inb0, ix0, if_true, if_false, reduceIte]
          rw [if_pos (show ii 1 = (1 : Int32) from rfl)]
          rfl
        · have x0 : D.1 19 0 = ii 1 := by rw [(d5 19 0 (by omega)).1]; exact m0
          have x1 : D.1 19 1 = ii o := by rw [(d5 19 1 (by omega)).1]; exact m1
          simp only [d_X8_root, r2, s2, mprime_i hx2 hx9, if_neg k0, o1, x1, x0, if_pos (show ii 1 = (1 : Int32) from rfl), onV_ok, onV_thr, onI_ok, onI_thr, onL_ok, onL_thr, Option.bind_some, c10, c00, cl0, cl1, cl2, cl3, e1a, e1b, e1c, e2a, e2b, e2c, e3a, e3b, e3c, inb0, ix0, if_true, if_false, reduceIte]
        · have d5' : Fr tS M D := fun k j hk => d5 k j (by unfold tS at hk; omega)
          exact ((d5'.i 19 15 _ (by unfold tS wk; omega)).i 19 6 _ (by unfold tS; omega)).i 19 7 _ (by unfold tS; omega)
      · have em : ¬ ii m = (1 : Int32) := fun z => cm ((ii_eq (b := 1) (by omega) (by decide)).mp z)
        exact CsV.thr h 2 (by simp only [d_L_root, d_X7_root, r1, s1, cprime_i hx2 hx9, if_neg k0, g1, cr, if_neg e0, g0, if_neg em, onV_ok, onV_thr, onI_ok, onI_thr, onL_ok, onL_thr, Option.bind_some, c10, c00, cl0, cl1, cl2, cl3, e1a, e1b, e1c, e2a, e2b, e2c, e3a, e3b, e3c, inb0, ix0, if_true, if_false, reduceIte]) (by simp only [d_X8_root, r2, s2, mprime_i hx2 hx9, if_neg k0, o1, m1, m0, if_neg em, c20, onV_ok, onV_thr, onI_ok, onI_thr, onL_ok, onL_thr, Option.bind_some, c10, c00, cl0, cl1, cl2, cl3, e1a, e1b, e1c, e2a, e2b, e2c, e3a, e3b, e3c, inb0, ix0, if_true, if_false, reduceIte])
    · have e0 : bI (Od x y n) = 0 := bI_f co
      have eo : ¬ ii o = ii n := fun z => co (by rw [← (ii_eq (by omega) (by omega)).mp z]; exact o2)
      exact CsV.thr h 1 (by simp only [d_L_root, d_X7_root, r1, s1, cprime_i hx2 hx9, if_neg k0, g1, cr, e0, onV_ok, onV_thr, onI_ok, onI_thr, onL_ok, onL_thr, Option.bind_some, c10, c00, cl0, cl1, cl2, cl3, e1a, e1b, e1c, e2a, e2b, e2c, e3a, e3b, e3c, inb0, ix0, if_true, if_false, reduceIte]) (by simp only [d_X8_root, r2, s2, mprime_i hx2 hx9, if_neg k0, o1, m1, if_neg eo, onV_ok, onV_thr, onI_ok, onI_thr, onL_ok, onL_thr, Option.bind_some, c10, c00, cl0, cl1, cl2, cl3, e1a, e1b, e1c, e2a, e2b, e2c, e3a, e3b, e3c, inb0, ix0, if_true, if_false, reduceIte])
  · have k0 : bI (Prm x) = 0 := bI_f cp
    exact CsV.thr h 1 (by simp only [d_L_root, d_X7_root, r1, s1, cprime_i hx2 hx9, k0, onV_ok, onV_thr, onI_ok, onI_thr, onL_ok, onL_thr, Option.bind_some, c10, c00, cl0, cl1, cl2, cl3, e1a, e1b, e1c, e2a, e2b, e2c, e3a, e3b, e3c, inb0, ix0, if_true, if_false, reduceIte]) (by simp only [d_X8_root, r2, s2, mprime_i hx2 hx9, k0, onV_ok, onV_thr, onI_ok, onI_thr, onL_ok, onL_thr, Option.bind_some, c10, c00, cl0, cl1, cl2, cl3, e1a, e1b, e1c, e2a, e2b, e2c, e3a, e3b, e3c, inb0, ix0, if_true, if_false, reduceIte])
end Cas
