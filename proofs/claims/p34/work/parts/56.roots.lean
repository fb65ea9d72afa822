/-! ROOTS AND TRANSFORMS: primes and orders as both find them -/
theorem ll_div {a b : Nat} (ha : a < 9223372036854775808) (hb : b < 9223372036854775808) : ll a / ll b = ll (a / b) := (Int64.ofNat_div ha hb).symm
theorem ll_rem {a b : Nat} (ha : a < 9223372036854775808) (hb : b < 9223372036854775808) : jlrem (ll a) (ll b) = ll (a % b) := by
  have h : a / b * b ≤ a := Nat.div_mul_le_self a b
  unfold jlrem
  rw [ll_div ha hb, ll_mul, ll_sub h]
  congr 1
  have := Nat.mod_add_div a b
  rw [Nat.mul_comm] at this
  omega
theorem ll_ne0 {b : Nat} (hb : 0 < b) (hb2 : b < 18446744073709551616) : ¬ ll b = (0 : Int64) := fun c => by
  have := (ll_eq (b := 0) hb2 (by decide)).mp c
  omega
theorem cprime_i {p : Nat} (h2 : 2 ≤ p) (h9 : p ≤ 9999) : d_X6_isPrime (ii p) = some (bI (Prm p)) := by
  refine k_ex (fun b e1 e2 => ?_) (it_loop (g := g_X6_isPrime_1 (ii p)) 98 (fun k a => a = ii (k + 2) ∧ ∀ d, 2 ≤ d → d < k + 2 → p % d ≠ 0)
    (fun b => (∃ y, b = .inl y ∧ Prm p) ∨ (b = .inr (0 : Int32) ∧ ¬ Prm p)) (a := (2 : Int32)) (by decide) ⟨rfl, fun d h1 h2 => by omega⟩ ?_ ?_)
  · unfold d_X6_isPrime
    rw [e1]
    rcases e2 with ⟨y, rfl, h⟩ | ⟨rfl, h⟩
    · show (if ii p ≤ (1 : Int32) then some (0 : Int32) else some 1) = _
      rw [if_neg (by rw [show (1 : Int32) = ii 1 from rfl, ii_le (by omega) (by decide)]; omega), bI_t h]
    · rw [bI_f h]; rfl
  · rintro k a hk ⟨rfl, h⟩
    unfold g_X6_isPrime_1
    rw [rest_i (by omega) (by omega) (by omega), ii_inc]
    rw [if_pos (show ii (k + 2) ≤ (99 : Int32) by rw [show (99 : Int32) = ii 99 from rfl, ii_le (by omega) (by decide)]; omega)]
    by_cases c : k + 2 < p
    · have hm := Nat.mod_lt p (show 0 < k + 2 by omega)
      rw [if_pos ((ii_lt (by omega) (by omega)).mpr c)]
      by_cases c2 : p % (k + 2) = 0
      · rw [if_pos (by rw [c2]; rfl)]
        exact Or.inr ⟨_, rfl, Or.inr ⟨rfl, fun z => z.2 (k + 2) (by omega) c c2⟩⟩
      · rw [if_neg (ii_ne0 (Nat.pos_of_ne_zero c2) (by omega))]
        refine Or.inl ⟨_, rfl, rfl, fun d g1 g2 => ?_⟩
        by_cases e : d = k + 2
        · rw [e]; exact c2
        · exact h d g1 (by omega)
    · rw [if_neg (fun z => c ((ii_lt (by omega) (by omega)).mp z))]
      exact Or.inr ⟨_, rfl, Or.inl ⟨_, rfl, h2, fun d g1 g2 => h d g1 (by omega)⟩⟩
  · rintro a ⟨rfl, h⟩
    unfold g_X6_isPrime_1
    rw [if_neg (show ¬ ii (98 + 2) ≤ (99 : Int32) by rw [show (99 : Int32) = ii 99 from rfl, ii_le (by omega) (by decide)]; omega)]
    exact ⟨_, rfl, Or.inl ⟨_, rfl, prm_sqrt h2 h (by omega)⟩⟩
/-- w to the n is 1, and to none ahead of it -/
def Od (p w n : Nat) : Prop := w ^ n % p = 1 ∧ ∀ e, 1 ≤ e → e < n → w ^ e % p ≠ 1
theorem croot_i {p w n : Nat} (h2 : 2 ≤ p) (h9 : p ≤ 9999) (hw : w < p) (hn : 0 < n) (hn36 : n ≤ 36) : d_X6_isRoot (ii p) (ii w) (ii n) = some (bI (Od p w n)) := by
  have hpow : ∀ e, w ^ e % p < p := fun e => Nat.mod_lt _ (by omega)
  refine k_ex (fun b e1 e2 => ?_) (it_loop (g := g_X6_isRoot_1 (ii p) (ii w) (ii n)) n (fun k a => a = (ii (w ^ k % p), ii (k + 1)) ∧ ∀ e, 1 ≤ e → e < k + 1 → w ^ e % p ≠ 1)
    (fun b => (∃ y, b = .inl y ∧ ¬ Od p w n) ∨ b = .inr (bI (Od p w n))) (a := ((1 : Int32), (1 : Int32))) (by omega) ⟨by rw [Nat.pow_zero, Nat.mod_eq_of_lt h2]; rfl, fun e g1 g2 => by omega⟩ ?_ ?_)
  · unfold d_X6_isRoot
    rw [e1]
    rcases e2 with ⟨y, rfl, h⟩ | rfl
    · rw [bI_f h]; rfl
    · rfl
  · rintro k a hk ⟨rfl, h⟩
    have b1 := hpow k
    have b2 := hpow (k + 1)
    have b3 : w ^ k % p * w ≤ 9999 * 9999 := Nat.mul_le_mul (by omega) (by omega)
    unfold g_X6_isRoot_1
    dsimp only
    rw [if_pos ((ii_le (by omega) (by omega)).mpr (by omega)), ii_mul, rest_i (by omega) (by omega) (by omega), Nat.mod_mul_mod, ← Nat.pow_succ, ii_inc]
    by_cases c : w ^ (k + 1) % p = 1
    · rw [if_pos (by rw [c]; rfl)]
      by_cases c2 : k + 1 = n
      · rw [if_pos (by rw [c2])]
        refine Or.inr ⟨_, rfl, Or.inr ?_⟩
        rw [bI_t ⟨by rw [← c2]; exact c, by rw [← c2]; exact h⟩]
      · rw [if_neg (fun z => c2 ((ii_eq (by omega) (by omega)).mp z))]
        refine Or.inr ⟨_, rfl, Or.inr ?_⟩
        rw [bI_f fun z : Od p w n => z.2 (k + 1) (by omega) (by omega) c]
    · rw [if_neg (fun (z : ii (w ^ (k + 1) % p) = (1 : Int32)) => c ((ii_eq (b := 1) (by omega) (by decide)).mp z))]
      refine Or.inl ⟨_, rfl, rfl, fun e g1 g2 => ?_⟩
      by_cases e3 : e = k + 1
      · rw [e3]; exact c
      · exact h e g1 (by omega)
  · rintro a ⟨rfl, h⟩
    unfold g_X6_isRoot_1
    dsimp only
    rw [if_neg (by rw [ii_le (by omega) (by omega)]; omega)]
    exact ⟨_, rfl, Or.inl ⟨_, rfl, fun z => h n hn (by omega) z.1⟩⟩
theorem Od.one {p w n o : Nat} (h : Od p w n) (h' : Od p w o) (hn : 1 ≤ n) (ho : 1 ≤ o) : n = o := by
  rcases Nat.lt_trichotomy n o with c | c | c
  · exact absurd h.1 (h'.2 n hn c)
  · exact c
  · exact absurd h'.1 (h.2 o ho c)
theorem c20 : ((2 : Int32) = 0) = False := eq_false (by decide)
section Cas
variable {M : Mem} {m n c : Nat} {a : Nat → Nat} {r : Nat} {q : Nat → Nat} {p w : Nat}
def tS (k j : Nat) : Prop := wk k j ∨ k = 17 ∨ k = 18
theorem root_inv (h : InvP M m n c a r q p w) {p' w' : Nat} {M2 : Mem} (f : Fr tS M M2) (ht : TI M2 m n p' w') : InvP M2 m n c a r q p' w' := by
  obtain ⟨hg, hm, hs', hr, -⟩ := h
  exact ⟨hg.f fun k j hk => f k j (by unfold tS wk; omega), trivial, hs'.f (f 0 2 (by unfold tS wk; omega)).1 fun j => (f 1 j (by unfold tS wk; omega)).2, hr.f (f 14 2 (by unfold tS wk; omega)).1 (f 16 0 (by unfold tS wk; omega)).1 fun j => (f 15 j (by unfold tS wk; omega)).1, ht⟩
theorem beginT_i (M : Mem) {p w n : Nat} (hp : 2 ≤ p) (h9 : p ≤ 9999) (hw : w < p) (hn36 : n ≤ 36) : ∃ D, d_X6_begin (ii p) (ii w) (ii n) M = some (.inl none, D) ∧ D.1 17 0 = ii p ∧ D.1 17 1 = ii n ∧ (∀ e, e < n → D.1 18 e = ii (w ^ e % p)) ∧ Fr (fun k _ => k = 17 ∨ k = 18) M D := by
  have hpow : ∀ e, w ^ e % p < p := fun e => Nat.mod_lt _ (by omega)
  refine k_ex (fun b e1 e2 => ?_) (it_loop (g := g_X6_begin_1 (ii w)) n (fun k a => ∃ D : Mem, a = (ii (w ^ k % p), ii k, D) ∧ D.1 17 0 = ii p ∧ D.1 17 1 = ii n ∧ (∀ e, e < k → D.1 18 e = ii (w ^ e % p)) ∧ Fr (fun k _ => k = 17 ∨ k = 18) M D)
    (fun b => ∃ (D : Mem) (y z : Int32), b = .inl (y, z, D) ∧ D.1 17 0 = ii p ∧ D.1 17 1 = ii n ∧ (∀ e, e < n → D.1 18 e = ii (w ^ e % p)) ∧ Fr (fun k _ => k = 17 ∨ k = 18) M D) (a := ((1 : Int32), (0 : Int32), sI (sI M 17 0 (ii p)) 17 1 (ii n))) (by omega)
    ⟨_, by rw [Nat.pow_zero, Nat.mod_eq_of_lt hp]; rfl, rfl, rfl, fun e he => absurd he (Nat.not_lt_zero e), ((Fr.rf _ M).i 17 0 _ (Or.inl rfl)).i 17 1 _ (Or.inl rfl)⟩ ?_ ?_)
  · obtain ⟨D, y, z, rfl, h⟩ := e2
    refine ⟨D, ?_, h⟩
    unfold d_X6_begin
    rw [e1]
    rfl
  · rintro k a hk ⟨D, rfl, d1, d2, d3, d4⟩
    have b1 := hpow k
    have b3 : w ^ k % p * w ≤ 9999 * 9999 := Nat.mul_le_mul (by omega) (by omega)
    have lay : d_X7_lay 18 36 (ii k) (ii (w ^ k % p)) D = sI D 18 k (ii (w ^ k % p)) := by
      unfold d_X7_lay
      rw [if_neg (ii_lt0 (by omega)), if_pos (by rw [show (36 : Int32) = ii 36 from rfl, ii_lt (by omega) (by decide)]; omega), ii_ix (by omega)]
    unfold g_X6_begin_1
    dsimp only
    rw [d2, if_pos ((ii_lt (by omega) (by omega)).mpr hk), lay, show (sI D 18 k (ii (w ^ k % p))).1 17 0 = D.1 17 0 from rfl, d1, ii_mul, rest_i (by omega) (by omega) (by omega), Nat.mod_mul_mod, ← Nat.pow_succ, ii_inc]
    refine Or.inl ⟨_, rfl, _, rfl, d1, d2, fun e he => ?_, d4.i 18 k _ (Or.inr rfl)⟩
    by_cases c : e = k
    · rw [c, sI_at]
    · rw [sI_ne _ _ (fun z => c z.2)]
      exact d3 e (by omega)
  · rintro a ⟨D, rfl, d1, d2, d3, d4⟩
    unfold g_X6_begin_1
    dsimp only
    rw [d2, if_neg (by rw [ii_lt (by omega) (by omega)]; omega)]
    exact ⟨_, rfl, D, _, _, rfl, d1, d2, d3, d4⟩
end Cas
