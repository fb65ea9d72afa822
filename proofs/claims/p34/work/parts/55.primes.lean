/-! PRIMES: what is left of powers -/
def ch : Nat → Nat → Nat
  | _, 0 => 1
  | 0, _ + 1 => 0
  | n + 1, k + 1 => ch n k + ch n (k + 1)
theorem ch_0 (n : Nat) : ch n 0 = 1 := by cases n <;> rfl
theorem ch_big : ∀ {n k : Nat}, n < k → ch n k = 0
  | _, 0, h => absurd h (Nat.not_lt_zero _)
  | 0, k + 1, _ => rfl
  | n + 1, k + 1, h => by
    show ch n k + ch n (k + 1) = 0
    rw [ch_big (show n < k by omega), ch_big (show n < k + 1 by omega)]
theorem ch_self : ∀ n, ch n n = 1
  | 0 => rfl
  | n + 1 => by
    show ch n n + ch n (n + 1) = 1
    rw [ch_self n, ch_big (Nat.lt_succ_self n)]
theorem ch_mul : ∀ n k, (k + 1) * ch (n + 1) (k + 1) = (n + 1) * ch n k
  | 0, 0 => rfl
  | 0, k + 1 => by
    show (k + 1 + 1) * (0 + 0) = (0 + 1) * 0
    rw [Nat.add_zero, Nat.mul_zero]
  | n + 1, 0 => by
    have ih := ch_mul n 0
    rw [ch_0] at ih ⊢
    show (0 + 1) * (ch (n + 1) 0 + ch (n + 1) 1) = _
    rw [ch_0]
    simp only [Nat.zero_add, Nat.one_mul] at ih ⊢
    omega
  | n + 1, j + 1 => by
    have i1 := ch_mul n j
    have i2 := ch_mul n (j + 1)
    have e : ch (n + 1) (j + 1) = ch n j + ch n (j + 1) := rfl
    show (j + 1 + 1) * (ch (n + 1) (j + 1) + ch (n + 1) (j + 1 + 1)) = (n + 1 + 1) * ch (n + 1) (j + 1)
    have h1 : (n + 1) * ch (n + 1) (j + 1) = (n + 1) * ch n j + (n + 1) * ch n (j + 1) := by rw [e, Nat.mul_add]
    rw [Nat.mul_add, Nat.add_mul (j + 1) 1, Nat.add_mul (n + 1) 1, h1, i1, i2]
    omega
theorem su_shift (f : Nat → Nat) : ∀ n, su f (n + 1) = f 0 + su (fun k => f (k + 1)) n
  | 0 => Nat.add_comm _ _
  | n + 1 => by
    show su f (n + 1) + f (n + 1) = f 0 + (su (fun k => f (k + 1)) n + f (n + 1))
    rw [su_shift f n]
    omega
theorem su_add (f g : Nat → Nat) : ∀ n, su (fun k => f k + g k) n = su f n + su g n
  | 0 => rfl
  | n + 1 => by
    show su (fun k => f k + g k) n + (f n + g n) = su f n + f n + (su g n + g n)
    rw [su_add f g n]
    omega
theorem su_mul (c : Nat) (f : Nat → Nat) : ∀ n, su (fun k => c * f k) n = c * su f n
  | 0 => rfl
  | n + 1 => by
    show su (fun k => c * f k) n + c * f n = c * (su f n + f n)
    rw [su_mul c f n, Nat.mul_add]
theorem su_dvd {p : Nat} {f : Nat → Nat} : ∀ {n}, (∀ k, k < n → p ∣ f k) → p ∣ su f n
  | 0, _ => Nat.dvd_zero p
  | n + 1, h => Nat.dvd_add (su_dvd fun k hk => h k (by omega)) (h n (by omega))
theorem binom (a : Nat) : ∀ n, (a + 1) ^ n = su (fun k => ch n k * a ^ k) (n + 1)
  | 0 => by
    show 1 = 0 + 1 * a ^ 0
    rw [Nat.pow_zero]
  | n + 1 => by
    have ih := binom a n
    have h1 := su_shift (fun k => ch n k * a ^ k) (n + 1)
    have h2 : su (fun k => ch n k * a ^ k) (n + 1 + 1) = su (fun k => ch n k * a ^ k) (n + 1) := by
      show _ + ch n (n + 1) * a ^ (n + 1) = _
      rw [ch_big (Nat.lt_succ_self n), Nat.zero_mul, Nat.add_zero]
    have h3 : su (fun k => ch (n + 1) (k + 1) * a ^ (k + 1)) (n + 1) = a * su (fun k => ch n k * a ^ k) (n + 1) + su (fun k => ch n (k + 1) * a ^ (k + 1)) (n + 1) := by
      rw [← su_mul, ← su_add]
      refine su_congr fun k _ => ?_
      show (ch n k + ch n (k + 1)) * a ^ (k + 1) = a * (ch n k * a ^ k) + _
      rw [Nat.add_mul, Nat.pow_succ, Nat.mul_left_comm a, Nat.mul_comm a (a ^ k)]
    rw [su_shift, h3, Nat.pow_succ, ih, Nat.mul_add, Nat.mul_one, Nat.mul_comm _ a]
    simp only [ch_0, Nat.pow_zero] at h1 ⊢
    omega
theorem Prm.cop {p k : Nat} (hp : Prm p) (h1 : 1 ≤ k) (h2 : k < p) : Nat.Coprime p k := by
  have hd1 := Nat.gcd_dvd_left p k
  have hd2 := Nat.gcd_dvd_right p k
  have hle := Nat.le_of_dvd h1 hd2
  have hpos : 0 < Nat.gcd p k := Nat.gcd_pos_of_pos_right p h1
  apply Classical.byContradiction
  intro c
  have c' : Nat.gcd p k ≠ 1 := c
  exact hp.2 (Nat.gcd p k) (by omega) (by omega) (Nat.mod_eq_zero_of_dvd hd1)
theorem ch_dvd {p k : Nat} (hp : Prm p) (h1 : 1 ≤ k) (h2 : k < p) : p ∣ ch p k := by
  obtain ⟨j, rfl⟩ := Nat.exists_eq_add_of_le' h1
  obtain ⟨q, rfl⟩ := Nat.exists_eq_add_of_le' (show 1 ≤ p by omega)
  have := ch_mul q j
  exact Nat.Coprime.dvd_of_dvd_mul_left (hp.cop h1 h2) ⟨ch q j, this⟩
theorem frob {p : Nat} (hp : Prm p) (a : Nat) : (a + 1) ^ p % p = (a ^ p + 1) % p := by
  obtain ⟨q, hq⟩ := Nat.exists_eq_add_of_le' (show 1 ≤ p from Nat.le_of_lt hp.1)
  have h1 := su_shift (fun k => ch p k * a ^ k) q
  have hd : p ∣ su (fun k => ch p (k + 1) * a ^ (k + 1)) q := su_dvd fun k hk => Nat.dvd_trans (ch_dvd hp (by omega) (by omega)) (Nat.dvd_mul_right _ _)
  have h2 : (a + 1) ^ p = su (fun k => ch p k * a ^ k) p + ch p p * a ^ p := binom a p
  rw [ch_self, Nat.one_mul] at h2
  have h3 : su (fun k => ch p k * a ^ k) p = su (fun k => ch p k * a ^ k) (q + 1) := by rw [← hq]
  obtain ⟨z, hz⟩ := hd
  rw [h2, h3, h1, hz]
  simp only [ch_0, Nat.pow_zero, Nat.mul_one]
  rw [show 1 + p * z + a ^ p = a ^ p + 1 + p * z by omega, Nat.add_mul_mod_self_left]
theorem fermat {p : Nat} (hp : Prm p) : ∀ a, a ^ p % p = a % p
  | 0 => by rw [Nat.zero_pow (by have := hp.1; omega)]
  | a + 1 => by
    rw [frob hp, Nat.add_mod, fermat hp a, ← Nat.add_mod]
theorem fermat1 {p a : Nat} (hp : Prm p) (h1 : 1 ≤ a) (h2 : a < p) : a ^ (p - 1) % p = 1 := by
  have hf := fermat hp a
  rw [Nat.mod_eq_of_lt h2] at hf
  have e : a ^ p = a * a ^ (p - 1) := by
    rw [← Nat.pow_succ']
    congr 1
    omega
  have hpos : 1 ≤ a ^ (p - 1) := Nat.pow_pos h1
  have hd : p ∣ a * (a ^ (p - 1) - 1) := by
    rw [Nat.mul_sub, Nat.mul_one, ← e]
    have := Nat.div_add_mod (a ^ p) p
    rw [hf] at this
    exact ⟨a ^ p / p, by omega⟩
  obtain ⟨z, hz⟩ := Nat.Coprime.dvd_of_dvd_mul_left (hp.cop h1 h2) hd
  rw [show a ^ (p - 1) = 1 + p * z by omega, Nat.add_mul_mod_self_left, Nat.mod_eq_of_lt hp.1]
theorem pow_red {p w n : Nat} (hp : 1 < p) (h : w ^ n % p = 1) (e : Nat) : w ^ e % p = w ^ (e % n) % p := by
  conv => lhs; rw [← Nat.div_add_mod e n]
  rw [Nat.pow_add, Nat.pow_mul, Nat.mul_mod, Nat.pow_mod, h, Nat.one_pow, Nat.mod_eq_of_lt hp, Nat.one_mul, Nat.mod_mod]
theorem Rt.dvd {p w n : Nat} (h : Rt p w n) (hn : 0 < n) : n ∣ p - 1 := by
  obtain ⟨hp, -, hw1, hw2, h1, h2⟩ := h
  have hf := fermat1 hp hw1 hw2
  rw [pow_red hp.1 h1] at hf
  apply Nat.dvd_of_mod_eq_zero
  apply Classical.byContradiction
  intro c
  exact h2 _ (Nat.pos_of_ne_zero c) (Nat.mod_lt _ hn) hf
/-- the number that, times n, is 1 -/
theorem inverse_i {p n : Nat} (hp : Prm p) (hn : 0 < n) (hd : n ∣ p - 1) (s : Nat) : s % p * (n ^ (p - 2) % p) % p = s % p * (p - (p - 1) / n) % p := by
  have hp2 := hp.1
  have hle := Nat.le_of_dvd (by omega) hd
  obtain ⟨z, hz⟩ := hd
  have hdiv : (p - 1) / n = z := by rw [hz, Nat.mul_div_cancel_left z hn]
  rw [hdiv]
  have hzp : z ≤ p - 1 := by
    have := Nat.le_mul_of_pos_left z hn
    omega
  have e1 : n * n ^ (p - 2) % p = 1 := by
    have := fermat1 hp hn (by omega)
    rwa [show p - 1 = p - 2 + 1 by omega, Nat.pow_succ'] at this
  have e2 : n * (p - z) % p = 1 := by
    have : n * (p - z) = 1 + p * (n - 1) := by
      rw [Nat.mul_sub, ← hz, Nat.mul_sub p, Nat.mul_one, Nat.mul_comm p n]
      have : p ≤ n * p := Nat.le_mul_of_pos_left p hn
      omega
    rw [this, Nat.add_mul_mod_self_left, Nat.mod_eq_of_lt hp2]
  have key : n ^ (p - 2) % p = (p - z) % p := by
    have a1 : n ^ (p - 2) * (n * (p - z)) % p = n ^ (p - 2) % p := by rw [Nat.mul_mod, e2, Nat.mul_one, Nat.mod_mod]
    have a2 : n ^ (p - 2) * (n * (p - z)) % p = (p - z) % p := by
      rw [← Nat.mul_assoc, Nat.mul_comm (n ^ (p - 2)) n, Nat.mul_mod, e1, Nat.one_mul, Nat.mod_mod]
    rw [← a1, a2]
  rw [key, Nat.mul_mod_mod]
theorem prm_sqrt {p d : Nat} (hp : 2 ≤ p) (h : ∀ e, 2 ≤ e → e < d → p % e ≠ 0) (hd : p < d * d) : Prm p := by
  refine ⟨hp, fun e h1 h2 h3 => ?_⟩
  by_cases c : e < d
  · exact h e h1 c h3
  · obtain ⟨f, hf⟩ := Nat.dvd_of_mod_eq_zero h3
    have hf1 : f < d := by
      apply Nat.lt_of_not_le
      intro z
      have := Nat.mul_le_mul (show d ≤ e by omega) z
      omega
    have hf2 : 2 ≤ f := by
      apply Nat.le_of_not_lt
      intro z
      rcases (show f = 0 ∨ f = 1 by omega) with rfl | rfl
      · rw [Nat.mul_zero] at hf; omega
      · rw [Nat.mul_one] at hf; omega
    exact h f hf2 hf1 (Nat.mod_eq_zero_of_dvd ⟨e, by rw [hf, Nat.mul_comm]⟩)
