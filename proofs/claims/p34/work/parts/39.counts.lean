/-! COUNTS: the reference's, ways, what leaves a set as it is, orders -/
/-- what is put apart is no more -/
theorem pc_inj {K : Nat} (f : Nat → Nat) : ∀ {N : Nat} {p : Nat → Bool} {q : Nat → Bool}, (∀ i, i < N → p i = true → f i < K ∧ q (f i) = true) → (∀ i j, i < N → j < N → p i = true → p j = true → f i = f j → i = j) → pc p N ≤ pc q K
  | 0, p, q, _, _ => Nat.zero_le _
  | N + 1, p, q, h1, h2 => by
    show pc p N + _ ≤ _
    by_cases hp : p N = true
    · rw [if_pos hp]
      obtain ⟨a1, a2⟩ := h1 N (Nat.lt_succ_self N) hp
      have e := pc_out (p := q) (q := fun i => q i && !decide (i = f N)) (n := K) a1 a2 (by rw [decide_eq_true rfl]; cases q (f N) <;> rfl) fun i _ hi => by rw [decide_eq_false hi]; cases q i <;> rfl
      have ih := pc_inj (K := K) f (N := N) (p := p) (q := fun i => q i && !decide (i = f N)) (fun i hi hpi => by
        obtain ⟨b1, b2⟩ := h1 i (by omega) hpi
        refine ⟨b1, ?_⟩
        have : f i ≠ f N := fun e => by
          have := h2 i N (by omega) (by omega) hpi hp e
          omega
        rw [b2, decide_eq_false this]
        rfl) (fun i j hi hj => h2 i j (by omega) (by omega))
      omega
    · rw [if_neg hp]
      exact pc_inj (K := K) f (fun i hi => h1 i (by omega)) (fun i j hi hj => h2 i j (by omega) (by omega))
theorem pc_lt {p q : Nat → Bool} {N t : Nat} (ht : t < N) (hp : p t = false) (hq : q t = true) (h : ∀ i, i < N → p i = true → q i = true) : pc p N < pc q N := by
  have e := pc_out (p := q) (q := fun i => q i && !decide (i = t)) ht hq (by rw [decide_eq_true rfl]; cases q t <;> rfl) fun i _ hi => by rw [decide_eq_false hi]; cases q i <;> rfl
  have := pc_mono (p := p) (q := fun i => q i && !decide (i = t)) (n := N) fun i hi hpi => by
    have : i ≠ t := fun e => by rw [e, hp] at hpi; cases hpi
    rw [h i hi hpi, decide_eq_false this]
    rfl
  omega
theorem sz_sub {a b N : Nat} (hN : N ≤ 64) (ha : a < 2 ^ N) (hb : b < 2 ^ N) (h : ∀ i, i < N → a.testBit i = true → b.testBit i = true) : sz a ≤ sz b := by
  rw [sz_to ha hN, sz_to hb hN]
  exact pc_mono h
theorem sub_eq {a b N : Nat} (hN : N ≤ 64) (ha : a < 2 ^ N) (hb : b < 2 ^ N) (h : ∀ i, i < N → a.testBit i = true → b.testBit i = true) (e : sz b ≤ sz a) : a = b := by
  rw [sz_to ha hN, sz_to hb hN] at e
  refine tB_ext ha hb fun i hi => ?_
  cases ea : a.testBit i with
  | true => rw [h i hi ea]
  | false =>
    cases eb : b.testBit i with
    | false => rfl
    | true =>
      have := pc_lt hi ea eb h
      omega
theorem pc_true (N : Nat) : pc (fun _ => true) N = N := by
  induction N with
  | zero => rfl
  | succ n ih => show pc (fun _ => true) n + 1 = _; rw [ih]
theorem sz_full {N : Nat} (hN : N ≤ 64) : sz (2 ^ N - 1) = N := by
  rw [sz_to (Nat.sub_lt (Nat.two_pow_pos _) (by decide)) hN]
  conv => rhs; rw [← pc_true N]
  exact pc_congr fun i hi => (full_bit N i).mpr hi
theorem sz_leN {a N : Nat} (hN : N ≤ 64) (ha : a < 2 ^ N) : sz a ≤ N := by
  rw [sz_to ha hN]
  exact pc_le _ _
/-- sums of numbers -/
def su (f : Nat → Nat) : Nat → Nat
  | 0 => 0
  | n + 1 => su f n + f n
theorem su_congr {f g : Nat → Nat} : ∀ {n}, (∀ i, i < n → f i = g i) → su f n = su g n
  | 0, _ => rfl
  | n + 1, h => by
    show su f n + f n = su g n + g n
    rw [su_congr fun i hi => h i (by omega), h n (by omega)]
theorem su_pc (p : Nat → Bool) : ∀ n, su (fun i => if p i then 1 else 0) n = pc p n
  | 0 => rfl
  | n + 1 => by
    show su _ n + _ = pc p n + _
    rw [su_pc p n]
/-- a loop that adds up -/
theorem up_sum {N : Nat} (hN : N < 20000) {B : Type} {g : Int32 × Int32 → Option ((Int32 × Int32) ⊕ B)} {b : B} (f : Nat → Nat) (s0 : Nat)
    (hs : ∀ k s, k < N → g (ii s, ii k) = some (.inl (ii (s + f k), ii (k + 1))))
    (he : g (ii (s0 + su f N), ii N) = some (.inr b)) : iter g 20000 (ii s0, (0 : Int32)) = some b := by
  have := it_full (g := g) N (fun k => (ii (s0 + su f k), ii k)) (b := b) hN (fun k hk => by rw [hs k _ hk, Nat.add_assoc]; rfl) he
  exact this
section Cnt
variable {M : Mem} {m n : Nat}
theorem smo_one (hm : 0 < m) (hn : 0 < n) {a e : Nat} (ha : a < 2 ^ (m * n)) (he : e < m * n) : smo m n (2 ^ e) a = shf m n a e := by
  refine st_congr fun i hi => ⟨?_, fun h => ⟨_, h, ?_⟩⟩
  · rintro ⟨x, h1, h2⟩
    have hx := tb_lt ha h1
    rw [Nat.testBit_two_pow, decide_eq_true_eq] at h2
    rwa [← (ad_iff hm hn hx hi).mp ((ad_iff' hm hn he hi).mpr h2)]
  · rw [Nat.testBit_two_pow, decide_eq_true_eq]
    exact (ad_iff' hm hn he hi).mp (by rw [ad_comm, ad_sb hm hn hi])
/-! orders -/
/-- the sums of k + 1 elements -/
noncomputable def hs (m n a : Nat) : Nat → Nat
  | 0 => a
  | k + 1 => smo m n (hs m n a k) a
theorem hs_lt {a : Nat} (ha : a < 2 ^ (m * n)) : ∀ k, hs m n a k < 2 ^ (m * n)
  | 0 => ha
  | k + 1 => smo_lt _ _
theorem sz_shf (hm : 0 < m) (hn : 0 < n) (hN : m * n ≤ 36) {s x : Nat} (hs : s < 2 ^ (m * n)) (hx : x < m * n) : sz (shf m n s x) = sz s := by
  rw [sz_to hs (by omega), sz_to (shf_lt s x) (by omega)]
  apply Nat.le_antisymm
  · refine pc_inj (q := s.testBit) (fun i => sb m n i x) (fun i hi hp => ⟨sb_lt hm hn i x, ((shf_bit s x i).mp hp).2⟩) fun i j hi hj _ _ e => ?_
    rw [← ad_sb hm hn (x := x) hi, ← ad_sb hm hn (x := x) hj, e]
  · refine pc_inj (q := (shf m n s x).testBit) (fun i => ad m n i x) (fun i hi hp => ⟨ad_lt hm hn i x, (shf_bit s x _).mpr ⟨ad_lt hm hn i x, ?_⟩⟩) fun i j hi hj _ _ e => ?_
    · rw [ad_comm, sb_ad hm hn hi]; exact hp
    · exact ad_cancel' hm hn hi hj e
theorem shf_sub {a s x : Nat} (hx : a.testBit x = true) : ∀ i, i < m * n → (shf m n s x).testBit i = true → (smo m n s a).testBit i = true := fun i hi h =>
  (st_bit _ _ _).mpr ⟨hi, x, hx, ((shf_bit s x i).mp h).2⟩
theorem smo_shf (hm : 0 < m) (hn : 0 < n) {a s x : Nat} (ha : a < 2 ^ (m * n)) (hx : x < m * n) : smo m n (shf m n s x) a = shf m n (smo m n s a) x := by
  refine st_congr fun i hi => ⟨?_, ?_⟩
  · rintro ⟨y, h1, h2⟩
    have hy := tb_lt ha h1
    obtain ⟨h3, h4⟩ := (shf_bit s x _).mp h2
    refine (st_bit _ _ _).mpr ⟨sb_lt hm hn i x, y, h1, ?_⟩
    rwa [show sb m n (sb m n i x) y = sb m n (sb m n i y) x by unfold sb; rw [ad_assoc hn, ad_assoc hn, ad_comm (ng m n x)]]
  · intro h
    obtain ⟨h3, y, h1, h2⟩ := (st_bit _ _ _).mp h
    refine ⟨y, h1, (shf_bit s x _).mpr ⟨sb_lt hm hn i y, ?_⟩⟩
    rwa [show sb m n (sb m n i y) x = sb m n (sb m n i x) y by unfold sb; rw [ad_assoc hn, ad_assoc hn, ad_comm (ng m n x)]]
theorem hs_grow (hm : 0 < m) (hn : 0 < n) (hN : m * n ≤ 36) {a : Nat} (ha : a < 2 ^ (m * n)) (h0 : a ≠ 0) (K : Nat) (hK : hs m n a K = 2 ^ (m * n) - 1) (hne : ∀ k, k < K → hs m n a k ≠ 2 ^ (m * n) - 1) : K + 1 ≤ m * n := by
  obtain ⟨x, -, -, hx, -⟩ := low_set (set64 ha hN) (Nat.pos_of_ne_zero h0)
  have hxN := tb_lt ha hx
  have hle : ∀ k, sz (hs m n a k) ≤ sz (hs m n a (k + 1)) := fun k => by
    rw [← sz_shf hm hn hN (hs_lt ha k) hxN]
    exact sz_sub (by omega) (shf_lt _ _) (hs_lt ha (k + 1)) (shf_sub hx)
  have hst : ∀ k, sz (hs m n a (k + 1)) ≤ sz (hs m n a k) → ∀ j, hs m n a (k + 1 + j) = shf m n (hs m n a (k + j)) x := fun k hk j => by
    induction j with
    | zero =>
      refine (sub_eq (by omega) (shf_lt _ _) (hs_lt ha (k + 1)) (shf_sub hx) ?_).symm
      rw [sz_shf hm hn hN (hs_lt ha k) hxN]
      exact hk
    | succ j ih =>
      show smo m n (hs m n a (k + 1 + j)) a = shf m n (smo m n (hs m n a (k + j)) a) x
      rw [ih, smo_shf hm hn ha hxN]
  have hgr : ∀ k, k < K → sz (hs m n a k) < sz (hs m n a (k + 1)) := fun k hk => by
    apply Nat.lt_of_not_le
    intro c
    have h2 := hst k c
    have h3 : ∀ j, sz (hs m n a (k + j)) = sz (hs m n a k) := fun j => by
      induction j with
      | zero => rfl
      | succ j ih =>
        rw [show k + (j + 1) = k + 1 + j by omega, h2 j, sz_shf hm hn hN (hs_lt ha _) hxN, ih]
    have h4 := h3 (K - k)
    rw [show k + (K - k) = K by omega, hK] at h4
    refine hne k hk (sub_eq (N := m * n) (by omega) (hs_lt ha k) (Nat.sub_lt (Nat.two_pow_pos _) (by decide)) (fun i hi _ => (full_bit _ i).mpr hi) (by omega))
  have h5 : ∀ k, k ≤ K → k + 1 ≤ sz (hs m n a k) := fun k => by
    induction k with
    | zero =>
      intro _
      have : sz a ≠ 0 := fun z => h0 ((sz_0 (set64 ha hN)).mp z)
      show 0 + 1 ≤ sz a
      omega
    | succ k ih =>
      intro hk
      have := ih (by omega)
      have := hgr k (by omega)
      omega
  have h6 := h5 K (Nat.le_refl K)
  have h7 := sz_leN (N := m * n) (by omega) (hs_lt ha K)
  omega
/-- what the order is -/
def IsOrd (m n a : Nat) (r : Int32) : Prop := (∃ k, r = ii (k + 1) ∧ k + 1 ≤ m * n ∧ hs m n a k = 2 ^ (m * n) - 1 ∧ ∀ j, j < k → hs m n a j ≠ 2 ^ (m * n) - 1) ∨ (r = (-1 : Int32) ∧ ∀ k, hs m n a k ≠ 2 ^ (m * n) - 1)
theorem IsOrd.one {a : Nat} {r r' : Int32} (h : IsOrd m n a r) (h' : IsOrd m n a r') : r = r' := by
  rcases h with ⟨k, rfl, -, h1, h2⟩ | ⟨rfl, h1⟩ <;> rcases h' with ⟨k', rfl, -, h1', h2'⟩ | ⟨rfl, h1'⟩
  · congr 2
    rcases Nat.lt_trichotomy k k' with c | c | c
    · exact absurd h1 (h2' k c)
    · exact c
    · exact absurd h1' (h2 k' c)
  · exact absurd h1 (h1' k)
  · exact absurd h1' (h1 k')
  · rfl
theorem hs_first {a K : Nat} (h : hs m n a K = 2 ^ (m * n) - 1) : ∃ k, k ≤ K ∧ hs m n a k = 2 ^ (m * n) - 1 ∧ ∀ j, j < k → hs m n a j ≠ 2 ^ (m * n) - 1 := by
  induction K using Nat.strongRecOn with
  | ind K ih =>
    by_cases c : ∃ j, j < K ∧ hs m n a j = 2 ^ (m * n) - 1
    · obtain ⟨j, hj, hje⟩ := c
      obtain ⟨k, h1, h2⟩ := ih j hj hje
      exact ⟨k, by omega, h2⟩
    · exact ⟨K, Nat.le_refl K, h, fun j hj e => c ⟨j, hj, e⟩⟩
theorem hs_zero (hm : 0 < m) (hn : 0 < n) : ∀ k, hs m n 0 k = 0
  | 0 => rfl
  | k + 1 => st_false fun i _ ⟨x, h, _⟩ => by rw [Nat.zero_testBit] at h; cases h
theorem full_ne0 (hm : 0 < m) (hn : 0 < n) : 2 ^ (m * n) - 1 ≠ 0 := by
  have := Nat.mul_pos hm hn
  have := Nat.pow_lt_pow_right (a := 2) (by decide) this
  omega
theorem no_order (hm : 0 < m) (hn : 0 < n) (hN : m * n ≤ 36) {a : Nat} (ha : a < 2 ^ (m * n)) {K : Nat} (hK : m * n ≤ K) (h : ∀ k, k < K → hs m n a k ≠ 2 ^ (m * n) - 1) : ∀ k, hs m n a k ≠ 2 ^ (m * n) - 1 := by
  intro k e
  obtain ⟨k', -, h1, h2⟩ := hs_first e
  by_cases h0 : a = 0
  · subst h0
    rw [hs_zero hm hn] at h1
    exact full_ne0 hm hn h1.symm
  · have := hs_grow hm hn hN ha h0 k' h1 h2
    exact h k' (by omega) h1
theorem orderOf_i (h : GI M m n) {a : Nat} (ha : a < 2 ^ (m * n)) : ∃ r, d_X1_orderOf (ll a) M = some r ∧ IsOrd m n a r := by
  have h' := h
  obtain ⟨hm, hn, hN, h0, h1, h2, h3, -⟩ := h'
  have hall : 2 ^ (m * n) - 1 < 18446744073709551616 := set64 (N := m * n) (Nat.sub_lt (Nat.two_pow_pos _) (by decide)) hN
  refine k_ex (fun b e1 e2 => ?_) (it_loop (g := g_X1_orderOf_1 (ll a) M) (m * n) (fun k x => x = (ll (hs m n a k), ii (k + 1)) ∧ ∀ j, j < k → hs m n a j ≠ 2 ^ (m * n) - 1)
    (fun b => (∃ r, b = .inr r ∧ IsOrd m n a r) ∨ (∃ q, b = .inl q ∧ ∀ k, hs m n a k ≠ 2 ^ (m * n) - 1)) (a := (ll a, (1 : Int32))) (by omega) ⟨rfl, fun j hj => absurd hj (Nat.not_lt_zero j)⟩ ?_ ?_)
  · unfold d_X1_orderOf
    rw [e1]
    rcases e2 with ⟨r, rfl, hr⟩ | ⟨q, rfl, hq⟩
    · exact ⟨r, rfl, hr⟩
    · exact ⟨_, rfl, Or.inr ⟨rfl, hq⟩⟩
  · rintro k x hk ⟨rfl, hj⟩
    unfold g_X1_orderOf_1
    dsimp only
    rw [h2, h3, if_pos ((ii_le (by omega) (by omega)).mpr (by omega))]
    by_cases c : hs m n a k = 2 ^ (m * n) - 1
    · refine Or.inr ⟨_, if_pos ((lc_0 (set64 (hs_lt ha k) hN) hall).mpr c), Or.inl ⟨_, rfl, Or.inl ⟨k, rfl, by omega, c, hj⟩⟩⟩
    · rw [if_neg (fun z => c ((lc_0 (set64 (hs_lt ha k) hN) hall).mp z)), sumOf_i h (hs_lt ha k) ha]
      refine Or.inl ⟨_, rfl, ?_, fun j hjk => ?_⟩
      · rw [ii_inc]
        rfl
      · by_cases e : j = k
        · subst e; exact c
        · exact hj j (by omega)
  · rintro x ⟨rfl, hj⟩
    unfold g_X1_orderOf_1
    dsimp only
    rw [h2, if_neg (by rw [ii_le (by omega) (by omega)]; omega)]
    exact ⟨_, rfl, Or.inr ⟨_, rfl, no_order hm hn hN ha (Nat.le_refl _) hj⟩⟩
end Cnt
