/-! THE REFERENCE'S GROUP AND SETS -/
def MI (M : Mem) (m n : Nat) : Prop := 0 < m ∧ 0 < n ∧ m * n ≤ 36 ∧ M.1 19 0 = ii m ∧ M.1 19 1 = ii n
theorem MI.le {M : Mem} {m n : Nat} (h : MI M m n) : m ≤ 36 ∧ n ≤ 36 := by
  obtain ⟨h1, h2, h3, -⟩ := h
  exact ⟨Nat.le_trans (Nat.le_mul_of_pos_right m h2) h3, Nat.le_trans (Nat.le_mul_of_pos_left n h1) h3⟩
theorem sI_at (M : Mem) (k j : Nat) (x : Int32) : (sI M k j x).1 k j = x := by simp [sI]
theorem sI_ne (M : Mem) {k j a b : Nat} (x : Int32) (h : ¬ (a = k ∧ b = j)) : (sI M k j x).1 a b = M.1 a b := by
  unfold sI
  by_cases e : a = k
  · subst e
    have : b ≠ j := fun q => h ⟨rfl, q⟩
    simp [this]
  · simp [e]
theorem sL_at (M : Mem) (k j : Nat) (x : Int64) : (sL M k j x).2 k j = x := by simp [sL]
theorem sL_ne (M : Mem) {k j a b : Nat} (x : Int64) (h : ¬ (a = k ∧ b = j)) : (sL M k j x).2 a b = M.2 a b := by
  unfold sL
  by_cases e : a = k
  · subst e
    have : b ≠ j := fun q => h ⟨rfl, q⟩
    simp [this]
  · simp [e]
theorem MI.thr {M : Mem} {m n : Nat} (h : MI M m n) (x : Int32) : MI (sI M 19 15 x) m n :=
  ⟨h.1, h.2.1, h.2.2.1, by rw [sI_ne _ _ (by decide)]; exact h.2.2.2.1, by rw [sI_ne _ _ (by decide)]; exact h.2.2.2.2⟩
theorem ii_pos {k : Nat} (h : k < 2147483648) : (0 : Int32) < ii k ↔ 0 < k := ii_lt (a := 0) (by decide) h
theorem one1 : ((1 : Int32) &&& 1) = 1 := by decide
theorem zero1 : ((0 : Int32) &&& 1) = 0 := by decide
/-- all sums of two sets, of an element and some times another one -/
noncomputable def ams (m n a : Nat) (t : Int) (b : Nat) (u : Prop) : Nat := st (m * n) (fun i => ∃ x, x < m * n ∧ a.testBit x = true ∧ ∃ y, y < m * n ∧ b.testBit y = true ∧ ¬ (u ∧ x = y) ∧ ad m n x (ml m n t y) = i)
theorem ams_lt (m n a : Nat) (t : Int) (b : Nat) (u : Prop) : ams m n a t b u < 2 ^ (m * n) := st_lt _ _
section Mod
variable {M : Mem} {m n : Nat}
theorem msize_i (h : MI M m n) : d_X8_size M = ii (m * n) := by
  unfold d_X8_size
  rw [h.2.2.2.1, h.2.2.2.2, ii_mul]
theorem mbit_i {k : Nat} (hk : k < 64) : jshl (1 : Int64) (ii k) = ll (2 ^ k) := bit_i hk
theorem mwhole_i (h : MI M m n) : d_X8_whole M = ll (2 ^ (m * n) - 1) := by
  have := h.2.2.1
  unfold d_X8_whole
  rw [msize_i h, mbit_i (by omega), ll_1, ll_sub (Nat.two_pow_pos _)]
theorem isIn_i (v : Int32) {k : Nat} (hk : k < 2147483648) : ((d_X8_isIn v (0 : Int32) (ii k - (1 : Int32))) &&& 1) = if v < 0 then 0 else if v < ii k then 1 else 0 := by
  unfold d_X8_isIn
  by_cases c : v < 0
  · rw [if_pos c, if_pos c]
    exact zero1
  · rw [if_neg c, if_neg c]
    obtain ⟨a, ha, rfl⟩ := ii_of c
    have e : ii k - (1 : Int32) = zi ((k : Int) - 1) := by
      rw [← zi_ii, show (1 : Int32) = zi 1 from rfl, zi_sub]
    rw [e, ← zi_ii a, ← zi_ii k]
    by_cases c2 : a < k
    · rw [if_pos ((zi_le (by omega) (by omega) (by omega) (by omega)).mpr (by omega)), if_pos ((zi_lt (by omega) (by omega) (by omega) (by omega)).mpr (by omega))]
      exact one1
    · rw [if_neg (fun z => by have := (zi_le (by omega) (by omega) (by omega) (by omega)).mp z; omega), if_neg (fun z => by have := (zi_lt (by omega) (by omega) (by omega) (by omega)).mp z; omega)]
      exact zero1
theorem isElement_i (h : MI M m n) (v : Int32) : d_X8_isElement v M = if v < 0 then 0 else if v < ii (m * n) then 1 else 0 := by
  have := h.2.2.1
  unfold d_X8_isElement
  rw [msize_i h, isIn_i v (by omega)]
theorem isSet_i {k : Nat} (h : M.1 19 2 = ii k) (hk : k < 2147483648) (v : Int32) : d_X8_isSet v M = if v < 0 then 0 else if v < ii k then 1 else 0 := by
  unfold d_X8_isSet
  rw [h, isIn_i v hk]
theorem mplus_i (h : MI M m n) {a b : Nat} {t : Int} (ha : a ≤ 36) (hb : b ≤ 36) (ht : -100 ≤ t ∧ t ≤ 100) : d_X8_plus (ii a) (zi t) (ii b) M = some (ii (ad m n a (ml m n t b))) := by
  have hle := h.le
  obtain ⟨hm, hn, hN, h0, h1⟩ := h
  have d1 := Nat.div_le_self a n
  have d2 := Nat.div_le_self b n
  have r1 := Nat.mod_le a n
  have r2 := Nat.mod_le b n
  have key : ∀ x : Nat, x ≤ 36 → -3600 ≤ t * (x : Int) ∧ t * (x : Int) ≤ 3600 := fun x hx => by
    have k1 := Int.mul_le_mul_of_nonneg_right ht.1 (show (0 : Int) ≤ (x : Int) by omega)
    have k2 := Int.mul_le_mul_of_nonneg_right ht.2 (show (0 : Int) ≤ (x : Int) by omega)
    constructor <;> omega
  obtain ⟨k1, k2⟩ := key (b / n) (by omega)
  obtain ⟨k3, k4⟩ := key (b % n) (by omega)
  have p1 := Int.natCast_nonneg (a / n)
  unfold d_X8_plus
  rw [h0, h1, if_neg (ii_ne0 hn (by omega)), if_neg (ii_ne0 hn (by omega)), ii_div (by omega) (by omega), ii_div (by omega) (by omega), ii_rem (by omega) (by omega), ii_rem (by omega) (by omega), ← zi_ii (a / n), ← zi_ii (b / n), ← zi_ii (a % n), ← zi_ii (b % n), zi_mul, zi_mul, zi_add, zi_add, mrest_z (by omega) (by omega) hm (by omega)]
  show (if ii n = 0 then none else if ii n = 0 then none else ((d_X8_rest (zi (((a % n : Nat) : Int) + t * ((b % n : Nat) : Int))) (ii n)).bind fun w2 => some (ii n * _ + w2))) = _
  rw [if_neg (ii_ne0 hn (by omega)), if_neg (ii_ne0 hn (by omega)), mrest_z (by omega) (by omega) hn (by omega)]
  show some _ = some _
  rw [ii_mul, ii_add, ad_ml hm hn]
theorem added_i (h : MI M m n) {a b : Nat} (ha : a < m * n) (hb : b < m * n) : d_X8_added (ii a) (ii b) M = some (ii (ad m n a b)) := by
  have := h.2.2.1
  unfold d_X8_added
  rw [show (1 : Int32) = zi 1 from rfl, mplus_i h (by omega) (by omega) (by decide), ml_one h.2.1 hb]
  rfl
theorem allSums_i (h : MI M m n) {a b : Nat} {t : Int} (ha : a < 2 ^ (m * n)) (hb : b < 2 ^ (m * n)) (ht : -100 ≤ t ∧ t ≤ 100) (v6 : Int32) : d_X8_allSums (ll a) (zi t) (ll b) v6 M = some (ll (ams m n a t b (v6 ≠ 0))) := by
  have h' := h
  obtain ⟨hm, hn, hN, -⟩ := h'
  have hsz := msize_i h
  unfold d_X8_allSums
  rw [up_or hN (fun x i => a.testBit x = true ∧ ∃ y, y < m * n ∧ b.testBit y = true ∧ ¬ (v6 ≠ 0 ∧ x = y) ∧ ad m n x (ml m n t y) = i) (b := .inl (ll (ams m n a t b (v6 ≠ 0)), ii (m * n))) ?_ ?_]
  · rfl
  · intro x mk hx
    unfold g_X8_allSums_1
    dsimp only
    rw [hsz, if_pos ((ii_lt (by omega) (by omega)).mpr hx), ii_inc]
    cases hax : a.testBit x with
    | false =>
      have e : iter (g_X8_allSums_2 (ll a) (zi t) (ll b) v6 M (ll mk, ii x)) 20000 (ll mk, (0 : Int32)) = some (.inl (ll mk, (0 : Int32))) := by
        unfold iter g_X8_allSums_2
        dsimp only
        rw [hsz, if_pos ((ii_pos (by omega)).mpr (by omega)), mhas_i (set64 ha hN) (by omega), hax, if_pos (by decide)]
      rw [e, st_none' (fun i z => by cases z.1), Nat.or_zero]
      rfl
    | true =>
      have e : iter (g_X8_allSums_2 (ll a) (zi t) (ll b) v6 M (ll mk, ii x)) 20000 (ll mk, (0 : Int32)) = some (.inl (ll (mk ||| st (m * n) (fun i => true = true ∧ ∃ y, y < m * n ∧ b.testBit y = true ∧ ¬ (v6 ≠ 0 ∧ x = y) ∧ ad m n x (ml m n t y) = i)), ii (m * n))) := by
        refine k_have (fun this => ?_) (it_full (g := g_X8_allSums_2 (ll a) (zi t) (ll b) v6 M (ll mk, ii x)) (m * n) (fun k => (ll (mk ||| st (m * n) (fun i => ∃ y, y < k ∧ b.testBit y = true ∧ ¬ (v6 ≠ 0 ∧ x = y) ∧ ad m n x (ml m n t y) = i)), ii k)) (b := .inl (ll (mk ||| st (m * n) (fun i => true = true ∧ ∃ y, y < m * n ∧ b.testBit y = true ∧ ¬ (v6 ≠ 0 ∧ x = y) ∧ ad m n x (ml m n t y) = i)), ii (m * n))) (by omega) ?_ ?_)
        · rw [st_none' (fun i ⟨y, hy, _⟩ => Nat.not_lt_zero y hy), Nat.or_zero] at this
          exact this
        · intro y hy
          have hstep : ∀ (c : Prop) (e : Nat), (c → e < m * n) → ((b.testBit y = true ∧ ¬ (v6 ≠ 0 ∧ x = y)) ↔ c) → e = ad m n x (ml m n t y) → mk ||| st (m * n) (fun i => ∃ y', y' < y + 1 ∧ b.testBit y' = true ∧ ¬ (v6 ≠ 0 ∧ x = y') ∧ ad m n x (ml m n t y') = i) = mk ||| st (m * n) (fun i => ∃ y', y' < y ∧ b.testBit y' = true ∧ ¬ (v6 ≠ 0 ∧ x = y') ∧ ad m n x (ml m n t y') = i) ||| @ite Nat c (Classical.propDecidable c) (2 ^ e) 0 := by
            intro c e hce hc he
            rw [Nat.or_assoc]
            congr 1
            refine (st_eq (Nat.or_lt_two_pow (st_lt _ _) ?_) fun i hi => ?_).symm
            · split
              · rename_i hcc
                exact Nat.pow_lt_pow_right (by decide) (hce hcc)
              · exact Nat.two_pow_pos _
            · rw [Nat.testBit_or, Bool.or_eq_true, st_bit]
              constructor
              · rintro (⟨-, y', g1, g2⟩ | g)
                · exact ⟨y', by omega, g2⟩
                · split at g
                  · rename_i hcc
                    rw [Nat.testBit_two_pow, decide_eq_true_eq] at g
                    obtain ⟨g1, g2⟩ := hc.mpr hcc
                    exact ⟨y, by omega, g1, g2, by rw [← he]; exact g⟩
                  · rw [Nat.zero_testBit] at g; cases g
              · rintro ⟨y', g1, g2, g3, g4⟩
                by_cases e1 : y' = y
                · subst e1
                  refine Or.inr ?_
                  rw [if_pos (hc.mp ⟨g2, g3⟩), Nat.testBit_two_pow, decide_eq_true_eq, he]
                  exact g4
                · exact Or.inl ⟨hi, y', by omega, g2, g3, g4⟩
          have hadl := ad_lt hm hn x (ml m n t y)
          rw [hstep (b.testBit y = true ∧ ¬ (v6 ≠ 0 ∧ x = y)) _ (fun _ => hadl) Iff.rfl rfl]
          generalize st (m * n) (fun i => ∃ y', y' < y ∧ b.testBit y' = true ∧ ¬ (v6 ≠ 0 ∧ x = y') ∧ ad m n x (ml m n t y') = i) = acc
          unfold g_X8_allSums_2
          dsimp only
          rw [hsz, if_pos ((ii_lt (by omega) (by omega)).mpr hy), mhas_i (set64 ha hN) (by omega), hax, if_neg (by decide), mhas_i (set64 hb hN) (by omega), ii_inc, mplus_i h (by omega) (by omega) ht]
          have no : (if (if b.testBit y = true then (1 : Int32) else 0) = 0 then (0 : Int32) else (if v6 = 0 then (1 : Int32) else (if ii x = ii y then (0 : Int32) else (1 : Int32)))) = 0 ↔ ¬ (b.testBit y = true ∧ ¬ (v6 ≠ 0 ∧ x = y)) := by
            by_cases c1 : b.testBit y = true
            · rw [if_pos c1, if_neg (by decide : ¬ (1 : Int32) = 0)]
              by_cases c2 : v6 = 0
              · rw [if_pos c2]
                exact ⟨fun z => absurd z (by decide), fun z => (z ⟨c1, fun q => q.1 c2⟩).elim⟩
              · rw [if_neg c2]
                by_cases c3 : x = y
                · rw [if_pos (by rw [c3])]
                  exact ⟨fun _ z => z.2 ⟨c2, c3⟩, fun _ => rfl⟩
                · rw [if_neg (fun z => c3 ((ii_eq (by omega) (by omega)).mp z))]
                  exact ⟨fun z => absurd z (by decide), fun z => (z ⟨c1, fun q => c3 q.2⟩).elim⟩
            · rw [if_neg c1, if_pos rfl]
              exact ⟨fun _ z => c1 z.1, fun _ => rfl⟩
          by_cases c : b.testBit y = true ∧ ¬ (v6 ≠ 0 ∧ x = y)
          · rw [if_pos c, if_neg (fun z => no.mp z c)]
            show some (Sum.inl (ll _ ||| jshl (1 : Int64) (ii _), _)) = _
            rw [mbit_i (by omega), ll_or]
          · rw [if_neg c, if_pos (no.mpr c), Nat.or_zero, ll_0, ll_or, Nat.or_zero]
        · unfold g_X8_allSums_2
          dsimp only
          rw [hsz, if_neg (by rw [ii_lt (by omega) (by omega)]; omega), st_congr (N := m * n) (Q := fun i => true = true ∧ ∃ y, y < m * n ∧ b.testBit y = true ∧ ¬ (v6 ≠ 0 ∧ x = y) ∧ ad m n x (ml m n t y) = i) fun i _ => ⟨fun z => ⟨rfl, z⟩, fun z => z.2⟩]
      rw [e]
      rfl
  · unfold g_X8_allSums_1
    dsimp only
    rw [hsz, if_neg (by rw [ii_lt (by omega) (by omega)]; omega)]
    rfl
theorem msumOf_i (h : MI M m n) {a b : Nat} (ha : a < 2 ^ (m * n)) (hb : b < 2 ^ (m * n)) : d_X8_sumOf (ll a) (ll b) M = some (ll (smo m n a b)) := by
  have h' := h
  obtain ⟨hm, hn, hN, -⟩ := h'
  unfold d_X8_sumOf
  rw [show (1 : Int32) = zi 1 from rfl, allSums_i h ha hb (by decide)]
  show some (ll _) = some (ll _)
  congr 2
  refine st_congr fun i hi => ⟨?_, ?_⟩
  · rintro ⟨x, hx, h1, y, hy, h2, -, h3⟩
    rw [ml_one hn hy] at h3
    exact ⟨y, h2, by rw [← (ad_iff' hm hn hx hi).mp h3]; exact h1⟩
  · rintro ⟨y, h2, h1⟩
    have hy := tb_lt hb h2
    refine ⟨_, sb_lt hm hn i y, h1, y, hy, h2, fun z => absurd rfl z.1, ?_⟩
    rw [ml_one hn hy, ad_sb hm hn hi]
theorem mdiff_i (h : MI M m n) {a b : Nat} (ha : a < 2 ^ (m * n)) (hb : b < 2 ^ (m * n)) : d_X8_allSums (ll a) (-1 : Int32) (ll b) (0 : Int32) M = some (ll (smo m n a (mir m n b))) := by
  have h' := h
  obtain ⟨hm, hn, hN, -⟩ := h'
  rw [show (-1 : Int32) = zi (-1) from rfl, allSums_i h ha hb (by decide)]
  congr 2
  refine st_congr fun i hi => ⟨?_, ?_⟩
  · rintro ⟨x, hx, h1, y, hy, h2, -, h3⟩
    have hg := ng_lt hm hn (m := m) (n := n) y
    refine ⟨ng m n y, (st_bit _ _ _).mpr ⟨hg, by rw [ng_ng hm hn hy]; exact h2⟩, ?_⟩
    rw [← (ad_iff' hm hn hx hi).mp (show ad m n x (ng m n y) = i from h3)]
    exact h1
  · rintro ⟨y, h2, h1⟩
    obtain ⟨hy, h4⟩ := (st_bit _ _ _).mp h2
    refine ⟨_, sb_lt hm hn i y, h1, ng m n y, ng_lt hm hn y, h4, fun z => absurd rfl z.1, ?_⟩
    show ad m n _ (ng m n (ng m n y)) = i
    rw [ng_ng hm hn hy, ad_sb hm hn hi]
theorem munlike_i (h : MI M m n) {a b : Nat} (ha : a < 2 ^ (m * n)) (hb : b < 2 ^ (m * n)) : d_X8_allSums (ll a) (1 : Int32) (ll b) (1 : Int32) M = some (ll (st (m * n) (fun i => ∃ x, x < m * n ∧ b.testBit x = true ∧ a.testBit (sb m n i x) = true ∧ sb m n i x ≠ x))) := by
  have h' := h
  obtain ⟨hm, hn, hN, -⟩ := h'
  rw [show (1 : Int32) = zi 1 from rfl, allSums_i h ha hb (by decide)]
  congr 2
  refine st_congr fun i hi => ⟨?_, ?_⟩
  · rintro ⟨x, hx, h1, y, hy, h2, h4, h3⟩
    rw [ml_one hn hy] at h3
    have e := (ad_iff' hm hn hx hi).mp h3
    exact ⟨y, hy, h2, by rw [← e]; exact h1, fun z => h4 ⟨by decide, by rw [e]; exact z⟩⟩
  · rintro ⟨y, hy, h2, h1, h4⟩
    refine ⟨_, sb_lt hm hn i y, h1, y, hy, h2, fun z => h4 z.2, ?_⟩
    rw [ml_one hn hy, ad_sb hm hn hi]
end Mod
