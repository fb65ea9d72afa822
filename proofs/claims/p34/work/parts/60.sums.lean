/-! THE SUMS OF A LINE, BY NUMBER -/
def lst (r mi : Nat) : Nat := if r = 3 then mi else 0
def nu (r h mi lo : Nat) : Nat := if r = 3 then h * (h + 1) / 2 * (h + 2) / 3 + mi * (mi + 1) / 2 + lo else h * (h + 1) / 2 + mi + lo
def trs (r : Nat) : List (Nat × Nat × Nat) := (List.range 6).flatMap fun h => (List.range (h + 1)).flatMap fun mi => (List.range (lst r mi + 1)).map fun lo => (h, mi, lo)
def tri (r j : Nat) : Nat × Nat × Nat := (trs r).getD j (0, 0, 0)
theorem tri_nu1' : ∀ r, r < 4 → 1 < r → ∀ h, h < 6 → ∀ mi, mi < h + 1 → ∀ lo, lo < lst r mi + 1 → (tri r (nu r h mi lo)).1 = h := by decide +kernel
theorem tri_nu2' : ∀ r, r < 4 → 1 < r → ∀ h, h < 6 → ∀ mi, mi < h + 1 → ∀ lo, lo < lst r mi + 1 → (tri r (nu r h mi lo)).2.1 = mi := by decide +kernel
theorem tri_nu3' : ∀ r, r < 4 → 1 < r → ∀ h, h < 6 → ∀ mi, mi < h + 1 → ∀ lo, lo < lst r mi + 1 → (tri r (nu r h mi lo)).2.2 = lo := by decide +kernel
theorem nu_56' : ∀ r, r < 4 → 1 < r → ∀ h, h < 6 → ∀ mi, mi < h + 1 → ∀ lo, lo < lst r mi + 1 → nu r h mi lo < 56 := by decide +kernel
theorem nu_in' : ∀ r, r < 4 → 1 < r → ∀ h, h < 6 → ∀ mi, mi < h + 1 → ∀ lo, lo < lst r mi + 1 → nu r h mi lo < nu r (h + 1) 0 0 := by decide +kernel
theorem nu_mi' : ∀ r, r < 4 → 1 < r → ∀ h, h < 6 → ∀ mi, mi < h + 1 → nu r h mi (lst r mi + 1) = nu r h (mi + 1) 0 := by decide +kernel
theorem nu_hi' : ∀ r, r < 4 → 1 < r → ∀ h, h < 6 → nu r h (h + 1) 0 = nu r (h + 1) 0 0 := by decide +kernel
theorem tri_lt1' : ∀ r, r < 4 → 1 < r → ∀ k, k < 7 → ∀ j, j < nu r k 0 0 → (tri r j).1 < k := by decide +kernel
theorem tri_lt2' : ∀ r, r < 4 → 1 < r → ∀ k, k < 7 → ∀ j, j < nu r k 0 0 → (tri r j).2.1 ≤ (tri r j).1 := by decide +kernel
theorem tri_lt3' : ∀ r, r < 4 → 1 < r → ∀ k, k < 7 → ∀ j, j < nu r k 0 0 → (tri r j).2.2 ≤ lst r (tri r j).2.1 := by decide +kernel
theorem nu_le' : ∀ r, r < 4 → 1 < r → ∀ k, k < 7 → ∀ p, p < k + 1 → nu r p 0 0 ≤ nu r k 0 0 ∧ nu r k 0 0 ≤ 56 := by decide +kernel
theorem nu_ahead' : ∀ r, r < 4 → 1 < r → ∀ p, p < 6 → (if r = 3 then p * (p + 1) / 2 * (p + 2) / 3 else p * (p + 1) / 2) = nu r p 0 0 := by decide +kernel
def Sg (m n r : Nat) (x : Nat → Nat) (h mi lo : Nat) : Nat := if r = 3 then ad m n (ad m n (x h) (x mi)) (x lo) else ad m n (x h) (x mi)
def Sj (m n r : Nat) (x : Nat → Nat) (j : Nat) : Nat := Sg m n r x (tri r j).1 (tri r j).2.1 (tri r j).2.2
def Con (N : Nat) (F G : Nat → Nat) : Prop := ∀ i j, i < N → j < N → (F i = F j ↔ G i = G j)
theorem Con.le {N N' : Nat} {F G : Nat → Nat} (h : Con N F G) (hn : N' ≤ N) : Con N' F G := fun i j hi hj => h i j (by omega) (by omega)
/-- the first number like it -/
def Fs (F : Nat → Nat) (j f : Nat) : Prop := f ≤ j ∧ F f = F j ∧ ∀ i, i < f → F i ≠ F j
theorem Con.new {N : Nat} {F G : Nat → Nat} (h : Con N F G) (hf : Fs F N N) : Con (N + 1) F G ↔ ¬ ∃ j, j < N ∧ G j = G N := by
  constructor
  · rintro g ⟨j, h1, h2⟩
    exact hf.2.2 j h1 ((g j N (by omega) (by omega)).mpr h2)
  · intro g i j hi hj
    by_cases c : i = N
    · by_cases d : j = N
      · rw [c, d]; exact ⟨fun _ => rfl, fun _ => rfl⟩
      · rw [c]
        exact ⟨fun z => absurd z.symm (hf.2.2 j (by omega)), fun z => (g ⟨j, by omega, z.symm⟩).elim⟩
    · by_cases d : j = N
      · rw [d]
        exact ⟨fun z => absurd z (hf.2.2 i (by omega)), fun z => (g ⟨i, by omega, z⟩).elim⟩
      · exact h i j (by omega) (by omega)
theorem Con.old {N f : Nat} {F G : Nat → Nat} (h : Con N F G) (hf : Fs F N f) (hn : f ≠ N) : Con (N + 1) F G ↔ G f = G N := by
  have hfN : f < N := by have := hf.1; omega
  constructor
  · intro g
    exact (g f N (by omega) (by omega)).mp hf.2.1
  · intro g i j hi hj
    have key : ∀ i, i < N → (F i = F N ↔ G i = G N) := fun i hi => by
      rw [← hf.2.1, ← g]
      exact h i f hi hfN
    by_cases c : i = N
    · by_cases d : j = N
      · rw [c, d]; exact ⟨fun _ => rfl, fun _ => rfl⟩
      · rw [c]
        exact ⟨fun z => ((key j (by omega)).mp z.symm).symm, fun z => ((key j (by omega)).mpr z.symm).symm⟩
    · by_cases d : j = N
      · rw [d]
        exact key i (by omega)
      · exact h i j (by omega) (by omega)
section Nums
variable {r k h mi lo p : Nat}
theorem tri_nu (hr : r = 2 ∨ r = 3) (hh : h < 6) (hmi : mi ≤ h) (hlo : lo ≤ lst r mi) : tri r (nu r h mi lo) = (h, mi, lo) := Prod.ext (tri_nu1' r (by omega) (by omega) h hh mi (by omega) lo (by omega)) (Prod.ext (tri_nu2' r (by omega) (by omega) h hh mi (by omega) lo (by omega)) (tri_nu3' r (by omega) (by omega) h hh mi (by omega) lo (by omega)))
theorem nu_56 (hr : r = 2 ∨ r = 3) (hh : h < 6) (hmi : mi ≤ h) (hlo : lo ≤ lst r mi) : nu r h mi lo < 56 := nu_56' r (by omega) (by omega) h hh mi (by omega) lo (by omega)
theorem nu_in (hr : r = 2 ∨ r = 3) (hh : h < 6) (hmi : mi ≤ h) (hlo : lo ≤ lst r mi) : nu r h mi lo < nu r (h + 1) 0 0 := nu_in' r (by omega) (by omega) h hh mi (by omega) lo (by omega)
theorem nu_mi (hr : r = 2 ∨ r = 3) (hh : h < 6) (hmi : mi ≤ h) : nu r h mi (lst r mi + 1) = nu r h (mi + 1) 0 := nu_mi' r (by omega) (by omega) h hh mi (by omega)
theorem nu_hi (hr : r = 2 ∨ r = 3) (hh : h < 6) : nu r h (h + 1) 0 = nu r (h + 1) 0 0 := nu_hi' r (by omega) (by omega) h hh
theorem tri_lt (hr : r = 2 ∨ r = 3) (hk : k ≤ 6) {j : Nat} (hj : j < nu r k 0 0) : (tri r j).1 < k ∧ (tri r j).2.1 ≤ (tri r j).1 ∧ (tri r j).2.2 ≤ lst r (tri r j).2.1 := ⟨tri_lt1' r (by omega) (by omega) k (by omega) j hj, tri_lt2' r (by omega) (by omega) k (by omega) j hj, tri_lt3' r (by omega) (by omega) k (by omega) j hj⟩
theorem nu_up (hr : r = 2 ∨ r = 3) (hk : k ≤ 6) (hp : p ≤ k) : nu r p 0 0 ≤ nu r k 0 0 := (nu_le' r (by omega) (by omega) k (by omega) p (by omega)).1
theorem nu_top (hr : r = 2 ∨ r = 3) (hk : k ≤ 6) : nu r k 0 0 ≤ 56 := (nu_le' r (by omega) (by omega) k (by omega) 0 (by omega)).2
theorem nu_lo (r h mi lo : Nat) : nu r h mi lo + 1 = nu r h mi (lo + 1) := by
  unfold nu
  split <;> rfl
theorem lst_le (r mi : Nat) : lst r mi ≤ mi := by
  unfold lst
  split <;> omega
theorem Sj_nu {m n : Nat} {x : Nat → Nat} (hr : r = 2 ∨ r = 3) (hh : h < 6) (hmi : mi ≤ h) (hlo : lo ≤ lst r mi) : Sj m n r x (nu r h mi lo) = Sg m n r x h mi lo := by
  unfold Sj
  rw [tri_nu hr hh hmi hlo]
theorem Sj_congr {m n : Nat} {x y : Nat → Nat} (hr : r = 2 ∨ r = 3) (hk : k ≤ 6) (hxy : ∀ i, i < k → x i = y i) {j : Nat} (hj : j < nu r k 0 0) : Sj m n r x j = Sj m n r y j := by
  obtain ⟨h1, h2, h3⟩ := tri_lt hr hk hj
  have h4 := lst_le r (tri r j).2.1
  unfold Sj Sg
  rw [hxy _ h1, hxy _ (show (tri r j).2.1 < k by omega), hxy _ (show (tri r j).2.2 < k by omega)]
theorem Sj_lt {m n : Nat} (hm : 0 < m) (hn : 0 < n) (x : Nat → Nat) (j : Nat) : Sj m n r x j < m * n := by
  unfold Sj Sg
  split <;> exact ad_lt hm hn _ _
end Nums
section Cls
variable {M : Mem} {m n r k : Nat}
theorem lastLow_i (hr : r = 2 ∨ r = 3) (e : M.1 4 8 = ii r) (mi : Nat) : d_X2_lastLow (ii mi) M = ii (lst r mi) := by
  unfold d_X2_lastLow lst
  rw [e]
  rcases hr with rfl | rfl
  · rw [if_neg (by decide), if_neg (by decide)]; rfl
  · rw [if_pos (show ii 3 = (3 : Int32) from rfl), if_pos rfl]
theorem sum5_i (h : GI M m n) (hr : r = 2 ∨ r = 3) (e : M.1 4 8 = ii r) (hk : k ≤ 6) {x : Nat → Nat} (hx : ∀ i, i < k → M.1 5 i = ii (x i) ∧ x i < m * n) {a b c : Nat} (ha : a < k) (hb : b < k) (hc : c < k) : d_X2_sumOf_k5 (ii a) (ii b) (ii c) M = ii (Sg m n r x a b c) := by
  have hm := h.1
  have hn := h.2.1
  unfold d_X2_sumOf_k5 Sg
  rw [e, show (6 : Int32) = ii 6 from rfl, at_i 5 (show a < 6 by omega) (by decide), at_i 5 (show b < 6 by omega) (by decide), at_i 5 (show c < 6 by omega) (by decide), (hx a ha).1, (hx b hb).1, (hx c hc).1]
  rcases hr with rfl | rfl
  · rw [if_neg (by decide), if_neg (by decide), plus_i h (hx a ha).2 (hx b hb).2]
  · rw [if_pos (show ii 3 = (3 : Int32) from rfl), if_pos rfl, plus_i h (hx a ha).2 (hx b hb).2, plus_i h (ad_lt hm hn _ _) (hx c hc).2]
theorem sum7_i (h : GI M m n) (hr : r = 2 ∨ r = 3) (e : M.1 4 8 = ii r) (hk : k ≤ 6) {x : Nat → Nat} (hx : ∀ i, i < k → M.1 7 i = ii (x i) ∧ x i < m * n) {a b c : Nat} (ha : a < k) (hb : b < k) (hc : c < k) : d_X2_sumOf_k7 (ii a) (ii b) (ii c) M = ii (Sg m n r x a b c) := by
  have hm := h.1
  have hn := h.2.1
  unfold d_X2_sumOf_k7 Sg
  rw [e, show (6 : Int32) = ii 6 from rfl, at_i 7 (show a < 6 by omega) (by decide), at_i 7 (show b < 6 by omega) (by decide), at_i 7 (show c < 6 by omega) (by decide), (hx a ha).1, (hx b hb).1, (hx c hc).1]
  rcases hr with rfl | rfl
  · rw [if_neg (by decide), if_neg (by decide), plus_i h (hx a ha).2 (hx b hb).2]
  · rw [if_pos (show ii 3 = (3 : Int32) from rfl), if_pos rfl, plus_i h (hx a ha).2 (hx b hb).2, plus_i h (ad_lt hm hn _ _) (hx c hc).2]
theorem ahead_i (hr : r = 2 ∨ r = 3) (e : M.1 4 8 = ii r) {p : Nat} (hp : p < 6) : d_X2_sumsAhead (ii p) M = ii (nu r p 0 0) := by
  unfold d_X2_sumsAhead
  have h1 : p * (p + 1) ≤ 30 := Nat.le_trans (Nat.mul_le_mul (show p ≤ 5 by omega) (show p + 1 ≤ 6 by omega)) (by decide)
  have h2 : p * (p + 1) / 2 ≤ 15 := by omega
  have h3 : p * (p + 1) / 2 * (p + 2) ≤ 15 * 7 := Nat.mul_le_mul h2 (by omega)
  rw [e, ← nu_ahead' r (by omega) (by omega) p hp, show (1 : Int32) = ii 1 from rfl, show (2 : Int32) = ii 2 from rfl, ii_add, ii_add, ii_mul, ii_div (by omega) (by decide), ii_mul]
  rcases hr with rfl | rfl
  · rw [if_neg (by decide), if_neg (by decide)]
  · rw [if_pos (show ii 3 = (3 : Int32) from rfl), if_pos rfl, show (3 : Int32) = ii 3 from rfl, ii_div (by omega) (by decide)]
/-! the first alike -/
def CA (D : Mem) (m n : Nat) (F : Nat → Nat) (N : Nat) : Prop := (∀ j, j < N → ∃ f, Fs F j f ∧ D.1 9 j = ii f) ∧ ∀ x, x < m * n → (∃ f, f < N ∧ F f = x ∧ (∀ i, i < f → F i ≠ x) ∧ D.1 11 x = ii f) ∨ ((∀ i, i < N → F i ≠ x) ∧ D.1 11 x = (-1 : Int32))
def cS (k j : Nat) : Prop := k = 9 ∨ k = 11
theorem c1_i (M : Mem) (h : GI M m n) (F : Nat → Nat) : ∃ (D : Mem) (y : Int32), iter g_X2_compareSums_1 20000 ((0 : Int32), M) = some (.inl (y, D)) ∧ CA D m n F 0 ∧ Fr cS M D := by
  obtain ⟨hm, hn, hN, -, -, h2, -⟩ := id h
  refine k_ex (fun b e1 e2 => ?_) (it_loop (g := g_X2_compareSums_1) (m * n) (fun e a => ∃ D : Mem, a = (ii e, D) ∧ (∀ x, x < e → D.1 11 x = (-1 : Int32)) ∧ Fr cS M D)
    (fun b => ∃ (D : Mem) (y : Int32), b = .inl (y, D) ∧ (∀ x, x < m * n → D.1 11 x = (-1 : Int32)) ∧ Fr cS M D) (a := ((0 : Int32), M)) (by omega) ⟨M, rfl, fun i hi => absurd hi (Nat.not_lt_zero i), Fr.rf _ M⟩ ?_ ?_)
  · obtain ⟨D, y, rfl, g1, g2⟩ := e2
    exact ⟨D, y, e1, ⟨fun j hj => absurd hj (Nat.not_lt_zero j), fun x hx => Or.inr ⟨fun i hi => absurd hi (Nat.not_lt_zero i), g1 x hx⟩⟩, g2⟩
  · rintro e a he ⟨D, rfl, g1, g2⟩
    have d2 : D.1 2 2 = ii (m * n) := (g2 2 2 (by unfold cS; decide)).1.trans h2
    unfold g_X2_compareSums_1
    dsimp only
    rw [d2, if_pos ((ii_lt (by omega) (by omega)).mpr he), ii_inc, show (36 : Int32) = ii 36 from rfl, lay_i 11 (by omega) (by decide)]
    refine Or.inl ⟨_, rfl, _, rfl, fun x hx => ?_, g2.i 11 _ _ (Or.inr rfl)⟩
    by_cases d : x = e
    · rw [d, sI_at]
    · rw [sI_ne _ _ (fun z => d z.2)]
      exact g1 x (by omega)
  · rintro a ⟨D, rfl, g1, g2⟩
    have d2 : D.1 2 2 = ii (m * n) := (g2 2 2 (by unfold cS; decide)).1.trans h2
    unfold g_X2_compareSums_1
    dsimp only
    rw [d2, if_neg (by rw [ii_lt (by omega) (by omega)]; omega)]
    exact ⟨_, rfl, D, _, rfl, g1, g2⟩
/-- one sum more -/
theorem CA.step {D : Mem} {F : Nat → Nat} {N : Nat} (h : CA D m n F N) (hF : ∀ j, F j < m * n) (hN : N < 56) (h36 : m * n ≤ 36) : ∃ D', D' = (d_X7_lay 9 56 (ii N) (d_X7_at 11 36 (ii (F N)) (if (d_X7_at 11 36 (ii (F N)) D) = (-1 : Int32) then ((d_X7_lay 11 36 (ii (F N)) (ii N)) D) else D)) (if (d_X7_at 11 36 (ii (F N)) D) = (-1 : Int32) then ((d_X7_lay 11 36 (ii (F N)) (ii N)) D) else D)) ∧ CA D' m n F (N + 1) ∧ Fr cS D D' := by
  refine ⟨_, rfl, ?_⟩
  have hx := hF N
  have b : F N < 36 := by omega
  rw [show (36 : Int32) = ii 36 from rfl, show (56 : Int32) = ii 56 from rfl, lay_i 9 hN (by decide), lay_i 11 b (by decide), at_i 11 b (by decide), at_i 11 b (by decide)]
  obtain ⟨h1, h2⟩ := h
  have n1 : ∀ f, f < 56 → ii f ≠ (-1 : Int32) := by decide +kernel
  rcases h2 (F N) hx with ⟨f, g1, g2, g3, g4⟩ | ⟨g1, g4⟩
  · rw [g4, if_neg (n1 f (by omega)), g4]
    refine ⟨⟨fun j hj => ?_, fun x hx => ?_⟩, (Fr.rf cS D).i 9 _ _ (Or.inl rfl)⟩
    · by_cases d : j = N
      · subst d
        exact ⟨f, ⟨by omega, g2, g3⟩, sI_at _ _ _ _⟩
      · obtain ⟨f', q1, q2⟩ := h1 j (by omega)
        exact ⟨f', q1, by rw [sI_ne _ _ (fun z => d z.2)]; exact q2⟩
    · rw [sI_ne _ _ (fun z => absurd z.1 (by decide))]
      rcases h2 x hx with ⟨f', q1, q2, q3, q4⟩ | ⟨q1, q4⟩
      · exact Or.inl ⟨f', by omega, q2, q3, q4⟩
      · refine Or.inr ⟨fun i hi => ?_, q4⟩
        by_cases d : i = N
        · rw [d]
          intro z
          exact q1 f g1 (by rw [g2, z])
        · exact q1 i (by omega)
  · rw [g4, if_pos rfl, sI_at]
    refine ⟨⟨fun j hj => ?_, fun x hx => ?_⟩, ((Fr.rf cS D).i 11 _ _ (Or.inr rfl)).i 9 _ _ (Or.inl rfl)⟩
    · by_cases d : j = N
      · subst d
        exact ⟨j, ⟨Nat.le_refl _, rfl, g1⟩, sI_at _ _ _ _⟩
      · obtain ⟨f', q1, q2⟩ := h1 j (by omega)
        exact ⟨f', q1, by rw [sI_ne _ _ (fun z => d z.2), sI_ne _ _ (fun z => absurd z.1 (by decide))]; exact q2⟩
    · rw [sI_ne _ _ (fun z => absurd z.1 (by decide))]
      by_cases d : x = F N
      · subst d
        exact Or.inl ⟨N, by omega, rfl, g1, sI_at _ _ _ _⟩
      · rw [sI_ne _ _ (fun z => d z.2)]
        rcases h2 x hx with ⟨f', q1, q2, q3, q4⟩ | ⟨q1, q4⟩
        · exact Or.inl ⟨f', by omega, q2, q3, q4⟩
        · refine Or.inr ⟨fun i hi => ?_, q4⟩
          by_cases e : i = N
          · rw [e]
            exact fun z => d z.symm
          · exact q1 i (by omega)
end Cls
