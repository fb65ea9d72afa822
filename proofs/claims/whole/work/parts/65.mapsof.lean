/-! WHAT IS A MAP, BOTH WAYS -/
section Tup
variable {m n r k : Nat}
theorem ad_swap (hn : 0 < n) (a b c : Nat) : ad m n (ad m n a b) c = ad m n (ad m n a c) b := by
  rw [ad_assoc hn, ad_comm (m := m) (n := n) b c, ← ad_assoc hn]
theorem sg_at (hr : r = 2 ∨ r = 3) (hk : k ≤ 6) {h mi lo : Nat} (hh : h < k) (hmi : mi ≤ h) (hlo : lo ≤ lst r mi) : ∃ j, j < nu r k 0 0 ∧ ∀ x : Nat → Nat, Sj m n r x j = Sg m n r x h mi lo :=
  ⟨nu r h mi lo, Nat.lt_of_lt_of_le (nu_in hr (by omega) hmi hlo) (nu_up hr hk (by omega)), fun _ => Sj_nu hr (by omega) hmi hlo⟩
theorem ts2 (x : Nat → Nat) (a : Nat) : ts m n k x 2 a 0 = ad m n (ad m n 0 (x (a % k))) (x (a / k % k)) := rfl
theorem ts3 (x : Nat → Nat) (a : Nat) : ts m n k x 3 a 0 = ad m n (ad m n (ad m n 0 (x (a % k))) (x (a / k % k))) (x (a / k / k % k)) := rfl
theorem tup (hn : 0 < n) (hr : r = 2 ∨ r = 3) (hk1 : 1 ≤ k) (hk : k ≤ 6) (a : Nat) : ∃ j, j < nu r k 0 0 ∧ ∀ x : Nat → Nat, (∀ i, i < k → x i < m * n) → ts m n k x r a 0 = Sj m n r x j := by
  have l0 := Nat.mod_lt a (show 0 < k by omega)
  have l1 := Nat.mod_lt (a / k) (show 0 < k by omega)
  have l2 := Nat.mod_lt (a / k / k) (show 0 < k by omega)
  rcases hr with rfl | rfl
  · by_cases c : a / k % k ≤ a % k
    · obtain ⟨j, h1, h2⟩ := sg_at (m := m) (n := n) (r := 2) (k := k) (Or.inl rfl) hk l0 c (Nat.zero_le _)
      refine ⟨j, h1, fun x hx => ?_⟩
      rw [h2, ts2, ad_zero' hn (hx _ l0)]
      rfl
    · obtain ⟨j, h1, h2⟩ := sg_at (m := m) (n := n) (r := 2) (k := k) (Or.inl rfl) hk l1 (show a % k ≤ a / k % k by omega) (Nat.zero_le _)
      refine ⟨j, h1, fun x hx => ?_⟩
      rw [h2, ts2, ad_zero' hn (hx _ l0), ad_comm]
      rfl
  · have fin : ∀ {h mi lo : Nat}, h < k → mi ≤ h → lo ≤ mi → (∀ x : Nat → Nat, ad m n (ad m n (x (a % k)) (x (a / k % k))) (x (a / k / k % k)) = ad m n (ad m n (x h) (x mi)) (x lo)) → ∃ j, j < nu 3 k 0 0 ∧ ∀ x : Nat → Nat, (∀ i, i < k → x i < m * n) → ts m n k x 3 a 0 = Sj m n 3 x j := fun g1 g2 g3 g4 => by
      obtain ⟨j, h1, h2⟩ := sg_at (m := m) (n := n) (r := 3) (k := k) (Or.inr rfl) hk g1 g2 g3
      refine ⟨j, h1, fun x hx => ?_⟩
      rw [h2, ts3, ad_zero' hn (hx _ l0), g4 x]
      rfl
    generalize a % k = p at *
    generalize a / k % k = q at *
    generalize a / k / k % k = u at *
    by_cases c1 : q ≤ p
    · by_cases c2 : u ≤ q
      · exact fin l0 c1 c2 fun x => rfl
      · by_cases c3 : u ≤ p
        · exact fin l0 c3 (show q ≤ u by omega) fun x => ad_swap hn _ _ _
        · exact fin l2 (show p ≤ u by omega) c1 fun x => by rw [ad_swap hn, ad_comm (m := m) (n := n) (x u) (x p)]
    · by_cases c2 : u ≤ p
      · exact fin l1 (show p ≤ q by omega) c2 fun x => by rw [ad_comm (m := m) (n := n) (x p) (x q)]
      · by_cases c3 : u ≤ q
        · exact fin l1 c3 (show p ≤ u by omega) fun x => by rw [ad_comm (m := m) (n := n) (x p) (x q), ad_swap hn]
        · exact fin l2 (show q ≤ u by omega) (show p ≤ q by omega) fun x => by rw [ad_comm (m := m) (n := n) (x u) (x q), ad_swap hn (x q) (x u) (x p), ad_comm (m := m) (n := n) (x q) (x p)]
theorem pow2 (k : Nat) : k ^ 2 = k * k := by rw [Nat.pow_succ, Nat.pow_one]
theorem pow3 (k : Nat) : k ^ 3 = k * (k * k) := by rw [Nat.pow_succ, pow2, Nat.mul_comm]
theorem put (hn : 0 < n) (hr : r = 2 ∨ r = 3) (hk1 : 1 ≤ k) (hk : k ≤ 6) {j : Nat} (hj : j < nu r k 0 0) : ∃ a, a < k ^ r ∧ ∀ x : Nat → Nat, (∀ i, i < k → x i < m * n) → ts m n k x r a 0 = Sj m n r x j := by
  obtain ⟨t1, t2, t3⟩ := tri_lt hr hk hj
  have t4 := lst_le r (tri r j).2.1
  have t5 : ∀ x : Nat → Nat, Sj m n r x j = Sg m n r x (tri r j).1 (tri r j).2.1 (tri r j).2.2 := fun _ => rfl
  generalize (tri r j).1 = h at *
  generalize (tri r j).2.1 = mi at *
  generalize (tri r j).2.2 = lo at *
  have hk0 : 0 < k := by omega
  have hmk : mi < k := by omega
  have hlk : lo < k := by omega
  rcases hr with rfl | rfl
  · refine ⟨h + k * mi, ?_, fun x hx => ?_⟩
    · rw [pow2]
      have : k * (mi + 1) ≤ k * k := Nat.mul_le_mul_left k hmk
      rw [Nat.mul_succ] at this
      omega
    · rw [t5, ts2, Nat.add_mul_mod_self_left, Nat.add_mul_div_left _ _ hk0, Nat.mod_eq_of_lt t1, Nat.div_eq_of_lt t1, Nat.zero_add, Nat.mod_eq_of_lt hmk, ad_zero' hn (hx _ t1)]
      rfl
  · refine ⟨h + k * (mi + k * lo), ?_, fun x hx => ?_⟩
    · rw [pow3]
      have g1 : k * (lo + 1) ≤ k * k := Nat.mul_le_mul_left k hlk
      rw [Nat.mul_succ] at g1
      have g2 : k * (mi + k * lo + 1) ≤ k * (k * k) := Nat.mul_le_mul_left k (by omega)
      rw [Nat.mul_succ] at g2
      omega
    · rw [t5, ts3, Nat.add_mul_mod_self_left, Nat.add_mul_div_left _ _ hk0, Nat.mod_eq_of_lt t1, Nat.div_eq_of_lt t1, Nat.zero_add, Nat.add_mul_mod_self_left, Nat.add_mul_div_left _ _ hk0, Nat.mod_eq_of_lt hmk, Nat.div_eq_of_lt hmk, Nat.zero_add, Nat.mod_eq_of_lt hlk, ad_zero' hn (hx _ t1)]
      rfl
def Alike (m n k r : Nat) (x y : Nat → Nat) (a b : Nat) : Prop := ts m n k x r a 0 = ts m n k x r b 0 ↔ ts m n k y r a 0 = ts m n k y r b 0
theorem alike_iff (hn : 0 < n) (hr : r = 2 ∨ r = 3) (hk1 : 1 ≤ k) (hk : k ≤ 6) {x y : Nat → Nat} (hx : ∀ i, i < k → x i < m * n) (hy : ∀ i, i < k → y i < m * n) : (∀ a, a < k ^ r → ∀ b, b < a → Alike m n k r x y a b) ↔ Con (nu r k 0 0) (Sj m n r x) (Sj m n r y) := by
  constructor
  · intro h i j hi hj
    obtain ⟨a, a1, a2⟩ := put (m := m) hn hr hk1 hk hi
    obtain ⟨b, b1, b2⟩ := put (m := m) hn hr hk1 hk hj
    rw [← a2 x hx, ← a2 y hy, ← b2 x hx, ← b2 y hy]
    rcases Nat.lt_trichotomy a b with c | c | c
    · have := h b b1 a c
      unfold Alike at this
      exact ⟨fun z => (this.mp z.symm).symm, fun z => (this.mpr z.symm).symm⟩
    · rw [c]
      exact ⟨fun _ => rfl, fun _ => rfl⟩
    · exact h a a1 b c
  · intro h a _ b _
    obtain ⟨i, i1, i2⟩ := tup (m := m) hn hr hk1 hk a
    obtain ⟨j, j1, j2⟩ := tup (m := m) hn hr hk1 hk b
    unfold Alike
    rw [i2 x hx, i2 y hy, j2 x hx, j2 y hy]
    exact h i j i1 j1
theorem if_iff {a b c d : Int32} : ((if a = b then (1 : Int32) else (0 : Int32)) = (if c = d then (1 : Int32) else (0 : Int32))) ↔ (a = b ↔ c = d) := by
  by_cases p : a = b
  · by_cases q : c = d
    · simp [p, q]
    · simp [p, q]
  · by_cases q : c = d
    · simp [p, q]
    · simp [p, q]
theorem isMap_i {M : Mem} (h : MI M m n) (hk1 : 1 ≤ k) (hk : k ≤ 6) (hr : r = 2 ∨ r = 3) {x z : Nat → Nat} {l : List Nat} (h22 : ∀ i, i < k → M.1 22 i = ii (x i) ∧ x i < m * n) (h24 : ∀ i, i < k → M.1 24 i = ii (l.getD i 0) ∧ l.getD i 0 < k) (h23 : ∀ i, i < k → M.1 23 i = ii (z i) ∧ z i < m * n) :
    d_X8_isMap (ii k) (ii r) M = some (bI (∀ a, a < k ^ r → ∀ b, b < a → Alike m n k r x (fun i => z (l.getD i 0)) a b)) := by
  obtain ⟨hm, hn, hN, -⟩ := id h
  have hp : 0 < m * n := Nat.mul_pos hm hn
  have hall : k ^ r ≤ 216 := by
    have : ∀ k, k < 7 → k ^ 2 ≤ 216 ∧ k ^ 3 ≤ 216 := by decide
    have := this k (by omega)
    rcases hr with rfl | rfl
    · exact this.1
    · exact this.2
  have hpw : ∀ j, j ≤ r → k ^ j ≤ k ^ r := fun j hj => Nat.pow_le_pow_right hk1 hj
  have all : iter (g_X8_isMap_1 (ii k) (ii r)) 20000 ((1 : Int32), (0 : Int32)) = some (.inl (ii (k ^ r), ii r)) := by
    refine it_full (g := g_X8_isMap_1 (ii k) (ii r)) r (fun j => (ii (k ^ j), ii j)) (by omega) (fun j hj => ?_) ?_
    · unfold g_X8_isMap_1
      dsimp only
      rw [if_pos ((ii_lt (by omega) (by omega)).mpr hj), ii_mul, ii_inc, ← Nat.pow_succ]
    · unfold g_X8_isMap_1
      dsimp only
      rw [if_neg (by rw [ii_lt (by omega) (by omega)]; omega)]
  have tl : ∀ (x : Nat → Nat) a, ts m n k x r a 0 < 2147483648 := fun x a => by have := ts_lt (k := k) hm hn x r a 0 hp; omega
  have inner : ∀ a, a < k ^ r → (∃ y, iter (g_X8_isMap_4 (ii k) (ii r) M (ii a)) 20000 (0 : Int32) = some (.inl y) ∧ ∀ b, b < a → Alike m n k r x (fun i => z (l.getD i 0)) a b) ∨ (iter (g_X8_isMap_4 (ii k) (ii r) M (ii a)) 20000 (0 : Int32) = some (.inr (0 : Int32)) ∧ ¬ ∀ b, b < a → Alike m n k r x (fun i => z (l.getD i 0)) a b) := by
    intro a ha
    refine k_ex (fun b e1 e2 => ?_) (it_loop (g := g_X8_isMap_4 (ii k) (ii r) M (ii a)) a (fun b st => st = ii b ∧ ∀ c, c < b → Alike m n k r x (fun i => z (l.getD i 0)) a c)
      (fun q => (∃ y, q = .inl y ∧ ∀ b, b < a → Alike m n k r x (fun i => z (l.getD i 0)) a b) ∨ (q = .inr (0 : Int32) ∧ ¬ ∀ b, b < a → Alike m n k r x (fun i => z (l.getD i 0)) a b)) (a := (0 : Int32)) (by omega) ⟨rfl, fun c hc => absurd hc (Nat.not_lt_zero c)⟩ ?_ ?_)
    · rcases e2 with ⟨y, rfl, e2⟩ | ⟨rfl, e2⟩
      · exact Or.inl ⟨y, e1, e2⟩
      · exact Or.inr ⟨e1, e2⟩
    · rintro b st hb ⟨rfl, g⟩
      unfold g_X8_isMap_4
      rw [if_pos ((ii_lt (by omega) (by omega)).mpr hb), sum1_i h hk1 hk hr h22 (show a < 1000 by omega), sum1_i h hk1 hk hr h22 (show b < 1000 by omega), sum0_i h hk1 hk hr h24 h23 (show a < 1000 by omega), sum0_i h hk1 hk hr h24 h23 (show b < 1000 by omega)]
      simp only [Option.bind_some]
      have e : ((if ii (ts m n k x r a 0) = ii (ts m n k x r b 0) then (1 : Int32) else (0 : Int32)) = (if ii (ts m n k (fun i => z (l.getD i 0)) r a 0) = ii (ts m n k (fun i => z (l.getD i 0)) r b 0) then (1 : Int32) else (0 : Int32))) ↔ Alike m n k r x (fun i => z (l.getD i 0)) a b := by
        rw [if_iff, ii_eq (tl _ _) (tl _ _), ii_eq (tl _ _) (tl _ _)]
        exact Iff.rfl
      by_cases c : Alike m n k r x (fun i => z (l.getD i 0)) a b
      · rw [if_pos (e.mpr c), ii_inc]
        refine Or.inl ⟨_, rfl, rfl, fun d hd => ?_⟩
        by_cases q : d = b
        · rw [q]; exact c
        · exact g d (by omega)
      · rw [if_neg (fun q => c (e.mp q))]
        exact Or.inr ⟨_, rfl, Or.inr ⟨rfl, fun q => c (q b hb)⟩⟩
    · rintro st ⟨rfl, g⟩
      unfold g_X8_isMap_4
      rw [if_neg (by rw [ii_lt (by omega) (by omega)]; omega)]
      exact ⟨_, rfl, Or.inl ⟨_, rfl, g⟩⟩
  unfold d_X8_isMap
  rw [all]
  show onIt (iter (g_X8_isMap_3 (ii k) (ii r) M (ii (k ^ r), ii r)) 20000 (0 : Int32)) (fun (a6 : Int32) => some (1 : Int32)) (fun r => some r) = _
  refine k_ex (fun b e1 e2 => ?_) (it_loop (g := g_X8_isMap_3 (ii k) (ii r) M (ii (k ^ r), ii r)) (k ^ r) (fun a st => st = ii a ∧ ∀ c, c < a → ∀ b, b < c → Alike m n k r x (fun i => z (l.getD i 0)) c b)
      (fun q => (∃ y, q = .inl y ∧ ∀ a, a < k ^ r → ∀ b, b < a → Alike m n k r x (fun i => z (l.getD i 0)) a b) ∨ (q = .inr (0 : Int32) ∧ ¬ ∀ a, a < k ^ r → ∀ b, b < a → Alike m n k r x (fun i => z (l.getD i 0)) a b)) (a := (0 : Int32)) (by omega) ⟨rfl, fun c hc => absurd hc (Nat.not_lt_zero c)⟩ ?_ ?_)
  · rw [e1]
    rcases e2 with ⟨y, rfl, e2⟩ | ⟨rfl, e2⟩
    · rw [bI_t e2]; rfl
    · rw [bI_f e2]; rfl
  · rintro a st ha ⟨rfl, g⟩
    unfold g_X8_isMap_3
    dsimp only
    rw [if_pos ((ii_lt (by omega) (by omega)).mpr ha)]
    rcases inner a ha with ⟨y, q1, q2⟩ | ⟨q1, q2⟩
    · rw [q1]
      refine Or.inl ⟨_, rfl, ii_inc a, fun d hd => ?_⟩
      by_cases q : d = a
      · rw [q]; exact q2
      · exact g d (by omega)
    · rw [q1]
      exact Or.inr ⟨_, rfl, Or.inr ⟨rfl, fun q => q2 (q a ha)⟩⟩
  · rintro st ⟨rfl, g⟩
    unfold g_X8_isMap_3
    dsimp only
    rw [if_neg (by rw [ii_lt (by omega) (by omega)]; omega)]
    exact ⟨_, rfl, Or.inl ⟨_, rfl, g⟩⟩
end Tup
section MO
variable {M : Mem} {m n r k s t : Nat}
noncomputable def Bx (m n r k s t x : Nat) : List (List Nat) := ((List.range x).map (Un k)).filter (gd m n r t (Sj m n r (el s (m * n))))
theorem Bx_len (x : Nat) : (Bx m n r k s t x).length ≤ x := by
  unfold Bx
  refine Nat.le_trans (List.length_filter_le _ _) ?_
  rw [List.length_map, List.length_range]
  exact Nat.le_refl _
theorem Bx_succ (x : Nat) : Bx m n r k s t (x + 1) = Bx m n r k s t x ++ [Un k x].filter (gd m n r t (Sj m n r (el s (m * n)))) := by
  unfold Bx
  rw [List.range_succ, List.map_append, List.filter_append]
  rfl
theorem Bx_all (hk : k ≤ 6) : Bx m n r k s t (fac k) = allM m n r k s t := by
  unfold Bx allM
  rw [ext_un k (by omega)]
def FX (M : Mem) (k : Nat) (A : List (List Nat)) : Prop := A ≠ [] → ∀ i, i < k → M.1 25 i = ii ((A.headD []).getD i 0)
theorem copy_i {D : Mem} (hk : k ≤ 6) {l : List Nat} {A : List (List Nat)} (hA : FX D k A) (hl : A.length < 1000) (h24 : ∀ i, i < k → D.1 24 i = ii (l.getD i 0)) (a5 : Int32 × Int32 × Mem) (e5 : a5.1 = ii A.length) :
    ∃ (E : Mem) (y : Int32), iter (g_X8_mapsOf_6 (ii k) a5) 20000 ((0 : Int32), D) = some (.inl (y, E)) ∧ FX E k (A ++ [l]) ∧ Fr (fun k _ => k = 25) D E := by
  by_cases c : A = []
  · subst c
    refine k_ex (fun b e1 e2 => ?_) (it_loop (g := g_X8_mapsOf_6 (ii k) a5) k (fun e a => ∃ E : Mem, a = (ii e, E) ∧ (∀ i, i < e → E.1 25 i = ii (l.getD i 0)) ∧ Fr (fun k _ => k = 25) D E)
      (fun b => ∃ (E : Mem) (y : Int32), b = .inl (y, E) ∧ (∀ i, i < k → E.1 25 i = ii (l.getD i 0)) ∧ Fr (fun k _ => k = 25) D E) (a := ((0 : Int32), D)) (by omega) ⟨D, rfl, fun i hi => absurd hi (Nat.not_lt_zero i), Fr.rf _ D⟩ ?_ ?_)
    · obtain ⟨E, y, rfl, g1, g2⟩ := e2
      exact ⟨E, y, e1, fun _ i hi => g1 i hi, g2⟩
    · rintro e a he ⟨E, rfl, g1, g2⟩
      unfold g_X8_mapsOf_6
      dsimp only
      rw [e5, if_pos ((ii_lt (by omega) (by omega)).mpr he), if_pos (show ii ([] : List (List Nat)).length = (0 : Int32) from rfl), if_pos (ii_inb (n := 6) (by omega) (by decide)), if_pos (ii_inb (n := 6) (by omega) (by decide)), ii_ix (by omega), ii_inc, show E.1 24 e = ii (l.getD e 0) from (g2 24 e (by show ¬ (24 = 25); decide)).1.trans (h24 e he)]
      refine Or.inl ⟨_, rfl, _, rfl, fun i hi => ?_, g2.i 25 _ _ rfl⟩
      by_cases d : i = e
      · rw [d, sI_at]
      · rw [sI_ne _ _ (fun z => d z.2)]
        exact g1 i (by omega)
    · rintro a ⟨E, rfl, g1, g2⟩
      unfold g_X8_mapsOf_6
      dsimp only
      rw [if_neg (by rw [ii_lt (by omega) (by omega)]; omega)]
      exact ⟨_, rfl, E, _, rfl, g1, g2⟩
  · have hlen : 0 < A.length := List.length_pos_iff.mpr c
    refine ⟨D, 0, iter1 ?_, fun _ i hi => ?_, Fr.rf _ D⟩
    · unfold g_X8_mapsOf_6
      dsimp only
      rw [e5, if_neg (ii_ne0 hlen (by omega))]
      split <;> rfl
    · rw [hA c i hi]
      cases A with
      | nil => exact absurd rfl c
      | cons a b => rfl
theorem mapsOf_i (h : MI M m n) (hs : s < 2 ^ (m * n)) (ht : t < 2 ^ (m * n)) (hr : r = 2 ∨ r = 3) (hk1 : 1 ≤ k) (hk : k ≤ 6) (ps : pc s.testBit (m * n) = k) (pt : pc t.testBit (m * n) = k) :
    ∃ D : Mem, d_X8_mapsOf (ll s) (ll t) (ii r) M = some (.inl (some (.int (ii (allM m n r k s t).length))), D) ∧ FX D k (allM m n r k s t) ∧ (allM m n r k s t).length < 1000 ∧ (∀ i, i < k → D.1 23 i = ii (el t (m * n) i)) ∧ (∀ z ∈ allM m n r k s t, ∀ i, i < k → z.getD i 0 < k) ∧ Fr (fun k _ => k = 22 ∨ k = 23 ∨ k = 24 ∨ k = 25) M D := by
  obtain ⟨hm, hn, hN, -⟩ := id h
  have hp36 : 2 ^ (m * n) ≤ 2 ^ 36 := Nat.pow_le_pow_right (by decide) hN
  have hf := fac_le k (by omega)
  obtain ⟨B, x1, x2, x3, b1, b2, b3, b4⟩ := mline_i h hs ht
  rw [ps] at b2
  rw [pt] at b3
  obtain ⟨yf, f1⟩ := fac_i hk1 hk
  have key : ∃ (D : Mem) (y : Int32), iter (g_X8_mapsOf_5 (ii r) (ii k) (ii (fac k), yf)) 20000 ((0 : Int32), (0 : Int32), B) = some (.inl (ii (Bx m n r k s t (fac k)).length, y, D)) ∧ FX D k (Bx m n r k s t (fac k)) ∧ Fr (fun k _ => k = 24 ∨ k = 25) B D := by
    refine k_ex (fun b e1 e2 => ?_) (it_loop (g := g_X8_mapsOf_5 (ii r) (ii k) (ii (fac k), yf)) (fac k) (fun x a => ∃ D : Mem, a = (ii (Bx m n r k s t x).length, ii x, D) ∧ FX D k (Bx m n r k s t x) ∧ Fr (fun k _ => k = 24 ∨ k = 25) B D)
      (fun b => ∃ (D : Mem) (y : Int32), b = .inl (ii (Bx m n r k s t (fac k)).length, y, D) ∧ FX D k (Bx m n r k s t (fac k)) ∧ Fr (fun k _ => k = 24 ∨ k = 25) B D) (a := ((0 : Int32), (0 : Int32), B)) (by omega) ⟨B, rfl, fun z => absurd rfl z, Fr.rf _ B⟩ ?_ ?_)
    · obtain ⟨D, y, rfl, g⟩ := e2
      exact ⟨D, y, e1, g⟩
    · rintro x a hx ⟨D, rfl, g1, g2⟩
      have hBl := Bx_len (m := m) (n := n) (r := r) (k := k) (s := s) (t := t) x
      obtain ⟨E, o1, o2, o3⟩ := orders_i (M := D) hk hx
      have hul := un_len k (by omega) x hx
      have hult : ∀ i, i < k → (Un k x).getD i 0 < k := fun i hi => by
        have := List.all_eq_true.mp (un_lt k (by omega) x hx) ((Un k x).getD i 0) (by
          rw [List.getD_eq_getElem?_getD, List.getElem?_eq_getElem (by omega)]
          exact List.getElem_mem _)
        exact Nat.blt_eq.mp this
      have fBE : Fr (fun k _ => k = 24 ∨ k = 25) B E := g2.tr (o3.sub fun a b z => Or.inl z)
      have fME : Fr (fun k _ => k = 22 ∨ k = 23 ∨ k = 24 ∨ k = 25) M E := (b4.sub fun a b (z : a = 22 ∨ a = 23) => (by omega : a = 22 ∨ a = 23 ∨ a = 24 ∨ a = 25)).tr (fBE.sub fun a b (z : a = 24 ∨ a = 25) => (by omega : a = 22 ∨ a = 23 ∨ a = 24 ∨ a = 25))
      have hE : MI E m n := h.f fun j _ => (fME 19 j (by show ¬ (19 = 22 ∨ 19 = 23 ∨ 19 = 24 ∨ 19 = 25); decide)).1
      have e22 : ∀ i, i < k → E.1 22 i = ii (el s (m * n) i) ∧ el s (m * n) i < m * n := fun i hi => ⟨(fBE 22 i (by show ¬ (22 = 24 ∨ 22 = 25); decide)).1.trans (b2 i hi), el_lt s (by omega)⟩
      have e23 : ∀ i, i < k → E.1 23 i = ii (el t (m * n) i) ∧ el t (m * n) i < m * n := fun i hi => ⟨(fBE 23 i (by show ¬ (23 = 24 ∨ 23 = 25); decide)).1.trans (b3 i hi), el_lt t (by omega)⟩
      have him := isMap_i hE hk1 hk hr e22 (fun i hi => ⟨o2 i hi, hult i hi⟩) e23
      have hcop : (∀ a, a < k ^ r → ∀ b, b < a → Alike m n k r (el s (m * n)) (fun i => el t (m * n) ((Un k x).getD i 0)) a b) ↔ CoP m n r t (Sj m n r (el s (m * n))) (Un k x) := by
        rw [alike_iff hn hr hk1 hk (fun i hi => (e22 i hi).2) (fun i hi => (e23 _ (hult i hi)).2)]
        unfold CoP
        rw [hul]
        exact Iff.rfl
      rw [bI_congr hcop] at him
      unfold g_X8_mapsOf_5
      dsimp only
      rw [if_pos ((ii_lt (by omega) (by omega)).mpr hx), o1, onV_ok, him]
      simp only [Option.bind_some]
      by_cases c : CoP m n r t (Sj m n r (el s (m * n))) (Un k x)
      · obtain ⟨G, y, q1, q2, q3⟩ := copy_i (D := E) hk (l := Un k x) (A := Bx m n r k s t x) (fun z i hi => (o3 25 i (by show ¬ (25 = 24); decide)).1.trans (g1 z i hi)) (by omega) o2 (ii (Bx m n r k s t x).length, ii x, D) rfl
        rw [if_neg (by rw [bI_t c]; decide), q1]
        refine Or.inl ⟨_, rfl, G, ?_, ?_, fBE.tr (q3.sub fun a b z => Or.inr z)⟩
        · show (ii (Bx m n r k s t x).length + (1 : Int32), ii x + (1 : Int32), G) = _
          rw [Bx_succ, List.filter_cons_of_pos (gd_iff.mpr c), List.filter_nil, List.length_append, ii_inc, ii_inc]
          rfl
        · rw [Bx_succ, List.filter_cons_of_pos (gd_iff.mpr c), List.filter_nil]
          exact q2
      · rw [if_pos (bI_f c)]
        have hz : Bx m n r k s t (x + 1) = Bx m n r k s t x := by
          rw [Bx_succ, List.filter_cons_of_neg (fun z => c (gd_iff.mp z)), List.filter_nil, List.append_nil]
        refine Or.inl ⟨_, rfl, E, by rw [hz, ii_inc], ?_, fBE⟩
        rw [hz]
        exact fun z i hi => (o3 25 i (by show ¬ (25 = 24); decide)).1.trans (g1 z i hi)
    · rintro a ⟨D, rfl, g1, g2⟩
      unfold g_X8_mapsOf_5
      dsimp only
      rw [if_neg (by rw [ii_lt (by omega) (by omega)]; omega)]
      exact ⟨_, rfl, D, _, rfl, g1, g2⟩
  obtain ⟨D, y, d1, d2, d3⟩ := key
  have hlen := Bx_len (m := m) (n := n) (r := r) (k := k) (s := s) (t := t) (fac k)
  rw [Bx_all hk] at d1 d2 hlen
  refine ⟨D, ?_, d2, by omega, fun i hi => ?_, fun z hz i hi => ?_, (b4.sub fun a b (z : a = 22 ∨ a = 23) => (by omega : a = 22 ∨ a = 23 ∨ a = 24 ∨ a = 25)).tr (d3.sub fun a b (z : a = 24 ∨ a = 25) => (by omega : a = 22 ∨ a = 23 ∨ a = 24 ∨ a = 25))⟩
  · unfold d_X8_mapsOf
    rw [many_i (by omega), many_i (by omega), sz_st (by omega) hs, sz_st (by omega) ht, ps, pt]
    simp only [Option.bind_some]
    rw [if_pos trivial, b1]
    show onIt (iter (g_X8_mapsOf_3 (ii k)) 20000 ((1 : Int32), (2 : Int32))) _ _ = _
    rw [f1]
    show onIt (iter (g_X8_mapsOf_5 (ii r) (ii k) (ii (fac k), yf)) 20000 ((0 : Int32), (0 : Int32), B)) _ _ = _
    rw [d1]
    rfl
  · rw [(d3 23 i (by show ¬ (23 = 24 ∨ 23 = 25); decide)).1]
    exact b3 i hi
  · unfold allM at hz
    have hz' := (List.mem_filter.mp hz).1
    rw [ext_un k (by omega)] at hz'
    obtain ⟨x, hx, rfl⟩ := List.mem_map.mp hz'
    have hx' := List.mem_range.mp hx
    have hul := un_len k (by omega) x hx'
    have := List.all_eq_true.mp (un_lt k (by omega) x hx') ((Un k x).getD i 0) (by
      rw [List.getD_eq_getElem?_getD, List.getElem?_eq_getElem (by omega)]
      exact List.getElem_mem _)
    exact Nat.blt_eq.mp this
theorem mapsNone_i (hs : s < 2 ^ (m * n)) (ht : t < 2 ^ (m * n)) (hN : m * n ≤ 36) (hne : pc s.testBit (m * n) ≠ pc t.testBit (m * n)) (v : Int32) : d_X8_mapsOf (ll s) (ll t) v M = some (.inl (some (.int 0)), M) := by
  have hp36 : 2 ^ (m * n) ≤ 2 ^ 36 := Nat.pow_le_pow_right (by decide) hN
  have h1 := pc_le s.testBit (m * n)
  have h2 := pc_le t.testBit (m * n)
  unfold d_X8_mapsOf
  rw [many_i (by omega), many_i (by omega), sz_st (by omega) hs, sz_st (by omega) ht]
  simp only [Option.bind_some]
  rw [if_neg (by rw [ii_eq (by omega) (by omega)]; exact hne)]
end MO
