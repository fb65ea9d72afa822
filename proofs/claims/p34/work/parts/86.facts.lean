/-! WHAT THE LAW ASKS OF A HOUSE'S NUMBERS -/
/-! sums of sums -/
theorem su_zero : ∀ n, su (fun _ => 0) n = 0
  | 0 => rfl
  | n + 1 => by show su (fun _ => 0) n + 0 = 0; rw [su_zero n]
theorem su_swap (f : Nat → Nat → Nat) (N : Nat) : ∀ n, su (fun i => su (fun j => f i j) N) n = su (fun j => su (fun i => f i j) n) N
  | 0 => (su_zero N).symm
  | n + 1 => by
    show su (fun i => su (fun j => f i j) N) n + su (fun j => f n j) N = su (fun j => su (fun i => f i j) n + f n j) N
    rw [su_swap f N n, su_add]
theorem su_at {c : Nat} (g : Nat → Nat) : ∀ n, su (fun j => if j = c then g j else 0) n = if c < n then g c else 0
  | 0 => by rw [if_neg (Nat.not_lt_zero c)]; rfl
  | n + 1 => by
    show su (fun j => if j = c then g j else 0) n + (if n = c then g n else 0) = _
    rw [su_at g n]
    by_cases e : n = c
    · subst e; rw [if_neg (Nat.lt_irrefl n), if_pos rfl, if_pos (Nat.lt_succ_self n), Nat.zero_add]
    · rw [if_neg e, Nat.add_zero]
      by_cases h : c < n
      · rw [if_pos h, if_pos (by omega)]
      · rw [if_neg h, if_neg (by omega)]
theorem su_bij {N : Nat} {σ τ : Nat → Nat} (f : Nat → Nat) (hσ : ∀ i, i < N → σ i < N) (hτ : ∀ i, i < N → τ i < N) (h1 : ∀ i, i < N → τ (σ i) = i) (h2 : ∀ j, j < N → σ (τ j) = j) : su (fun i => f (σ i)) N = su f N := by
  have e1 : su (fun i => f (σ i)) N = su (fun i => su (fun j => if j = σ i then f j else 0) N) N := su_congr fun i hi => by rw [su_at, if_pos (hσ i hi)]
  have e2 : su f N = su (fun j => su (fun i => if i = τ j then f j else 0) N) N := su_congr fun j hj => by rw [su_at (c := τ j) (fun _ => f j), if_pos (hτ j hj)]
  rw [e1, e2, su_swap]
  refine su_congr fun j hj => su_congr fun i hi => ?_
  by_cases e : j = σ i
  · rw [if_pos e, if_pos (by rw [e, h1 i hi])]
  · rw [if_neg e, if_neg (fun z => e (by rw [z, h2 j hj]))]
theorem su_mono {f g : Nat → Nat} : ∀ {n}, (∀ i, i < n → f i ≤ g i) → su f n ≤ su g n
  | 0, _ => Nat.le_refl 0
  | n + 1, h => Nat.add_le_add (su_mono fun i hi => h i (by omega)) (h n (by omega))
def χ (a i : Nat) : Nat := if a.testBit i then 1 else 0
theorem χ_and (a i : Nat) (b : Bool) : (if (a.testBit i && b) = true then 1 else 0) = χ a i * (if b = true then 1 else 0) := by
  unfold χ
  cases a.testBit i <;> cases b <;> rfl
section Fct
variable {m n : Nat}
theorem sz_su {x N : Nat} (hN : N ≤ 64) (h : x < 2 ^ N) : sz x = su (χ x) N := by
  rw [sz_to h hN]
  exact (su_pc x.testBit N).symm
theorem wd_su (hm : 0 < m) (hn : 0 < n) (hN : m * n ≤ 36) {a : Nat} (ha : a < 2 ^ (m * n)) (e : Nat) : wd m n a e = su (fun x => χ a x * χ a (sb m n x e)) (m * n) := by
  unfold wd
  rw [sz_su (by omega) (and_lt ha)]
  refine su_congr fun x hx => ?_
  show (if (a &&& shf m n a e).testBit x = true then 1 else 0) = _
  rw [Nat.testBit_and]
  have hb : (shf m n a e).testBit x = a.testBit (sb m n x e) := by
    cases c : a.testBit (sb m n x e) with
    | true => exact (shf_bit a e x).mpr ⟨hx, c⟩
    | false =>
      rw [← Bool.not_eq_true]
      intro z
      rw [((shf_bit a e x).mp z).2] at c
      cases c
  rw [hb, χ_and]
  rfl
theorem wy_su (hm : 0 < m) (hn : 0 < n) (hN : m * n ≤ 36) {a : Nat} (ha : a < 2 ^ (m * n)) (b : Nat) {e : Nat} (he : e < m * n) : wy m n a b e = su (fun x => χ a x * χ b (sb m n e x)) (m * n) := by
  unfold wy
  rw [sz_su (by omega) (and_lt ha)]
  refine su_congr fun x hx => ?_
  show (if (a &&& shf m n (mir m n b) e).testBit x = true then 1 else 0) = _
  rw [Nat.testBit_and]
  have hq : ng m n (sb m n x e) = sb m n e x := by
    unfold sb
    rw [ng_ad hm hn, ng_ng hm hn he, ad_comm]
  have hb : (shf m n (mir m n b) e).testBit x = b.testBit (sb m n e x) := by
    cases c : b.testBit (sb m n e x) with
    | true => exact (shf_bit _ e x).mpr ⟨hx, (st_bit _ _ _).mpr ⟨sb_lt hm hn _ _, by rw [hq]; exact c⟩⟩
    | false =>
      rw [← Bool.not_eq_true]
      intro z
      have := ((st_bit _ _ _).mp ((shf_bit _ e x).mp z).2).2
      rw [hq, c] at this
      cases this
  rw [hb, χ_and]
  rfl
theorem su_mul2 (f g : Nat → Nat) (N M : Nat) : su f N * su g M = su (fun i => su (fun j => f i * g j) M) N := by
  rw [show su (fun i => su (fun j => f i * g j) M) N = su (fun i => su g M * f i) N from su_congr fun i _ => by rw [su_mul, Nat.mul_comm]]
  rw [su_mul, Nat.mul_comm]
theorem sb_sb (hm : 0 < m) (hn : 0 < n) {x d : Nat} (hx : x < m * n) (hd : d < m * n) : sb m n x (sb m n x d) = d :=
  ((ad_iff hm hn hd hx).mp (by rw [ad_comm]; exact ((ad_iff hm hn (sb_lt hm hn x d) hx).mpr rfl))).symm
theorem sb_ad2 (hm : 0 < m) (hn : 0 < n) {u y : Nat} (hu : u < m * n) : sb m n (ad m n u y) y = u := by
  rw [ad_comm]; exact sb_ad hm hn hu
/-- both energies are one -/
theorem en_ea (hm : 0 < m) (hn : 0 < n) (hN : m * n ≤ 36) {a b : Nat} (ha : a < 2 ^ (m * n)) (hb : b < 2 ^ (m * n)) :
    su (fun e => wy m n a b e * wy m n a b e) (m * n) = su (fun e => wd m n a e * wd m n b e) (m * n) := by
  have L : su (fun e => wy m n a b e * wy m n a b e) (m * n) = su (fun x => su (fun y => χ a x * χ a y * su (fun u => χ b u * χ b (sb m n u (sb m n x y))) (m * n)) (m * n)) (m * n) := by
    rw [show su (fun e => wy m n a b e * wy m n a b e) (m * n) = su (fun e => su (fun x => su (fun y => χ a x * χ a y * (χ b (sb m n e y) * χ b (sb m n e x))) (m * n)) (m * n)) (m * n) from su_congr fun e he => by
      rw [wy_su hm hn hN ha b he, su_mul2]
      refine su_congr fun x hx => su_congr fun y hy => ?_
      rw [Nat.mul_mul_mul_comm, Nat.mul_comm (χ b (sb m n e x))]]
    rw [su_swap]
    refine su_congr fun x hx => ?_
    rw [su_swap]
    refine su_congr fun y hy => ?_
    rw [su_mul]
    congr 1
    rw [← su_bij (σ := fun u => ad m n u y) (τ := fun e => sb m n e y) (fun e => χ b (sb m n e y) * χ b (sb m n e x)) (fun u _ => ad_lt hm hn u y) (fun e _ => sb_lt hm hn e y) (fun u hu => sb_ad2 hm hn hu) (fun e he => by
      show ad m n (sb m n e y) y = e
      exact ad_sb hm hn he)]
    refine su_congr fun u hu => ?_
    show χ b (sb m n (ad m n u y) y) * χ b (sb m n (ad m n u y) x) = _
    rw [sb_ad2 hm hn hu]
    congr 2
    unfold sb
    rw [ng_ad hm hn, ng_ng hm hn hy, ad_assoc hn, ad_comm y]
  have R : su (fun e => wd m n a e * wd m n b e) (m * n) = su (fun x => su (fun y => χ a x * χ a y * su (fun u => χ b u * χ b (sb m n u (sb m n x y))) (m * n)) (m * n)) (m * n) := by
    rw [show su (fun e => wd m n a e * wd m n b e) (m * n) = su (fun e => su (fun x => χ a x * χ a (sb m n x e) * su (fun u => χ b u * χ b (sb m n u e)) (m * n)) (m * n)) (m * n) from su_congr fun e he => by
      rw [wd_su hm hn hN ha, wd_su hm hn hN hb, Nat.mul_comm, ← su_mul]
      exact su_congr fun x _ => Nat.mul_comm _ _]
    rw [su_swap]
    refine su_congr fun x hx => ?_
    rw [← su_bij (σ := fun y => sb m n x y) (τ := fun y => sb m n x y) (fun e => χ a x * χ a (sb m n x e) * su (fun u => χ b u * χ b (sb m n u e)) (m * n)) (fun y _ => sb_lt hm hn x y) (fun y _ => sb_lt hm hn x y) (fun y hy => sb_sb hm hn hx hy) (fun y hy => sb_sb hm hn hx hy)]
    refine su_congr fun y hy => ?_
    show χ a x * χ a (sb m n x (sb m n x y)) * _ = _
    rw [sb_sb hm hn hx hy]
  rw [L, R]
/-- the triangle of differences -/
theorem dtri (hm : 0 < m) (hn : 0 < n) (hN : m * n ≤ 36) {P Q D B : Nat} (hP : P < 2 ^ (m * n)) (hQ : Q < 2 ^ (m * n)) (hD : D < 2 ^ (m * n)) (hB : B < 2 ^ (m * n))
    (h : ∀ d, d < m * n → D.testBit d = true → sz B ≤ pc (fun p => P.testBit p && Q.testBit (sb m n d p)) (m * n)) : sz D * sz B ≤ sz P * sz Q := by
  have e1 : sz P * sz Q = su (fun d => su (fun p => χ P p * χ Q (sb m n d p)) (m * n)) (m * n) := by
    rw [sz_su (by omega) hP, sz_su (by omega) hQ, su_mul2]
    rw [su_swap (fun d p => χ P p * χ Q (sb m n d p))]
    refine su_congr fun p hp => ?_
    rw [su_mul, su_mul]
    congr 1
    exact (su_bij (σ := fun d => sb m n d p) (τ := fun q => ad m n q p) (χ Q) (fun d _ => sb_lt hm hn d p) (fun q _ => ad_lt hm hn q p) (fun d hd => by
      show ad m n (sb m n d p) p = d
      exact ad_sb hm hn hd) (fun q hq => sb_ad2 hm hn hq)).symm
  have e2 : sz D * sz B = su (fun d => sz B * χ D d) (m * n) := by rw [su_mul, ← sz_su (by omega) hD, Nat.mul_comm]
  rw [e1, e2]
  refine su_mono fun d hd => ?_
  cases c : D.testBit d with
  | false =>
    unfold χ
    rw [c, if_neg (by decide), Nat.mul_zero]
    exact Nat.zero_le _
  | true =>
    rw [show χ D d = 1 from if_pos c, Nat.mul_one]
    refine Nat.le_trans (h d hd c) (Nat.le_of_eq ?_)
    rw [← su_pc]
    exact su_congr fun p hp => by rw [χ_and]; rfl
end Fct
