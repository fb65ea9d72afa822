/-! RULES: what they say, the class's way and the reference's -/
noncomputable def bI (p : Prop) : Int32 := @ite Int32 p (Classical.propDecidable p) 1 0
theorem bI_t {p : Prop} (h : p) : bI p = 1 := if_pos h
theorem bI_f {p : Prop} (h : ¬ p) : bI p = 0 := if_neg h
theorem bI_congr {p q : Prop} (h : p ↔ q) : bI p = bI q := by rw [propext h]
theorem bI_and (p q : Prop) : bI p &&& bI q = bI (p ∧ q) := by
  by_cases hp : p
  · by_cases hq : q
    · rw [bI_t hp, bI_t hq, bI_t ⟨hp, hq⟩]; decide
    · rw [bI_t hp, bI_f hq, bI_f fun h => hq h.2]; decide
  · rw [bI_f hp, bI_f (p := p ∧ q) fun h => hp h.1]
    by_cases hq : q
    · rw [bI_t hq]; decide
    · rw [bI_f hq]; decide
theorem bI_one (p : Prop) : bI p &&& (1 : Int32) = bI p := by
  by_cases hp : p
  · rw [bI_t hp]; decide
  · rw [bI_f hp]; decide
theorem bI_eq0 (p : Prop) : bI p = 0 ↔ ¬ p := by
  by_cases hp : p
  · rw [bI_t hp]; exact ⟨fun h => absurd h (by decide), fun h => (h hp).elim⟩
  · rw [bI_f hp]; exact ⟨fun _ => hp, fun _ => rfl⟩
theorem bI_ite (c : Prop) [Decidable c] : (if c then (1 : Int32) else 0) = bI c := by
  by_cases h : c
  · rw [if_pos h, bI_t h]
  · rw [if_neg h, bI_f h]
theorem bI_ite' (c : Prop) [Decidable c] : (if c then (0 : Int32) else 1) = bI (¬ c) := by
  by_cases h : c
  · rw [if_pos h, bI_f fun k => k h]
  · rw [if_neg h, bI_t h]
/-- a loop that asks whether something holds of all -/
theorem up_all {N : Nat} (hN : N < 20000) {B : Type} {g : Int32 × Int32 → Option ((Int32 × Int32) ⊕ B)} {b : B} (P0 : Prop) (C : Nat → Prop)
    (hs : ∀ k P, k < N → g (bI P, ii k) = some (.inl (bI (P ∧ C k), ii (k + 1))))
    (he : g (bI (P0 ∧ ∀ k, k < N → C k), ii N) = some (.inr b)) : iter g 20000 (bI P0, (0 : Int32)) = some b := by
  have := it_full (g := g) N (fun k => (bI (P0 ∧ ∀ j, j < k → C j), ii k)) (b := b) hN (fun k hk => by
    rw [hs k _ hk, bI_congr (p := (P0 ∧ ∀ j, j < k → C j) ∧ C k) (q := P0 ∧ ∀ j, j < k + 1 → C j)]
    constructor
    · rintro ⟨⟨h1, h2⟩, h3⟩
      refine ⟨h1, fun j hj => ?_⟩
      by_cases e : j = k
      · rw [e]; exact h3
      · exact h2 j (by omega)
    · rintro ⟨h1, h2⟩
      exact ⟨⟨h1, fun j hj => h2 j (by omega)⟩, h2 k (by omega)⟩) he
  rw [bI_congr (p := P0 ∧ ∀ j, j < 0 → C j) (q := P0) ⟨fun h => h.1, fun h => ⟨h, fun j hj => absurd hj (Nat.not_lt_zero j)⟩⟩] at this
  exact this
def Fre (m n s : Nat) : Prop := ∀ x y, s.testBit x = true → s.testBit y = true → s.testBit (ad m n y x) = false
def Sid (m n s : Nat) : Prop := ∀ a b c d, s.testBit a = true → s.testBit b = true → s.testBit c = true → s.testBit d = true → b ≤ a → d ≤ c → ad m n a b = ad m n c d → a = c ∧ b = d
def Nst (m n s : Nat) : Prop := ∀ x z y, s.testBit x = true → s.testBit z = true → s.testBit y = true → z < x → y ≠ x → y ≠ z → ad m n x z ≠ ad m n y y
/-- the sums of the subsets of the elements below k -/
noncomputable def apA (m n s : Nat) : Nat → Nat
  | 0 => 1
  | k + 1 => if s.testBit k then apA m n s k ||| shf m n (apA m n s k) k else apA m n s k
def Apt (m n s : Nat) : Prop := ∀ e, s.testBit e = true → apA m n s e &&& shf m n (apA m n s e) e = 0
theorem and_0 {a b N : Nat} (ha : a < 2 ^ N) : a &&& b = 0 ↔ ∀ i, i < N → a.testBit i = true → b.testBit i = true → False := by
  constructor
  · intro h i _ h1 h2
    have := congrArg (fun x => x.testBit i) h
    simp only [Nat.testBit_and, h1, h2, Nat.zero_testBit] at this
    cases this
  · intro h
    refine tB_ext (n := N) (and_lt ha) (Nat.two_pow_pos N) fun i hi => ?_
    rw [Nat.testBit_and, Nat.zero_testBit]
    cases e1 : a.testBit i with
    | false => rfl
    | true =>
      cases e2 : b.testBit i with
      | false => rfl
      | true => exact (h i hi e1 e2).elim
section Rul
variable {M : Mem} {m n : Nat}
theorem shf_and (hm : 0 < m) (hn : 0 < n) {s t x : Nat} (hs : s < 2 ^ (m * n)) (hx : x < m * n) : shf m n s x &&& t = 0 ↔ ∀ y, s.testBit y = true → t.testBit (ad m n y x) = false := by
  rw [and_0 (shf_lt s x)]
  constructor
  · intro h y hy
    cases e : t.testBit (ad m n y x) with
    | false => rfl
    | true =>
      have hyN := tb_lt hs hy
      refine (h (ad m n y x) (ad_lt hm hn y x) ((shf_bit s x _).mpr ⟨ad_lt hm hn y x, ?_⟩) e).elim
      rw [ad_comm, sb_ad hm hn hyN]; exact hy
  · intro h i hi h1 h2
    have := h _ ((shf_bit s x i).mp h1).2
    rw [ad_sb hm hn hi, h2] at this
    cases this
theorem cfree_i (h : GI M m n) {s : Nat} (hs : s < 2 ^ (m * n)) : d_X4_isFree (ll s) M = some (bI (Fre m n s)) := by
  have h' := h
  obtain ⟨hm, hn, hN, -⟩ := h'
  refine k_ex (fun b e1 e2 => ?_) (it_bits (g := g_X4_isFree_1 (ll s) M) (set64 hs hN) (fun l a => a = (ll l, ii (sz l)) ∧ (∀ i, l.testBit i = true → s.testBit i = true) ∧ ∀ x y, s.testBit x = true → l.testBit x = false → s.testBit y = true → s.testBit (ad m n y x) = false)
    (fun b => (∃ q, b = .inl q ∧ Fre m n s) ∨ (b = .inr (0 : Int32) ∧ ¬ Fre m n s)) (a := (ll s, ii (sz s))) ⟨rfl, fun _ h => h, fun x y h1 h2 => by rw [h1] at h2; cases h2⟩ ?_ ?_)
  · unfold d_X4_isFree
    rw [bitCount_i (set64 hs hN), e1]
    rcases e2 with ⟨q, rfl, h1⟩ | ⟨rfl, h1⟩
    · rw [bI_t h1]; rfl
    · rw [bI_f h1]; rfl
  · rintro l a hl hl0 ⟨rfl, hsub, hP⟩
    obtain ⟨t, ht, k1, k2, k3, k4, k5⟩ := low_set hl hl0
    have hst := hsub t k2
    have htN := tb_lt hs hst
    have := sz_le l
    unfold g_X4_isFree_1
    dsimp only
    rw [if_neg (ii_gt0 (by omega) (by omega)), k1, shifted_i h hs htN, ll_and]
    by_cases c : shf m n s t &&& s = 0
    · rw [if_pos ((lc_z (set64 (and_lt (shf_lt s t)) hN)).mpr c), without_i hl0, ii_dec (by omega)]
      refine Or.inl ⟨_, rfl, by rw [k5, Nat.add_sub_cancel], fun i hi => hsub i (by rw [k4, Bool.and_eq_true] at hi; exact hi.1), fun x y h1 h2 h3 => ?_⟩
      by_cases e : x = t
      · subst e; exact (shf_and hm hn hs htN).mp c y h3
      · rw [k4, decide_eq_false e, Bool.not_false, Bool.and_true] at h2
        exact hP x y h1 h2 h3
    · rw [if_neg (fun z => c ((lc_z (set64 (and_lt (shf_lt s t)) hN)).mp z))]
      refine Or.inr ⟨_, rfl, Or.inr ⟨rfl, fun hF => c ((shf_and hm hn hs htN).mpr fun y hy => hF t y hst hy)⟩⟩
  · rintro a ⟨rfl, -, hP⟩
    unfold g_X4_isFree_1
    dsimp only
    rw [sz_zero, if_pos ((ii_le0 (by decide)).mpr rfl)]
    exact ⟨_, rfl, Or.inl ⟨_, rfl, fun x y h1 h2 => hP x y h1 (Nat.zero_testBit x) h2⟩⟩
/-! sums of pairs -/
noncomputable def prS (m n : Nat) (D : Nat → Nat → Prop) : Nat := st (m * n) (fun i => ∃ a b, D a b ∧ ad m n a b = i)
def prI (m n : Nat) (D : Nat → Nat → Prop) : Prop := ∀ a b c d, D a b → D c d → ad m n a b = ad m n c d → a = c ∧ b = d
theorem prS_lt (D : Nat → Nat → Prop) : prS m n D < 2 ^ (m * n) := st_lt _ _
theorem prS_bit (D : Nat → Nat → Prop) (i : Nat) : (prS m n D).testBit i = true ↔ i < m * n ∧ ∃ a b, D a b ∧ ad m n a b = i := st_bit _ _ _
theorem prS_congr {D E : Nat → Nat → Prop} (h : ∀ a b, D a b ↔ E a b) : prS m n D = prS m n E := st_congr fun i _ => ⟨fun ⟨a, b, h1, h2⟩ => ⟨a, b, (h a b).mp h1, h2⟩, fun ⟨a, b, h1, h2⟩ => ⟨a, b, (h a b).mpr h1, h2⟩⟩
theorem prI_congr {D E : Nat → Nat → Prop} (h : ∀ a b, D a b ↔ E a b) : prI m n D ↔ prI m n E :=
  ⟨fun k a b c d h1 h2 => k a b c d ((h a b).mpr h1) ((h c d).mpr h2), fun k a b c d h1 h2 => k a b c d ((h a b).mp h1) ((h c d).mp h2)⟩
theorem pr_add (hm : 0 < m) (hn : 0 < n) {D : Nat → Nat → Prop} {x y : Nat} (hD : ¬ D x y) : prS m n (fun a b => D a b ∨ (a = x ∧ b = y)) = prS m n D ||| 2 ^ ad m n x y ∧ (prI m n (fun a b => D a b ∨ (a = x ∧ b = y)) ↔ prI m n D ∧ prS m n D &&& 2 ^ ad m n x y = 0) := by
  have hl := ad_lt hm hn x y
  constructor
  · refine (st_eq (Nat.or_lt_two_pow (st_lt _ _) (Nat.pow_lt_pow_right (by decide) hl)) fun i hi => ?_).symm
    rw [Nat.testBit_or, Bool.or_eq_true, st_bit, Nat.testBit_two_pow, decide_eq_true_eq]
    constructor
    · rintro (⟨-, a, b, h1, h2⟩ | h)
      · exact ⟨a, b, Or.inl h1, h2⟩
      · exact ⟨x, y, Or.inr ⟨rfl, rfl⟩, h⟩
    · rintro ⟨a, b, h1 | ⟨rfl, rfl⟩, h2⟩
      · exact Or.inl ⟨hi, a, b, h1, h2⟩
      · exact Or.inr h2
  · rw [and_0 (prS_lt _)]
    constructor
    · intro h
      refine ⟨fun a b c d h1 h2 => h a b c d (Or.inl h1) (Or.inl h2), fun i hi h1 h2 => ?_⟩
      obtain ⟨-, a, b, h3, h4⟩ := (st_bit _ _ _).mp h1
      rw [Nat.testBit_two_pow, decide_eq_true_eq] at h2
      obtain ⟨rfl, rfl⟩ := h a b x y (Or.inl h3) (Or.inr ⟨rfl, rfl⟩) (h4.trans h2.symm)
      exact hD h3
    · rintro ⟨h1, h2⟩ a b c d h3 h4 h5
      have no : ∀ a b, D a b → ad m n a b = ad m n x y → False := fun a b g1 g2 =>
        h2 _ hl ((st_bit _ _ _).mpr ⟨hl, a, b, g1, g2⟩) (by rw [Nat.testBit_two_pow, decide_eq_true_eq])
      rcases h3 with h3 | ⟨rfl, rfl⟩
      · rcases h4 with h4 | ⟨rfl, rfl⟩
        · exact h1 a b c d h3 h4 h5
        · exact (no a b h3 h5).elim
      · rcases h4 with h4 | ⟨rfl, rfl⟩
        · exact (no c d h4 h5.symm).elim
        · exact ⟨rfl, rfl⟩
theorem sid_pr {s N : Nat} (hs : s < 2 ^ N) : prI m n (fun a b => s.testBit a = true ∧ s.testBit b = true ∧ b ≤ a) ↔ Sid m n s :=
  ⟨fun h a b c d h1 h2 h3 h4 h5 h6 => h a b c d ⟨h1, h2, h5⟩ ⟨h3, h4, h6⟩, fun h a b c d ⟨h1, h2, h5⟩ ⟨h3, h4, h6⟩ => h a b c d h1 h2 h3 h4 h5 h6⟩
theorem csidon_i (h : GI M m n) {s : Nat} (hs : s < 2 ^ (m * n)) : d_X4_isSidon (ll s) M = some (bI (Sid m n s)) := by
  have h' := h
  obtain ⟨hm, hn, hN, -⟩ := h'
  refine k_ex (fun b e1 e2 => ?_) (it_bits (g := g_X4_isSidon_1 M) (set64 hs hN) (fun l a => ∃ k, (∀ i, l.testBit i = true ↔ s.testBit i = true ∧ k ≤ i) ∧ a = (ll (prS m n fun a b => s.testBit a = true ∧ s.testBit b = true ∧ b ≤ a ∧ b < k), ll l, ii (sz l)) ∧ prI m n (fun a b => s.testBit a = true ∧ s.testBit b = true ∧ b ≤ a ∧ b < k))
    (fun b => (∃ q, b = .inl q ∧ Sid m n s) ∨ (b = .inr (0 : Int32) ∧ ¬ Sid m n s)) (a := (ll 0, ll s, ii (sz s))) ⟨0, fun i => ⟨fun h => ⟨h, Nat.zero_le i⟩, fun h => h.1⟩, ?_, fun a b c d h1 => absurd h1.2.2.2 (Nat.not_lt_zero b)⟩ ?_ ?_)
  · unfold d_X4_isSidon
    rw [bitCount_i (set64 hs hN), ll_0, e1]
    rcases e2 with ⟨q, rfl, h1⟩ | ⟨rfl, h1⟩
    · rw [bI_t h1]; rfl
    · rw [bI_f h1]; rfl
  · rw [show (prS m n fun a b => s.testBit a = true ∧ s.testBit b = true ∧ b ≤ a ∧ b < 0) = 0 from st_false fun i _ ⟨a, b, h1, _⟩ => Nat.not_lt_zero b h1.2.2.2]
  · rintro l a hl hl0 ⟨k, hlk, rfl, hI⟩
    obtain ⟨t, ht, k1, k2, k3, k4, k5⟩ := low_set hl hl0
    obtain ⟨hst, hkt⟩ := (hlk t).mp k2
    have htN := tb_lt hs hst
    have hlN : l < 2 ^ (m * n) := by
      apply Nat.lt_of_not_le
      intro c
      obtain ⟨i, hi1, hi2⟩ := Nat.exists_ge_and_testBit_of_ge_two_pow c
      have := tb_lt hs ((hlk i).mp hi2).1
      omega
    have := sz_le l
    have hlow : ∀ i, s.testBit i = true → i < t → i < k := fun i h1 h2 => by
      apply Nat.lt_of_not_le
      intro c
      have := (hlk i).mpr ⟨h1, c⟩
      rw [k3 i h2] at this
      cases this
    unfold g_X4_isSidon_1
    dsimp only
    rw [if_neg (ii_gt0 (by omega) (by omega)), k1, shifted_i h hlN htN, ll_and]
    by_cases c : shf m n l t &&& (prS m n fun a b => s.testBit a = true ∧ s.testBit b = true ∧ b ≤ a ∧ b < k) = 0
    · rw [if_pos ((lc_z (set64 (and_lt (shf_lt l t)) hN)).mpr c), without_i hl0, ii_dec (by omega), ll_or]
      have c' := (shf_and hm hn hlN htN).mp c
      refine Or.inl ⟨_, rfl, t + 1, fun i => ?_, ?_, ?_⟩
      · rw [k4, Bool.and_eq_true, hlk, Bool.not_eq_true', decide_eq_false_iff_not]
        constructor
        · rintro ⟨⟨h1, h2⟩, h3⟩
          refine ⟨h1, ?_⟩
          apply Nat.lt_of_not_le
          intro z
          have := hlow i h1 (by omega)
          omega
        · rintro ⟨h1, h2⟩
          exact ⟨⟨h1, by omega⟩, by omega⟩
      · rw [k5, Nat.add_sub_cancel]
        congr 2
        refine st_eq (Nat.or_lt_two_pow (st_lt _ _) (shf_lt _ _)) fun i hi => ?_
        rw [Nat.testBit_or, Bool.or_eq_true, prS_bit, shf_bit]
        constructor
        · rintro (⟨-, a, b, ⟨g1, g2, g3, g4⟩, g5⟩ | ⟨-, g⟩)
          · exact ⟨a, b, ⟨g1, g2, g3, by omega⟩, g5⟩
          · have g' := (hlk _).mp g
            refine ⟨_, t, ⟨g'.1, hst, ?_, by omega⟩, ad_sb hm hn hi⟩
            apply Nat.le_of_not_lt
            intro z
            have := hlow _ g'.1 z
            omega
        · rintro ⟨a, b, ⟨g1, g2, g3, g4⟩, g5⟩
          by_cases e : b = t
          · subst e
            refine Or.inr ⟨hi, ?_⟩
            rw [← (ad_iff' hm hn (tb_lt hs g1) hi).mp g5]
            exact (hlk a).mpr ⟨g1, by omega⟩
          · exact Or.inl ⟨hi, a, b, ⟨g1, g2, g3, hlow b g2 (by omega)⟩, g5⟩
      · have no : ∀ a c d, s.testBit a = true → t ≤ a → s.testBit c = true → s.testBit d = true → d ≤ c → d < k → ad m n a t = ad m n c d → False := by
          intro a c d g1 g2 g3 g4 g5 g6 g7
          have := c' a ((hlk a).mpr ⟨g1, by omega⟩)
          rw [show (prS m n fun a b => s.testBit a = true ∧ s.testBit b = true ∧ b ≤ a ∧ b < k).testBit (ad m n a t) = true from (st_bit _ _ _).mpr ⟨ad_lt hm hn a t, c, d, ⟨g3, g4, g5, g6⟩, g7.symm⟩] at this
          cases this
        rintro a b a' b' ⟨g1, g2, g3, g4⟩ ⟨h1, h2, h3, h4⟩ h5
        by_cases e : b = t
        · subst e
          by_cases e2 : b' = b
          · subst e2
            exact ⟨ad_cancel' hm hn (tb_lt hs g1) (tb_lt hs h1) h5, rfl⟩
          · exact (no a a' b' g1 g3 h1 h2 h3 (hlow b' h2 (by omega)) h5).elim
        · have hb := hlow b g2 (by omega)
          by_cases e2 : b' = t
          · subst e2
            exact (no a' a b h1 h3 g1 g2 g3 hb h5.symm).elim
          · exact hI a b a' b' ⟨g1, g2, g3, hb⟩ ⟨h1, h2, h3, hlow b' h2 (by omega)⟩ h5
    · rw [if_neg (fun z => c ((lc_z (set64 (and_lt (shf_lt l t)) hN)).mp z))]
      refine Or.inr ⟨_, rfl, Or.inr ⟨rfl, fun hF => c ((shf_and hm hn hlN htN).mpr fun y hy => ?_)⟩⟩
      cases e : (prS m n fun a b => s.testBit a = true ∧ s.testBit b = true ∧ b ≤ a ∧ b < k).testBit (ad m n y t) with
      | false => rfl
      | true =>
        obtain ⟨-, a, b, ⟨g1, g2, g3, g4⟩, g5⟩ := (st_bit _ _ _).mp e
        obtain ⟨hy1, hy2⟩ := (hlk y).mp hy
        have hty : t ≤ y := by
          apply Nat.le_of_not_lt
          intro z
          have := hlow y hy1 z
          omega
        have := (hF a b y t g1 g2 hy1 hst g3 hty g5).2
        omega
  · rintro a ⟨k, hlk, rfl, hI⟩
    unfold g_X4_isSidon_1
    dsimp only
    rw [sz_zero, if_pos ((ii_le0 (by decide)).mpr rfl)]
    refine ⟨_, rfl, Or.inl ⟨_, rfl, (sid_pr hs).mp ((prI_congr fun a b => ?_).mp hI)⟩⟩
    constructor
    · rintro ⟨g1, g2, g3, -⟩
      exact ⟨g1, g2, g3⟩
    · rintro ⟨g1, g2, g3⟩
      refine ⟨g1, g2, g3, ?_⟩
      apply Nat.lt_of_not_le
      intro z
      have := (hlk b).mpr ⟨g2, z⟩
      rw [Nat.zero_testBit] at this
      cases this
end Rul
