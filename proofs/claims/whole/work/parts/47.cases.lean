/-! THE CALLS that change the house: groups, sets, rows -/
def Fr (S : Nat → Nat → Prop) (M M' : Mem) : Prop := ∀ k j, ¬ S k j → M'.1 k j = M.1 k j ∧ M'.2 k j = M.2 k j
theorem Fr.rf (S : Nat → Nat → Prop) (M : Mem) : Fr S M M := fun _ _ _ => ⟨rfl, rfl⟩
theorem Fr.i {S : Nat → Nat → Prop} {A B : Mem} (h : Fr S A B) (k j : Nat) (x : Int32) (hw : S k j) : Fr S A (sI B k j x) := fun a b hab => by
  rw [sI_ne]
  · exact h a b hab
  · rintro ⟨rfl, rfl⟩; exact hab hw
theorem Fr.l {S : Nat → Nat → Prop} {A B : Mem} (h : Fr S A B) (k j : Nat) (x : Int64) (hw : S k j) : Fr S A (sL B k j x) := fun a b hab => by
  rw [sL_ne]
  · exact h a b hab
  · rintro ⟨rfl, rfl⟩; exact hab hw
theorem GI.f {M M' : Mem} {m n : Nat} (h : GI M m n) (f : ∀ k j, k = 2 ∨ k = 3 → M'.1 k j = M.1 k j ∧ M'.2 k j = M.2 k j) : GI M' m n := by
  obtain ⟨h1, h2, h3, h4, h5, h6, h7, h8, h9, h10⟩ := h
  refine ⟨h1, h2, h3, ?_, ?_, ?_, ?_, ?_, ?_, fun e he => ?_⟩
  · rw [(f 2 0 (Or.inl rfl)).1]; exact h4
  · rw [(f 2 1 (Or.inl rfl)).1]; exact h5
  · rw [(f 2 2 (Or.inl rfl)).1]; exact h6
  · rw [(f 2 3 (Or.inl rfl)).2]; exact h7
  · rw [(f 2 4 (Or.inl rfl)).2]; exact h8
  · rw [(f 2 5 (Or.inl rfl)).2]; exact h9
  · rw [(f 3 e (Or.inr rfl)).1]; exact h10 e he
theorem MI.f {M M' : Mem} {m n : Nat} (h : MI M m n) (f : ∀ j, j = 0 ∨ j = 1 → M'.1 19 j = M.1 19 j) : MI M' m n := by
  obtain ⟨h1, h2, h3, h4, h5⟩ := h
  refine ⟨h1, h2, h3, ?_, ?_⟩
  · rw [f 0 (Or.inl rfl)]; exact h4
  · rw [f 1 (Or.inr rfl)]; exact h5
theorem SI.f {M M' : Mem} {N c : Nat} {a : Nat → Nat} (h : SI M N c a) (f1 : M'.1 0 2 = M.1 0 2) (f2 : M'.1 19 2 = M.1 19 2) (f : ∀ k j, k = 1 ∨ k = 20 → M'.2 k j = M.2 k j) : SI M' N c a := by
  obtain ⟨h1, h2, h3, h4⟩ := h
  refine ⟨h1, by rw [f1]; exact h2, by rw [f2]; exact h3, fun i hi => ?_⟩
  rw [f 1 i (Or.inl rfl), f 20 i (Or.inr rfl)]; exact h4 i hi
theorem RI.f {M M' : Mem} {N r : Nat} {q : Nat → Nat} (h : RI M N r q) (f1 : M'.1 14 2 = M.1 14 2) (f2 : M'.1 19 4 = M.1 19 4) (f3 : M'.1 16 0 = M.1 16 0) (f : ∀ k j, k = 15 ∨ k = 21 → M'.1 k j = M.1 k j) : RI M' N r q := by
  obtain ⟨h1, h2, h3, h4, h5⟩ := h
  refine ⟨h1, by rw [f1]; exact h2, by rw [f2]; exact h3, by rw [f3]; exact h4, fun i hi => ?_⟩
  rw [f 15 i (Or.inl rfl), f 21 i (Or.inr rfl)]; exact h5 i hi
theorem TI.f {M M' : Mem} {m n p v : Nat} (h : TI M m n p v) (f : ∀ k j, k = 17 ∨ k = 18 → M'.1 k j = M.1 k j) (f1 : M'.1 19 6 = M.1 19 6) (f2 : M'.1 19 7 = M.1 19 7) : TI M' m n p v := by
  obtain ⟨h1, h2, h3, h4⟩ := h
  refine ⟨by rw [f 17 0 (Or.inl rfl)]; exact h1, by rw [f1]; exact h2, h3, fun hp => ?_⟩
  obtain ⟨g1, g2, g3, g4, g5⟩ := h4 hp
  refine ⟨g1, by rw [f 17 1 (Or.inl rfl)]; exact g2, by rw [f2]; exact g3, g4, fun e he => ?_⟩
  rw [f 18 e (Or.inr rfl)]; exact g5 e he
theorem sI_sI (M : Mem) (k j : Nat) (x y : Int32) : sI (sI M k j x) k j y = sI M k j y := by
  unfold sI
  refine Prod.ext ?_ rfl
  funext a b
  show (if a = k then (if b = j then y else (if a = k then (if b = j then x else M.1 a b) else M.1 a b)) else (if a = k then (if b = j then x else M.1 a b) else M.1 a b)) = _
  by_cases h1 : a = k
  · by_cases h2 : b = j <;> simp [h1, h2]
  · simp [h1]
section Cas
variable {M : Mem} {m n c : Nat} {a : Nat → Nat} {r : Nat} {q : Nat → Nat} {p w : Nat}
/-- what is written when a set is kept -/
def kS (c k j : Nat) : Prop := wk k j ∨ (k = 1 ∧ j = c) ∨ (k = 20 ∧ j = c) ∨ (k = 0 ∧ j = 2) ∨ (k = 19 ∧ j = 2)
theorem kept_inv (h : InvP M m n c a r q p w) (hc : c < 30) {x : Nat} (hx : x < 2 ^ (m * n)) (h0 : x ≠ 0) {M2 : Mem} (f : Fr (kS c) M M2) (e1 : M2.2 1 c = ll x) (e2 : M2.2 20 c = ll x) (e3 : M2.1 0 2 = ii (c + 1)) (e4 : M2.1 19 2 = ii (c + 1)) : InvP M2 m n (c + 1) (fun i => if i = c then x else a i) r q p w := by
  obtain ⟨hg, hm, hs', hr, ht⟩ := h
  refine ⟨hg.f fun k j hk => f k j (by unfold kS wk; omega), hm.f fun j hj => (f 19 j (by unfold kS wk; omega)).1, ⟨by omega, e3, e4, fun i hi => ?_⟩, hr.f (f 14 2 (by unfold kS wk; omega)).1 (f 19 4 (by unfold kS wk; omega)).1 (f 16 0 (by unfold kS wk; omega)).1 fun k j hk => (f k j (by unfold kS wk; omega)).1, ht.f (fun k j hk => (f k j (by unfold kS wk; omega)).1) (f 19 6 (by unfold kS wk; omega)).1 (f 19 7 (by unfold kS wk; omega)).1⟩
  by_cases z : i = c
  · subst z
    simp only [if_true]
    exact ⟨e1, e2, hx, h0⟩
  · simp only [z, if_false]
    rw [(f 1 i (by unfold kS wk; omega)).2, (f 20 i (by unfold kS wk; omega)).2]
    exact hs'.2.2.2 i (by omega)
theorem keepSet_ok (h : InvP M m n c a r q p w) (hc : c < 30) {x : Nat} (hx : x < 2 ^ (m * n)) (h0 : x ≠ 0) : d_X7_keepSet (ll x) M = some (.inl (some (.int (ii c))), sI (sL M 1 c (ll x)) 0 2 (ii (c + 1))) := by
  have hN := h.1.2.2.1
  unfold d_X7_keepSet d_X7_isFrom
  rw [if_neg (fun z => h0 ((lc_z (set64 hx hN)).mp z)), h.2.2.1.2.1, show ((30 : Int32) - 1) = ii 29 by decide, show (0 : Int32) = ii 0 from rfl, if_pos ((ii_le (by decide) (by omega)).mpr (Nat.zero_le c)), if_pos ((ii_le (by omega) (by decide)).mpr (by omega)), if_neg (by decide), ii_inc, show (1 : Int32) = ii 1 from rfl, ii_sub (by omega), Nat.add_sub_cancel, ii_ix (by omega)]
theorem keepSet_zero : d_X7_keepSet (ll 0) M = some (.inr "java/lang/IllegalStateException", M) := by
  unfold d_X7_keepSet
  rw [if_pos ((lc_z (by decide)).mpr rfl)]
theorem keepSet_full (h : InvP M m n c a r q p w) (hc : c = 30) (x : Int64) : d_X7_keepSet x M = some (.inr "java/lang/IllegalStateException", M) := by
  subst hc
  unfold d_X7_keepSet
  split
  · rfl
  · rw [h.2.2.1.2.1, if_pos (by decide)]
theorem enters_ok (hc : c < 30) {A : Mem} (e : A.1 19 2 = ii c) (x : Int64) : d_X8_enters x A = some (.inl (some (.int (ii c))), sI (sL A 20 c x) 19 2 (ii (c + 1))) := by
  unfold d_X8_enters
  rw [e, if_pos (ii_inb (by omega) (by decide)), ii_inc, show (1 : Int32) = ii 1 from rfl, ii_sub (by omega), Nat.add_sub_cancel, ii_ix (by omega)]
theorem full_eq (h : InvP M m n c a r q p w) : ((M.1 19 2) = (30 : Int32)) ↔ c = 30 := by
  have := h.2.2.1.1
  rw [h.2.2.1.2.2.1, show (30 : Int32) = ii 30 from rfl, ii_eq (by omega) (by decide)]
/-- the class and the reference keep a set -/
theorem CsI.kept {F G : Mem → Option (Res × Mem)} (h : InvP M m n c a r q p w) (hc : c < 30) {x : Nat} (hx : x < 2 ^ (m * n)) (h0 : x ≠ 0)
    (hF : F M = some (.inl (some (.int 0)), sL (sI (sL M 1 c (ll x)) 0 2 (ii (c + 1))) 29 0 (ii c).toInt64)) (hG : InvP (sL (sI (sL M 1 c (ll x)) 0 2 (ii (c + 1))) 29 0 (ii c).toInt64) m n c a r q p w ∨ True → ∃ B, G (sL (sI (sL M 1 c (ll x)) 0 2 (ii (c + 1))) 29 0 (ii c).toInt64) = some (.inl (some (.int (ii c))), sI (sL B 20 c (ll x)) 19 2 (ii (c + 1))) ∧ B = sI (sL (sI (sL M 1 c (ll x)) 0 2 (ii (c + 1))) 29 0 (ii c).toInt64) 19 15 0) : CsI F G M := by
  obtain ⟨B, hB, rfl⟩ := hG (Or.inr trivial)
  refine ⟨0, ii c, _, _, hF, hB, rfl, fun _ => rfl, m, n, c + 1, _, r, q, p, w, kept_inv h hc hx h0 ?_ ?_ ?_ ?_ ?_⟩
  · exact (((((Fr.rf (kS c) M).l 1 c _ (by unfold kS; omega)).i 0 2 _ (by unfold kS; omega)).l 29 0 _ (by unfold kS wk; omega)).i 19 15 _ (by unfold kS wk; omega)).l 20 c _ (by unfold kS; omega) |>.i 19 2 _ (by unfold kS; omega)
  · exact sL_at M 1 c (ll x)
  · exact sL_at _ 20 c (ll x)
  · rfl
  · rfl
/-- what the class's new set leaves to the reference -/
theorem newSet (h : InvP M m n c a r q p w) (x y : Int64) (k : Int32) : let A := sL (sI (sL M 1 c x) 0 2 k) 29 0 y; MI A m n ∧ A.1 19 2 = ii c ∧ ∀ i, i < c → A.2 20 i = ll (a i) := by
  refine ⟨h.2.1.f fun j _ => rfl, h.2.2.1.2.2.1, fun i hi => (h.2.2.1.2.2.2 i hi).2.1⟩
theorem inAll {x : Nat} (hx : x < 18446744073709551616) (hN : m * n ≤ 36) : x &&& ((2 ^ (m * n) - 1) ^^^ (2 ^ 64 - 1)) = 0 ↔ x < 2 ^ (m * n) := by
  constructor
  · intro z
    apply Nat.lt_of_not_le
    intro ge
    obtain ⟨i, hi, hb⟩ := Nat.exists_ge_and_testBit_of_ge_two_pow ge
    have h64 : i < 64 := tb_lt (N := 64) hx hb
    have := congrArg (fun t => t.testBit i) z
    simp only [Nat.testBit_and, hb, not_bit _ _ h64, Nat.zero_testBit, Bool.true_and, Bool.not_eq_false'] at this
    rw [full_bit] at this
    omega
  · intro z
    rw [and_0 (N := 64) hx]
    intro i hi h1 h2
    rw [not_bit _ _ hi, Bool.not_eq_true', ← Bool.not_eq_true, full_bit] at h2
    exact h2 (tb_lt z h1)
theorem cs_set (h : Inv M) (v1 : Int64) : CsI (d_L_set v1) (d_X8_set v1) M := by
  obtain ⟨m, n, c, a, r, q, p, w, h⟩ := h
  have hc := h.2.2.1.1
  have hN := h.1.2.2.1
  have hall := h.1.2.2.2.2.2.2.1
  obtain ⟨x, hx, rfl⟩ := ll_of v1
  by_cases h0 : x = 0
  · subst h0
    have e := (lc_z (a := 0) (by decide)).mpr rfl
    exact CsI.thr h 1 0 (by decide) (by simp only [d_L_set, d_X7_set, e, onV_ok, onV_thr, onI_ok, onI_thr, onL_ok, onL_thr, Option.bind_some, c10, c00, cl0, cl1, cl2, cl3, e1a, e1b, e1c, e2a, e2b, e2c, e3a, e3b, e3c, inb0, ix0, if_true, if_false, reduceIte]) (by simp only [d_X8_set, e, onV_ok, onV_thr, onI_ok, onI_thr, onL_ok, onL_thr, Option.bind_some, c10, c00, cl0, cl1, cl2, cl3, e1a, e1b, e1c, e2a, e2b, e2c, e3a, e3b, e3c, inb0, ix0, if_true, if_false, reduceIte])
  have e0 : ¬ lg_cmp (ll x) 0 = 0 := fun z => h0 ((lc_z hx).mp z)
  have hx2 : x &&& ((2 ^ (m * n) - 1) ^^^ (2 ^ 64 - 1)) < 18446744073709551616 := Nat.lt_of_le_of_lt Nat.and_le_left hx
  have ec : d_X1_hasAll (ll x) M = if lg_cmp (ll (x &&& ((2 ^ (m * n) - 1) ^^^ (2 ^ 64 - 1)))) 0 = 0 then 1 else 0 := by
    unfold d_X1_hasAll
    rw [hall, ll_not, ll_and]
  have em : ∀ {A : Mem}, MI A m n → ll x &&& (d_X8_whole A ^^^ (-1 : Int64)) = ll (x &&& ((2 ^ (m * n) - 1) ^^^ (2 ^ 64 - 1))) := fun g => by rw [mwhole_i g, ll_not, ll_and]
  by_cases hin : x < 2 ^ (m * n)
  · have e1 : lg_cmp (ll (x &&& ((2 ^ (m * n) - 1) ^^^ (2 ^ 64 - 1)))) 0 = 0 := (lc_z hx2).mpr ((inAll hx hN).mpr hin)
    by_cases hf : c = 30
    · have f30 := (full_eq h).mpr hf
      exact CsI.thr h 2 0 (by decide) (by simp only [d_L_set, d_X7_set, if_neg e0, ec, e1, keepSet_full h hf, onV_ok, onV_thr, onI_ok, onI_thr, onL_ok, onL_thr, Option.bind_some, c10, c00, cl0, cl1, cl2, cl3, e1a, e1b, e1c, e2a, e2b, e2c, e3a, e3b, e3c, inb0, ix0, if_true, if_false, reduceIte]) (by simp only [d_X8_set, if_neg e0, em h.2.1, e1, f30, onV_ok, onV_thr, onI_ok, onI_thr, onL_ok, onL_thr, Option.bind_some, c10, c00, cl0, cl1, cl2, cl3, e1a, e1b, e1c, e2a, e2b, e2c, e3a, e3b, e3c, inb0, ix0, if_true, if_false, reduceIte])
    · have hc30 : c < 30 := by omega
      refine CsI.kept h hc30 hin h0 (by simp only [d_L_set, d_X7_set, if_neg e0, ec, e1, keepSet_ok h hc30 hin h0, onV_ok, onV_thr, onI_ok, onI_thr, onL_ok, onL_thr, Option.bind_some, c10, c00, cl0, cl1, cl2, cl3, e1a, e1b, e1c, e2a, e2b, e2c, e3a, e3b, e3c, inb0, ix0, if_true, if_false, reduceIte]) (fun _ => ⟨_, ?_, rfl⟩)
      obtain ⟨n1, n2, n3⟩ := newSet h (ll x) (ii c).toInt64 (ii (c + 1))
      have f30 : ¬ (sL (sI (sL M 1 c (ll x)) 0 2 (ii (c + 1))) 29 0 (ii c).toInt64).1 19 2 = (30 : Int32) := by
        rw [n2, show (30 : Int32) = ii 30 from rfl, ii_eq (by omega) (by decide)]
        exact hf
      simp only [d_X8_set, if_neg e0, em n1, e1, if_neg f30, enters_ok hc30 (A := sI (sL (sI (sL M 1 c (ll x)) 0 2 (ii (c + 1))) 29 0 (ii c).toInt64) 19 15 0) n2, onV_ok, onV_thr, onI_ok, onI_thr, onL_ok, onL_thr, Option.bind_some, c10, c00, cl0, cl1, cl2, cl3, e1a, e1b, e1c, e2a, e2b, e2c, e3a, e3b, e3c, inb0, ix0, if_true, if_false, reduceIte]
  · have e1 : ¬ lg_cmp (ll (x &&& ((2 ^ (m * n) - 1) ^^^ (2 ^ 64 - 1)))) 0 = 0 := fun z => hin ((inAll hx hN).mp ((lc_z hx2).mp z))
    exact CsI.thr h 1 0 (by decide) (by simp only [d_L_set, d_X7_set, if_neg e0, ec, if_neg e1, onV_ok, onV_thr, onI_ok, onI_thr, onL_ok, onL_thr, Option.bind_some, c10, c00, cl0, cl1, cl2, cl3, e1a, e1b, e1c, e2a, e2b, e2c, e3a, e3b, e3c, inb0, ix0, if_true, if_false, reduceIte]) (by simp only [d_X8_set, if_neg e0, em h.2.1, if_neg e1, onV_ok, onV_thr, onI_ok, onI_thr, onL_ok, onL_thr, Option.bind_some, c10, c00, cl0, cl1, cl2, cl3, e1a, e1b, e1c, e2a, e2b, e2c, e3a, e3b, e3c, inb0, ix0, if_true, if_false, reduceIte])
/-! two sets made one -/
noncomputable def comb (m n l x y : Nat) : Nat := match l with
  | 0 => smo m n x y
  | 1 => smo m n x (mir m n y)
  | 2 => st (m * n) (fun i => ∃ z, z < m * n ∧ y.testBit z = true ∧ x.testBit (sb m n i z) = true ∧ sb m n i z ≠ z)
  | 3 => x &&& y
  | 4 => x ||| y
  | _ => x &&& (y ^^^ (2 ^ 64 - 1))
theorem comb_lt {l x y : Nat} (hx : x < 2 ^ (m * n)) (hy : y < 2 ^ (m * n)) : comb m n l x y < 2 ^ (m * n) := by
  unfold comb
  split
  · exact smo_lt _ _
  · exact smo_lt _ _
  · exact st_lt _ _
  · exact and_lt hx
  · exact Nat.or_lt_two_pow hx hy
  · exact and_lt hx
theorem n1 : ¬ ii 1 = (0 : Int32) := by decide
theorem n2 : ¬ ii 2 = (0 : Int32) ∧ ¬ ii 2 = (1 : Int32) := by decide
theorem n3 : ¬ ii 3 = (0 : Int32) ∧ ¬ ii 3 = (1 : Int32) ∧ ¬ ii 3 = (2 : Int32) := by decide
theorem n4 : ¬ ii 4 = (0 : Int32) ∧ ¬ ii 4 = (1 : Int32) ∧ ¬ ii 4 = (2 : Int32) ∧ ¬ ii 4 = (3 : Int32) := by decide
theorem n5 : ¬ ii 5 = (0 : Int32) ∧ ¬ ii 5 = (1 : Int32) ∧ ¬ ii 5 = (2 : Int32) ∧ ¬ ii 5 = (3 : Int32) ∧ ¬ ii 5 = (4 : Int32) := by decide
theorem pz0 : ii 0 = (0 : Int32) := rfl
theorem pz1 : ii 1 = (1 : Int32) := rfl
theorem pz2 : ii 2 = (2 : Int32) := rfl
theorem pz3 : ii 3 = (3 : Int32) := rfl
theorem pz4 : ii 4 = (4 : Int32) := rfl
theorem ccomb (h : GI M m n) {l x y : Nat} (hl : l ≤ 5) (hx : x < 2 ^ (m * n)) (hy : y < 2 ^ (m * n)) : d_X7_combined (ii l) (ll x) (ll y) M = some (ll (comb m n l x y)) := by
  unfold d_X7_combined
  match l, hl with
  | 0, _ => rw [if_pos pz0, sumOf_i h hx hy]; rfl
  | 1, _ => rw [if_neg n1, if_pos pz1, differenceOf_i h hx hy]; rfl
  | 2, _ => rw [if_neg n2.1, if_neg n2.2, if_pos pz2, unlikeSumOf_i h hx hy]; rfl
  | 3, _ => rw [if_neg n3.1, if_neg n3.2.1, if_neg n3.2.2, if_pos pz3, ll_and]; rfl
  | 4, _ => rw [if_neg n4.1, if_neg n4.2.1, if_neg n4.2.2.1, if_neg n4.2.2.2, if_pos pz4, ll_or]; rfl
  | 5, _ => rw [if_neg n5.1, if_neg n5.2.1, if_neg n5.2.2.1, if_neg n5.2.2.2.1, if_neg n5.2.2.2.2, ll_not, ll_and]; rfl
/-- the reference's end of making a set of two -/
def mtail (x : Int64) (M : Mem) : Option (Res × Mem) := (if (if (lg_cmp x (0 : Int64)) = 0 then (3 : Int32) else (if (M.1 19 2) = (30 : Int32) then (3 : Int32) else (0 : Int32))) ≤ 0 then (onI (d_X8_enters x (sI (sI M 19 15 (0 : Int32)) 19 15 (if (lg_cmp x (0 : Int64)) = 0 then (3 : Int32) else (if (M.1 19 2) = (30 : Int32) then (3 : Int32) else (0 : Int32))))) (fun w3 M2 => some (.inl (some (.int w3)), M2)) (fun r => some r)) else some (.inl (some (.int (0 : Int32))), (sI (sI M 19 15 (0 : Int32)) 19 15 (if (lg_cmp x (0 : Int64)) = 0 then (3 : Int32) else (if (M.1 19 2) = (30 : Int32) then (3 : Int32) else (0 : Int32))))))
theorem mcomb {A : Mem} (hA : MI A m n) {i j l x y : Nat} (hl : l ≤ 5) (hr : d_X8_isIn (ii l) (0 : Int32) (5 : Int32) = 1) (hx : x < 2 ^ (m * n)) (hy : y < 2 ^ (m * n)) (s1 : d_X8_isSet (ii i) A = 1) (s2 : d_X8_isSet (ii j) A = 1) (b1 : inb (ii i) 30 = true) (b2 : inb (ii j) 30 = true) (e1 : A.2 20 (ix (ii i)) = ll x) (e2 : A.2 20 (ix (ii j)) = ll y) : d_X8_combine (ii l) (ii i) (ii j) A = mtail (ll (comb m n l x y)) A := by
  have hA0 := hA.thr 0
  unfold d_X8_combine mtail
  simp only [s1, s2, hr, b1, b2, e1, e2, onV_ok, onV_thr, onI_ok, onI_thr, onL_ok, onL_thr, Option.bind_some, c10, c00, cl0, cl1, cl2, cl3, e1a, e1b, e1c, e2a, e2b, e2c, e3a, e3b, e3c, inb0, ix0, if_true, if_false, reduceIte]
  match l, hl with
  | 0, _ => rw [if_pos pz0, msumOf_i hA0 hx hy]; rfl
  | 1, _ => rw [if_neg n1, if_pos pz1, mdiff_i hA0 hx hy]; rfl
  | 2, _ => rw [if_neg n2.1, if_neg n2.2, if_pos pz2, munlike_i hA0 hx hy]; rfl
  | 3, _ =>
    simp only [if_neg n3.1, if_neg n3.2.1, if_neg n3.2.2, if_pos pz3, ll_and]
    rfl
  | 4, _ =>
    simp only [if_neg n4.1, if_neg n4.2.1, if_neg n4.2.2.1, if_neg n4.2.2.2, if_pos pz4, ll_or]
    rfl
  | 5, _ =>
    simp only [if_neg n5.1, if_neg n5.2.1, if_neg n5.2.2.1, if_neg n5.2.2.2.1, if_neg n5.2.2.2.2, ll_not, ll_and]
    rfl
theorem cs_combine (h : Inv M) (v1 v2 v3 : Int32) : CsI (d_L_combine v1 v2 v3) (d_X8_combine v1 v2 v3) M := by
  obtain ⟨m, n, c, a, r, q, p, w, h⟩ := h
  have hc := h.2.2.1.1
  have hN := h.1.2.2.1
  rcases nIx v2 (show c < 2147483648 by omega) with b1 | ⟨i, hi, rfl⟩
  · exact CsI.thr h 1 0 (by decide) (by simp only [d_L_combine, d_X7_combine, needSet_bad h b1, onV_ok, onV_thr, onI_ok, onI_thr, onL_ok, onL_thr, Option.bind_some, c10, c00, cl0, cl1, cl2, cl3, e1a, e1b, e1c, e2a, e2b, e2c, e3a, e3b, e3c, inb0, ix0, if_true, if_false, reduceIte]) (by simp only [d_X8_combine, isSet_bad h b1, onV_ok, onV_thr, onI_ok, onI_thr, onL_ok, onL_thr, Option.bind_some, c10, c00, cl0, cl1, cl2, cl3, e1a, e1b, e1c, e2a, e2b, e2c, e3a, e3b, e3c, inb0, ix0, if_true, if_false, reduceIte])
  rcases nIx v3 (show c < 2147483648 by omega) with b2 | ⟨j, hj, rfl⟩
  · exact CsI.thr h 1 0 (by decide) (by simp only [d_L_combine, d_X7_combine, needSet_ok h hi, needSet_bad h b2, onV_ok, onV_thr, onI_ok, onI_thr, onL_ok, onL_thr, Option.bind_some, c10, c00, cl0, cl1, cl2, cl3, e1a, e1b, e1c, e2a, e2b, e2c, e3a, e3b, e3c, inb0, ix0, if_true, if_false, reduceIte]) (by simp only [d_X8_combine, isSet_ok h hi, isSet_bad h b2, onV_ok, onV_thr, onI_ok, onI_thr, onL_ok, onL_thr, Option.bind_some, c10, c00, cl0, cl1, cl2, cl3, e1a, e1b, e1c, e2a, e2b, e2c, e3a, e3b, e3c, inb0, ix0, if_true, if_false, reduceIte])
  rcases inR (0 : Int32) v1 (5 : Int32) with ⟨r1, r2⟩ | ⟨r1, r2, r3, r4⟩
  · exact CsI.thr h 2 0 (by decide) (by simp only [d_L_combine, d_X7_combine, needSet_ok h hi, needSet_ok h hj, r1, onV_ok, onV_thr, onI_ok, onI_thr, onL_ok, onL_thr, Option.bind_some, c10, c00, cl0, cl1, cl2, cl3, e1a, e1b, e1c, e2a, e2b, e2c, e3a, e3b, e3c, inb0, ix0, if_true, if_false, reduceIte]) (by simp only [d_X8_combine, isSet_ok h hi, isSet_ok h hj, r2, onV_ok, onV_thr, onI_ok, onI_thr, onL_ok, onL_thr, Option.bind_some, c10, c00, cl0, cl1, cl2, cl3, e1a, e1b, e1c, e2a, e2b, e2c, e3a, e3b, e3c, inb0, ix0, if_true, if_false, reduceIte])
  obtain ⟨l, rfl, -, hl⟩ := rngN (lo := 0) (hi := 5) (by decide) (by decide) r3 r4
  have hi' := set_lt h hi
  have hj' := set_lt h hj
  have hlt := comb_lt (l := l) hi' hj'
  have eC : d_L_combine (ii l) (ii i) (ii j) M = onI (d_X7_keepSet (ll (comb m n l (a i) (a j))) M) (fun w2 M1 => (if inb (0 : Int32) 1 = true then some (.inl (some (.int (0 : Int32))), (sL M1 29 (ix (0 : Int32)) w2.toInt64)) else none)) (fun r => match r.1 with | .inr E => if E = "java/lang/IndexOutOfBoundsException" then some (.inl (some (.int (1 : Int32))), r.2) else if E = "java/lang/IllegalArgumentException" then some (.inl (some (.int (2 : Int32))), r.2) else if E = "java/lang/IllegalStateException" then some (.inl (some (.int (3 : Int32))), r.2) else none | _ => none) := by
    simp only [d_L_combine, d_X7_combine, needSet_ok h hi, needSet_ok h hj, r1, bitsOf_ok h hi, bitsOf_ok h hj, ccomb h.1 hl hi' hj', onV_ok, onV_thr, onI_ok, onI_thr, onL_ok, onL_thr, Option.bind_some, c10, c00, cl0, cl1, cl2, cl3, e1a, e1b, e1c, e2a, e2b, e2c, e3a, e3b, e3c, inb0, ix0, if_true, if_false, reduceIte]
    cases hk : d_X7_keepSet (ll (comb m n l (a i) (a j))) M with
    | none => rfl
    | some o =>
      obtain ⟨o1, o2⟩ := o
      rcases o1 with (_ | v) | E
      · rfl
      · cases v <;> rfl
      · rfl
  by_cases h0 : comb m n l (a i) (a j) = 0
  · refine CsI.thr h 3 0 (by decide) (by rw [eC, h0, keepSet_zero]; simp only [onV_ok, onV_thr, onI_ok, onI_thr, onL_ok, onL_thr, Option.bind_some, c10, c00, cl0, cl1, cl2, cl3, e1a, e1b, e1c, e2a, e2b, e2c, e3a, e3b, e3c, inb0, ix0, if_true, if_false, reduceIte]) ?_
    rw [mcomb h.2.1 hl r2 hi' hj' (isSet_ok h hi) (isSet_ok h hj) (inb_ok h hi) (inb_ok h hj) (mem_ok h hi) (mem_ok h hj), h0]
    simp only [mtail, (lc_z (a := 0) (by decide)).mpr rfl, sI_sI, onV_ok, onV_thr, onI_ok, onI_thr, onL_ok, onL_thr, Option.bind_some, c10, c00, cl0, cl1, cl2, cl3, e1a, e1b, e1c, e2a, e2b, e2c, e3a, e3b, e3c, inb0, ix0, if_true, if_false, reduceIte]
  have e0 : ¬ lg_cmp (ll (comb m n l (a i) (a j))) 0 = 0 := fun z => h0 ((lc_z (set64 hlt hN)).mp z)
  by_cases hf : c = 30
  · refine CsI.thr h 3 0 (by decide) (by rw [eC, keepSet_full h hf]; simp only [onV_ok, onV_thr, onI_ok, onI_thr, onL_ok, onL_thr, Option.bind_some, c10, c00, cl0, cl1, cl2, cl3, e1a, e1b, e1c, e2a, e2b, e2c, e3a, e3b, e3c, inb0, ix0, if_true, if_false, reduceIte]) ?_
    rw [mcomb h.2.1 hl r2 hi' hj' (isSet_ok h hi) (isSet_ok h hj) (inb_ok h hi) (inb_ok h hj) (mem_ok h hi) (mem_ok h hj)]
    simp only [mtail, if_neg e0, (full_eq h).mpr hf, sI_sI, onV_ok, onV_thr, onI_ok, onI_thr, onL_ok, onL_thr, Option.bind_some, c10, c00, cl0, cl1, cl2, cl3, e1a, e1b, e1c, e2a, e2b, e2c, e3a, e3b, e3c, inb0, ix0, if_true, if_false, reduceIte]
  · have hc30 : c < 30 := by omega
    refine CsI.kept h hc30 hlt h0 (by rw [eC, keepSet_ok h hc30 hlt h0]; simp only [onV_ok, onV_thr, onI_ok, onI_thr, onL_ok, onL_thr, Option.bind_some, c10, c00, cl0, cl1, cl2, cl3, e1a, e1b, e1c, e2a, e2b, e2c, e3a, e3b, e3c, inb0, ix0, if_true, if_false, reduceIte]) (fun _ => ⟨_, ?_, rfl⟩)
    obtain ⟨q1, q2, q3⟩ := newSet h (ll (comb m n l (a i) (a j))) (ii c).toInt64 (ii (c + 1))
    generalize hA : sL (sI (sL M 1 c (ll (comb m n l (a i) (a j)))) 0 2 (ii (c + 1))) 29 0 (ii c).toInt64 = A at q1 q2 q3 ⊢
    have s1 : ∀ {i : Nat}, i < c → d_X8_isSet (ii i) A = 1 := fun hi => by rw [isSet_i q2 (by omega), if_neg (ii_lt0 (by omega)), if_pos ((ii_lt (by omega) (by omega)).mpr hi)]
    have f30 : ¬ A.1 19 2 = (30 : Int32) := by
      rw [q2, show (30 : Int32) = ii 30 from rfl, ii_eq (by omega) (by decide)]
      exact hf
    rw [mcomb q1 hl r2 hi' hj' (s1 hi) (s1 hj) (inb_ok h hi) (inb_ok h hj) (by rw [ii_ix (by omega), q3 i hi]) (by rw [ii_ix (by omega), q3 j hj])]
    simp only [mtail, if_neg e0, if_neg f30, sI_sI, enters_ok hc30 (A := sI A 19 15 0) q2, onV_ok, onV_thr, onI_ok, onI_thr, onL_ok, onL_thr, Option.bind_some, c10, c00, cl0, cl1, cl2, cl3, e1a, e1b, e1c, e2a, e2b, e2c, e3a, e3b, e3c, inb0, ix0, if_true, if_false, reduceIte]
end Cas
