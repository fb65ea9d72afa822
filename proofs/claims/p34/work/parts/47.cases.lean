/-! THE CALLS that change the house: groups, sets, rows -/
def Fr (S : Nat → Nat → Prop) (M M' : Mem) : Prop := ∀ k j, ¬ S k j → M'.1 k j = M.1 k j ∧ M'.2 k j = M.2 k j
theorem Fr.rf (S : Nat → Nat → Prop) (M : Mem) : Fr S M M := fun _ _ _ => ⟨rfl, rfl⟩
theorem Fr.i {S : Nat → Nat → Prop} {A B : Mem} (h : Fr S A B) (k j : Nat) (x : Int32) (hw : S k j) : Fr S A (sI B k j x) := fun a b hab => by
  rw [sI_ne]
  · exact h a b hab
  · rintro ⟨rfl, rfl⟩; exact hab hw
theorem Fr.l {S : Nat → Nat → Prop} {A B : Mem} (h : Fr S A B) (k j : Nat) (x : Int64) (hw : S k j) : Fr S A (sL B k j x) := fun a b hab => by
  rw [sL_ne]
  · exact h a b hab
  · rintro ⟨rfl, rfl⟩; exact hab hw
theorem GI.f {M M' : Mem} {m n : Nat} (h : GI M m n) (f : ∀ k j, k = 2 ∨ k = 3 → M'.1 k j = M.1 k j ∧ M'.2 k j = M.2 k j) : GI M' m n := by
  obtain ⟨h1, h2, h3, h4, h5, h6, h7, h8, h9, h10⟩ := h
  refine ⟨h1, h2, h3, ?_, ?_, ?_, ?_, ?_, ?_, fun e he => ?_⟩
  · rw [(f 2 0 (Or.inl rfl)).1]; exact h4
  · rw [(f 2 1 (Or.inl rfl)).1]; exact h5
  · rw [(f 2 2 (Or.inl rfl)).1]; exact h6
  · rw [(f 2 3 (Or.inl rfl)).2]; exact h7
  · rw [(f 2 4 (Or.inl rfl)).2]; exact h8
  · rw [(f 2 5 (Or.inl rfl)).2]; exact h9
  · rw [(f 3 e (Or.inr rfl)).1]; exact h10 e he
theorem SI.f {M M' : Mem} {N c : Nat} {a : Nat → Nat} (h : SI M N c a) (f1 : M'.1 0 2 = M.1 0 2) (f : ∀ j, M'.2 1 j = M.2 1 j) : SI M' N c a := by
  obtain ⟨h1, h2, h3, h4⟩ := h
  refine ⟨h1, by rw [f1]; exact h2, trivial, fun i hi => ?_⟩
  rw [f i]; exact h4 i hi
theorem RI.f {M M' : Mem} {N r : Nat} {q : Nat → Nat} (h : RI M N r q) (f1 : M'.1 14 2 = M.1 14 2) (f3 : M'.1 16 0 = M.1 16 0) (f : ∀ j, M'.1 15 j = M.1 15 j) : RI M' N r q := by
  obtain ⟨h1, h2, h3, h4, h5⟩ := h
  refine ⟨h1, by rw [f1]; exact h2, trivial, by rw [f3]; exact h4, fun i hi => ?_⟩
  rw [f i]; exact h5 i hi
theorem TI.f {M M' : Mem} {m n p v : Nat} (h : TI M m n p v) (f : ∀ k j, k = 17 ∨ k = 18 → M'.1 k j = M.1 k j) : TI M' m n p v := by
  obtain ⟨h1, h2, h3, h4⟩ := h
  refine ⟨by rw [f 17 0 (Or.inl rfl)]; exact h1, trivial, h3, fun hp => ?_⟩
  obtain ⟨g1, g2, g3, g4, g5⟩ := h4 hp
  refine ⟨g1, by rw [f 17 1 (Or.inl rfl)]; exact g2, trivial, g4, fun e he => ?_⟩
  rw [f 18 e (Or.inr rfl)]; exact g5 e he
theorem sI_sI (M : Mem) (k j : Nat) (x y : Int32) : sI (sI M k j x) k j y = sI M k j y := by
  unfold sI
  refine Prod.ext ?_ rfl
  funext a b
  show (if a = k then (if b = j then y else (if a = k then (if b = j then x else M.1 a b) else M.1 a b)) else (if a = k then (if b = j then x else M.1 a b) else M.1 a b)) = _
  by_cases h1 : a = k
  · by_cases h2 : b = j <;> simp [h1, h2]
  · simp [h1]
section Cas
variable {M : Mem} {m n c : Nat} {a : Nat → Nat} {r : Nat} {q : Nat → Nat} {p w : Nat}
/-- what is written when a set is kept -/
def kS (c k j : Nat) : Prop := wk k j ∨ (k = 1 ∧ j = c) ∨ (k = 0 ∧ j = 2)
theorem kept_inv (h : InvP M m n c a r q p w) (hc : c < 30) {x : Nat} (hx : x < 2 ^ (m * n)) (h0 : x ≠ 0) {M2 : Mem} (f : Fr (kS c) M M2) (e1 : M2.2 1 c = ll x) (e3 : M2.1 0 2 = ii (c + 1)) : InvP M2 m n (c + 1) (fun i => if i = c then x else a i) r q p w := by
  obtain ⟨hg, hm, hs', hr, ht⟩ := h
  refine ⟨hg.f fun k j hk => f k j (by unfold kS wk; omega), trivial, ⟨by omega, e3, trivial, fun i hi => ?_⟩, hr.f (f 14 2 (by unfold kS wk; omega)).1 (f 16 0 (by unfold kS wk; omega)).1 fun j => (f 15 j (by unfold kS wk; omega)).1, ht.f (fun k j hk => (f k j (by unfold kS wk; omega)).1)⟩
  by_cases z : i = c
  · subst z
    simp only [if_true]
    exact ⟨e1, trivial, hx, h0⟩
  · simp only [z, if_false]
    rw [(f 1 i (by unfold kS wk; omega)).2]
    exact hs'.2.2.2 i (by omega)
theorem keepSet_ok (h : InvP M m n c a r q p w) (hc : c < 30) {x : Nat} (hx : x < 2 ^ (m * n)) (h0 : x ≠ 0) : d_X7_keepSet (ll x) M = some (.inl (some (.int (ii c))), sI (sL M 1 c (ll x)) 0 2 (ii (c + 1))) := by
  have hN := h.1.2.2.1
  unfold d_X7_keepSet d_X7_isFrom
  rw [if_neg (fun z => h0 ((lc_z (set64 hx hN)).mp z)), h.2.2.1.2.1, show ((30 : Int32) - 1) = ii 29 by decide, show (0 : Int32) = ii 0 from rfl, if_pos ((ii_le (by decide) (by omega)).mpr (Nat.zero_le c)), if_pos ((ii_le (by omega) (by decide)).mpr (by omega)), if_neg (by decide), ii_inc, show (1 : Int32) = ii 1 from rfl, ii_sub (by omega), Nat.add_sub_cancel, ii_ix (by omega)]
theorem keepSet_zero : d_X7_keepSet (ll 0) M = some (.inr "java/lang/IllegalStateException", M) := by
  unfold d_X7_keepSet
  rw [if_pos ((lc_z (by decide)).mpr rfl)]
theorem keepSet_full (h : InvP M m n c a r q p w) (hc : c = 30) (x : Int64) : d_X7_keepSet x M = some (.inr "java/lang/IllegalStateException", M) := by
  subst hc
  unfold d_X7_keepSet
  split
  · rfl
  · rw [h.2.2.1.2.1, if_pos (by decide)]
theorem inAll {x : Nat} (hx : x < 18446744073709551616) (hN : m * n ≤ 36) : x &&& ((2 ^ (m * n) - 1) ^^^ (2 ^ 64 - 1)) = 0 ↔ x < 2 ^ (m * n) := by
  constructor
  · intro z
    apply Nat.lt_of_not_le
    intro ge
    obtain ⟨i, hi, hb⟩ := Nat.exists_ge_and_testBit_of_ge_two_pow ge
    have h64 : i < 64 := tb_lt (N := 64) hx hb
    have := congrArg (fun t => t.testBit i) z
    simp only [Nat.testBit_and, hb, not_bit _ _ h64, Nat.zero_testBit, Bool.true_and, Bool.not_eq_false'] at this
    rw [full_bit] at this
    omega
  · intro z
    rw [and_0 (N := 64) hx]
    intro i hi h1 h2
    rw [not_bit _ _ hi, Bool.not_eq_true', ← Bool.not_eq_true, full_bit] at h2
    exact h2 (tb_lt z h1)
/-! two sets made one -/
noncomputable def comb (m n l x y : Nat) : Nat := match l with
  | 0 => smo m n x y
  | 1 => smo m n x (mir m n y)
  | 2 => st (m * n) (fun i => ∃ z, z < m * n ∧ y.testBit z = true ∧ x.testBit (sb m n i z) = true ∧ sb m n i z ≠ z)
  | 3 => x &&& y
  | 4 => x ||| y
  | _ => x &&& (y ^^^ (2 ^ 64 - 1))
theorem comb_lt {l x y : Nat} (hx : x < 2 ^ (m * n)) (hy : y < 2 ^ (m * n)) : comb m n l x y < 2 ^ (m * n) := by
  unfold comb
  split
  · exact smo_lt _ _
  · exact smo_lt _ _
  · exact st_lt _ _
  · exact and_lt hx
  · exact Nat.or_lt_two_pow hx hy
  · exact and_lt hx
theorem n1 : ¬ ii 1 = (0 : Int32) := by decide
theorem n2 : ¬ ii 2 = (0 : Int32) ∧ ¬ ii 2 = (1 : Int32) := by decide
theorem n3 : ¬ ii 3 = (0 : Int32) ∧ ¬ ii 3 = (1 : Int32) ∧ ¬ ii 3 = (2 : Int32) := by decide
theorem n4 : ¬ ii 4 = (0 : Int32) ∧ ¬ ii 4 = (1 : Int32) ∧ ¬ ii 4 = (2 : Int32) ∧ ¬ ii 4 = (3 : Int32) := by decide
theorem n5 : ¬ ii 5 = (0 : Int32) ∧ ¬ ii 5 = (1 : Int32) ∧ ¬ ii 5 = (2 : Int32) ∧ ¬ ii 5 = (3 : Int32) ∧ ¬ ii 5 = (4 : Int32) := by decide
theorem pz0 : ii 0 = (0 : Int32) := rfl
theorem pz1 : ii 1 = (1 : Int32) := rfl
theorem pz2 : ii 2 = (2 : Int32) := rfl
theorem pz3 : ii 3 = (3 : Int32) := rfl
theorem pz4 : ii 4 = (4 : Int32) := rfl
theorem ccomb (h : GI M m n) {l x y : Nat} (hl : l ≤ 5) (hx : x < 2 ^ (m * n)) (hy : y < 2 ^ (m * n)) : d_X7_combined (ii l) (ll x) (ll y) M = some (ll (comb m n l x y)) := by
  unfold d_X7_combined
  match l, hl with
  | 0, _ => rw [if_pos pz0, sumOf_i h hx hy]; rfl
  | 1, _ => rw [if_neg n1, if_pos pz1, differenceOf_i h hx hy]; rfl
  | 2, _ => rw [if_neg n2.1, if_neg n2.2, if_pos pz2, unlikeSumOf_i h hx hy]; rfl
  | 3, _ => rw [if_neg n3.1, if_neg n3.2.1, if_neg n3.2.2, if_pos pz3, ll_and]; rfl
  | 4, _ => rw [if_neg n4.1, if_neg n4.2.1, if_neg n4.2.2.1, if_neg n4.2.2.2, if_pos pz4, ll_or]; rfl
  | 5, _ => rw [if_neg n5.1, if_neg n5.2.1, if_neg n5.2.2.1, if_neg n5.2.2.2.1, if_neg n5.2.2.2.2, ll_not, ll_and]; rfl
end Cas
