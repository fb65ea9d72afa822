/-! A METHOD'S CODE CUT: a run over some of its rows is a run over all; bad numbers -/
section Sub
variable {D : Cfg2} {t : List (Nat × Instr × Nat)}
theorem xi2_sub {pc k n : Nat} {lo : List (Option Value)} {st : List Value} {s : HS} {i : Instr} : xi2 (t, D.2) pc lo st s k n i = xi2 D pc lo st s k n i := by
  obtain ⟨t1, ca1, in1, lg1, sc1, re1, cp1⟩ := D
  have key : pureI st i = true → xi (dum (t, ca1, in1, lg1, sc1, re1, cp1)) pc lo st M0 k n i = xi (dum (t1, ca1, in1, lg1, sc1, re1, cp1)) pc lo st M0 k n i := fun hp =>
    (xi_pure (t1 := t) (ca1 := ca1) (cp1 := cp1) (M := M0) hp).trans (xi_pure (t1 := t) (ca1 := ca1) (cp1 := cp1) (M := M0) hp).symm
  unfold xi2
  split
  · rfl
  · rfl
  · cases hp : pureI st i with
    | false => rfl
    | true =>
      rw [cond_true, cond_true]
      exact congrArg (lf s) (key hp)
theorem stp2_sub (ht : ∀ x ∈ t, lk D.1 x.1 = some x.2) {x : St2} {r : St2 ⊕ Out2} (h : stp2 (t, D.2) x = some r) : stp2 D x = some r := by
  unfold stp2 at h ⊢
  split at h
  · rename_i i n hl
    rw [ht _ (lk_mem (show lk t x.1 = some (i, n) from hl))]
    dsimp only
    rw [← xi2_sub (t := t)]
    exact h
  · cases h
theorem run2_sub (ht : ∀ x ∈ t, lk D.1 x.1 = some x.2) : ∀ (n : Nat) (x : St2) (r : St2 ⊕ Out2), run2 (t, D.2) n x = some r → run2 D n x = some r
  | 0, x, r, h => h
  | n + 1, x, r, h => by
    unfold run2 at h ⊢
    split at h
    · rename_i y hy
      rw [stp2_sub ht hy]
      exact run2_sub ht n y r h
    · rename_i hne
      rw [stp2_sub ht h]
      split
      · rename_i y hy
        cases hy
        exact absurd h (hne y)
      · rfl
theorem R2.sb (ht : ∀ x ∈ t, lk D.1 x.1 = some x.2) {x y z : St2} (n : Nat) (h : run2 (t, D.2) n x = some (.inl y)) (k : R2 D y z) : R2 D x z := R2.go n (run2_sub ht n x _ h) k
theorem E2.sb (ht : ∀ x ∈ t, lk D.1 x.1 = some x.2) {x : St2} {o : Out2} (n : Nat) (h : run2 (t, D.2) n x = some (.inr o)) : E2 D x o := ⟨n, run2_sub ht n x _ h⟩
end Sub
theorem onO_none {A : Type} {o : Option A} {k : A → Ans} {e : Ans} (h : o = none) : onO o k e = e := by rw [h]; rfl
section Bad
variable {M : Mem} {s : HS}
theorem onS_any (h : Rel M s) {v : Int32} {k : Nat → Ans} (hk : ∀ x, k x = aX 1 s) : onS s v k = aX 1 s := by
  rcases hSet h v with b | ⟨i, hi, rfl⟩
  · exact onS_bad h b
  · rw [onS_ok h hi, hk]
theorem onE_any (h : Rel M s) {v : Int32} {k : Nat → Ans} (hk : ∀ x, k x = aX 1 s) : onE s v k = aX 1 s := by
  rcases hEl h v with b | ⟨i, hi, rfl⟩
  · exact onE_bad h b
  · rw [onE_ok h hi, hk]
theorem onS_0 (h : Rel M s) (hc : 0 < s.2.1.length) {k : Nat → Ans} : onS s (0 : Int32) k = k (gN s.2.1 0) := onS_ok h hc
theorem onE_0 (h : Rel M s) {k : Nat → Ans} : onE s (0 : Int32) k = k 0 := onE_ok h (Nat.mul_pos h.1.1 h.1.2.1)
theorem noI_len (h : Rel M s) : noI (ii s.2.1.length) s.2.1.length := Or.inr (by rw [ii_lt (by have := h.2.2.1.1; omega) (by have := h.2.2.1.1; omega)]; omega)
theorem noI_size (h : Rel M s) : noI (ii (s.1.1 * s.1.2)) (s.1.1 * s.1.2) := Or.inr (by rw [ii_lt (by have := h.1.2.2.1; omega) (by have := h.1.2.2.1; omega)]; omega)
theorem noI_neg {v : Int32} {c : Nat} (h : v < 0) : noI v c := Or.inl h
theorem noI_big {v : Int32} {c : Nat} (hv : v = 2147483647) (hc : c < 1000) : noI v c := Or.inr (by
  subst hv
  rw [show (2147483647 : Int32) = ii 2147483647 from rfl, ii_lt (by decide) (by omega)]
  omega)
theorem set_big {v : Int64} (h0 : v.toBitVec.toNat ≠ 0) (h : 2 ^ (s.1.1 * s.1.2) ≤ v.toBitVec.toNat) : p_set v s = aX 2 s := by
  unfold p_set
  rw [show Nat.beq v.toBitVec.toNat 0 = false from by rw [← Bool.not_eq_true, nb]; exact h0, show Nat.blt v.toBitVec.toNat (2 ^ (s.1.1 * s.1.2)) = false from by rw [← Bool.not_eq_true]; exact fun z => absurd (Nat.le_of_ble_eq_true z) (by omega)]
  rfl
theorem wins_big {v : Int64} (h : 2 ^ (s.1.1 * s.1.2) ≤ v.toBitVec.toNat) : p_wins (0 : Int32) v s = aX 2 s := by
  show (bif !(Nat.blt v.toBitVec.toNat (2 ^ (s.1.1 * s.1.2))) || !(kpC s.1.1 s.1.2 0 v.toBitVec.toNat) then aX 2 s else _) = _
  rw [show Nat.blt v.toBitVec.toNat (2 ^ (s.1.1 * s.1.2)) = false from by rw [← Bool.not_eq_true]; exact fun z => absurd (Nat.le_of_ble_eq_true z) (by omega)]
  rfl
theorem pow36 (h : Rel M s) : 2 ^ (s.1.1 * s.1.2) ≤ 2 ^ 36 := Nat.pow_le_pow_right (by decide) h.1.2.2.1
theorem trn_bad (h : Rel M s) (hc : 0 < s.2.1.length) {v : Int32} (hv : ¬ v.toBitVec.toNat < s.1.2) : p_transform (0 : Int32) v s = aX 2 s := by
  have hn := h.1.2.1
  unfold p_transform
  rw [onS_0 h hc]
  refine onO_none ?_
  unfold rgN
  rw [show Nat.ble v.toBitVec.toNat (s.1.2 - 1) = false from by rw [← Bool.not_eq_true, nble]; omega, Bool.and_false]
  rfl
theorem i64_32 (x : Int32) : x.toInt64.toInt32 = x := Int32.toInt32_toInt64 x
end Bad
