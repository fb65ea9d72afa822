/-! THE CALLS that change the house, 2: moves, the row, the group -/
section Cas
variable {M : Mem} {m n c : Nat} {a : Nat → Nat} {r : Nat} {q : Nat → Nat} {p w : Nat}
noncomputable def mvS (m n s : Nat) (t : Int) (e : Nat) : Nat := shf m n (st (m * n) (fun i => ∃ x, x < m * n ∧ s.testBit x = true ∧ ml m n t x = i)) e
theorem mv_ams (hm : 0 < m) (hn : 0 < n) {s e : Nat} (t : Int) (hs : s < 2 ^ (m * n)) (he : e < m * n) (u : Prop) (hu : ¬ u) : ams m n (2 ^ e) t s u = mvS m n s t e := by
  refine st_congr fun i hi => ?_
  rw [st_bit]
  constructor
  · rintro ⟨x, hx, h1, y, hy, h2, -, h3⟩
    rw [Nat.testBit_two_pow, decide_eq_true_eq] at h1
    subst h1
    exact ⟨sb_lt hm hn i e, y, hy, h2, ((ad_iff hm hn (ml_lt hm hn t y) hi).mp h3)⟩
  · rintro ⟨-, y, hy, h2, h3⟩
    refine ⟨e, he, by rw [Nat.testBit_two_pow, decide_eq_true_eq], y, hy, h2, fun z => hu z.1, ?_⟩
    rw [h3, ad_comm, ad_sb hm hn hi]
theorem mv_ne (hm : 0 < m) (hn : 0 < n) (hN : m * n ≤ 36) {s e : Nat} (t : Int) (hs : s < 2 ^ (m * n)) (h0 : s ≠ 0) (he : e < m * n) : mvS m n s t e ≠ 0 := by
  obtain ⟨y, -, -, hy, -⟩ := low_set (set64 hs hN) (Nat.pos_of_ne_zero h0)
  intro z
  have hl := ad_lt hm hn (ml m n t y) e
  have : (mvS m n s t e).testBit (ad m n (ml m n t y) e) = true := by
    refine (shf_bit _ _ _).mpr ⟨hl, (st_bit _ _ _).mpr ⟨sb_lt hm hn _ _, y, tb_lt hs hy, hy, ?_⟩⟩
    rw [ad_comm, sb_ad hm hn (ml_lt hm hn t y)]
  rw [z, Nat.zero_testBit] at this
  cases this
theorem mv_lt (s : Nat) (t : Int) (e : Nat) : mvS m n s t e < 2 ^ (m * n) := shf_lt _ _
/-! the row -/
def rS (r k j : Nat) : Prop := wk k j ∨ (k = 15 ∧ j = r) ∨ (k = 14 ∧ j = 2)
theorem row_inv (h : InvP M m n c a r q p w) {r' : Nat} {q' : Nat → Nat} {M2 : Mem} (f : Fr (rS r) M M2) (hr : RI M2 (m * n) r' q') : InvP M2 m n c a r' q' p w := by
  obtain ⟨hg, hm, hs', -, ht⟩ := h
  exact ⟨hg.f fun k j hk => f k j (by unfold rS wk; omega), trivial, hs'.f (f 0 2 (by unfold rS wk; omega)).1 fun j => (f 1 j (by unfold rS wk; omega)).2, hr, ht.f (fun k j hk => (f k j (by unfold rS wk; omega)).1)⟩
/-! the group -/
end Cas
