/-! WHAT HOLDS BETWEEN THE CALLS -/
/-- the working places, that no later call reads before it writes them -/
def wk (k j : Nat) : Prop := (4 ≤ k ∧ k ≤ 13) ∨ (22 ≤ k ∧ k ≤ 29) ∨ (k = 16 ∧ j ≠ 0) ∨ (k = 19 ∧ j = 15)
def Wk (M M' : Mem) : Prop := ∀ k j, ¬ wk k j → M'.1 k j = M.1 k j ∧ M'.2 k j = M.2 k j
theorem Wk.rf (M : Mem) : Wk M M := fun _ _ _ => ⟨rfl, rfl⟩
theorem Wk.tr {A B C : Mem} (h : Wk A B) (g : Wk B C) : Wk A C := fun k j hk => ⟨(g k j hk).1.trans (h k j hk).1, (g k j hk).2.trans (h k j hk).2⟩
theorem Wk.i {A B : Mem} (h : Wk A B) {k j : Nat} {x : Int32} (hw : wk k j) : Wk A (sI B k j x) := fun a b hab => by
  rw [sI_ne]
  · exact h a b hab
  · rintro ⟨rfl, rfl⟩; exact hab hw
theorem Wk.l {A B : Mem} (h : Wk A B) {k j : Nat} {x : Int64} (hw : wk k j) : Wk A (sL B k j x) := fun a b hab => by
  rw [sL_ne]
  · exact h a b hab
  · rintro ⟨rfl, rfl⟩; exact hab hw
theorem wk_thr : wk 19 15 := Or.inr (Or.inr (Or.inr ⟨rfl, rfl⟩))
theorem wk_out (j : Nat) : wk 29 j := Or.inr (Or.inl ⟨by decide, by decide⟩)
theorem Wk.thr (M : Mem) (x : Int32) : Wk M (sI M 19 15 x) := (Wk.rf M).i wk_thr
theorem Wk.thr2 {M A : Mem} (h : Wk M A) (x : Int32) : Wk M (sI A 19 15 x) := h.i wk_thr
theorem Wk.out {M A : Mem} (h : Wk M A) (x : Int64) : Wk M (sL A 29 0 x) := h.l (wk_out 0)
theorem GI.w {M M' : Mem} {m n : Nat} (h : GI M m n) (w : Wk M M') : GI M' m n := by
  have f : ∀ k j, k = 2 ∨ k = 3 → M'.1 k j = M.1 k j ∧ M'.2 k j = M.2 k j := fun k j hk => w k j (by unfold wk; omega)
  obtain ⟨h1, h2, h3, h4, h5, h6, h7, h8, h9, h10⟩ := h
  refine ⟨h1, h2, h3, ?_, ?_, ?_, ?_, ?_, ?_, fun e he => ?_⟩
  · rw [(f 2 0 (Or.inl rfl)).1]; exact h4
  · rw [(f 2 1 (Or.inl rfl)).1]; exact h5
  · rw [(f 2 2 (Or.inl rfl)).1]; exact h6
  · rw [(f 2 3 (Or.inl rfl)).2]; exact h7
  · rw [(f 2 4 (Or.inl rfl)).2]; exact h8
  · rw [(f 2 5 (Or.inl rfl)).2]; exact h9
  · rw [(f 3 e (Or.inr rfl)).1]; exact h10 e he
/-- the sets -/
def SI (M : Mem) (N c : Nat) (a : Nat → Nat) : Prop := c ≤ 30 ∧ M.1 0 2 = ii c ∧ True ∧ ∀ i, i < c → M.2 1 i = ll (a i) ∧ True ∧ a i < 2 ^ N ∧ a i ≠ 0
theorem SI.w {M M' : Mem} {N c : Nat} {a : Nat → Nat} (h : SI M N c a) (w : Wk M M') : SI M' N c a := by
  obtain ⟨h1, h2, h3, h4⟩ := h
  refine ⟨h1, ?_, trivial, fun i hi => ?_⟩
  · rw [(w 0 2 (by unfold wk; omega)).1]; exact h2
  · rw [(w 1 i (by unfold wk; omega)).2]; exact h4 i hi
/-- the row -/
def RI (M : Mem) (N r : Nat) (q : Nat → Nat) : Prop := r ≤ 12 ∧ M.1 14 2 = ii r ∧ True ∧ M.1 16 0 = 0 ∧ ∀ i, i < r → M.1 15 i = ii (q i) ∧ True ∧ q i < N
theorem RI.w {M M' : Mem} {N r : Nat} {q : Nat → Nat} (h : RI M N r q) (w : Wk M M') : RI M' N r q := by
  obtain ⟨h1, h2, h3, h4, h5⟩ := h
  refine ⟨h1, ?_, trivial, ?_, fun i hi => ?_⟩
  · rw [(w 14 2 (by unfold wk; omega)).1]; exact h2
  · rw [(w 16 0 (by unfold wk; omega)).1]; exact h4
  · rw [(w 15 i (by unfold wk; omega)).1]; exact h5 i hi
/-- a prime and its root -/
def Prm (p : Nat) : Prop := 2 ≤ p ∧ ∀ d, 2 ≤ d → d < p → p % d ≠ 0
def Rt (p w n : Nat) : Prop := Prm p ∧ p ≤ 9999 ∧ 1 ≤ w ∧ w < p ∧ w ^ n % p = 1 ∧ ∀ e, 1 ≤ e → e < n → w ^ e % p ≠ 1
def TI (M : Mem) (m n p w : Nat) : Prop := M.1 17 0 = ii p ∧ True ∧ p ≤ 9999 ∧ (p ≠ 0 → m = 1 ∧ M.1 17 1 = ii n ∧ True ∧ Rt p w n ∧ ∀ e, e < n → M.1 18 e = ii (w ^ e % p))
theorem TI.w {M M' : Mem} {m n p v : Nat} (h : TI M m n p v) (w : Wk M M') : TI M' m n p v := by
  obtain ⟨h1, h2, h3, h4⟩ := h
  refine ⟨?_, trivial, h3, fun hp => ?_⟩
  · rw [(w 17 0 (by unfold wk; omega)).1]; exact h1
  · obtain ⟨g1, g2, g3, g4, g5⟩ := h4 hp
    refine ⟨g1, ?_, trivial, g4, fun e he => ?_⟩
    · rw [(w 17 1 (by unfold wk; omega)).1]; exact g2
    · rw [(w 18 e (by unfold wk; omega)).1]; exact g5 e he
def InvP (M : Mem) (m n c : Nat) (a : Nat → Nat) (r : Nat) (q : Nat → Nat) (p w : Nat) : Prop := GI M m n ∧ True ∧ SI M (m * n) c a ∧ RI M (m * n) r q ∧ TI M m n p w
def Inv (M : Mem) : Prop := ∃ (m n c : Nat) (a : Nat → Nat) (r : Nat) (q : Nat → Nat) (p w : Nat), InvP M m n c a r q p w
theorem InvP.w {M M' : Mem} {m n c : Nat} {a : Nat → Nat} {r : Nat} {q : Nat → Nat} {p v : Nat} (h : InvP M m n c a r q p v) (w : Wk M M') : InvP M' m n c a r q p v :=
  ⟨h.1.w w, trivial, h.2.2.1.w w, h.2.2.2.1.w w, h.2.2.2.2.w w⟩
/-! the group begun anew -/
theorem sL_sL (M : Mem) (k j : Nat) (x y : Int64) : sL (sL M k j x) k j y = sL M k j y := by
  unfold sL
  refine Prod.ext rfl ?_
  funext a b
  show (if a = k then (if b = j then y else (if a = k then (if b = j then x else M.2 a b) else M.2 a b)) else (if a = k then (if b = j then x else M.2 a b) else M.2 a b)) = _
  by_cases h1 : a = k
  · by_cases h2 : b = j <;> simp [h1, h2]
  · simp [h1]
theorem rowsF_lt {n : Nat} (hn : 0 < n) : ∀ x, rowsF n x < 2 ^ (n * x)
  | 0 => by
    show 0 < 2 ^ (n * 0)
    exact Nat.two_pow_pos _
  | x + 1 => by
    have h := rowsF_lt hn x
    show rowsF n x + 2 ^ (n * x) < _
    have : 2 ^ (n * x + 1) ≤ 2 ^ (n * (x + 1)) := Nat.pow_le_pow_right (by decide) (by rw [Nat.mul_succ]; omega)
    rw [Nat.pow_succ] at this
    omega
theorem rowsF_or {n : Nat} (hn : 0 < n) (x : Nat) : rowsF n x ||| 2 ^ (n * x) = rowsF n (x + 1) := by
  show _ = rowsF n x + 2 ^ (n * x)
  have := Nat.two_pow_add_eq_or_of_lt (rowsF_lt hn x) 1
  rw [Nat.mul_one] at this
  rw [Nat.or_comm, ← this, Nat.add_comm]
theorem begin_i (M : Mem) {m n : Nat} (hm : 0 < m) (hn : 0 < n) (hN : m * n ≤ 36) : ∃ M', d_X1_begin (ii m) (ii n) M = some (.inl none, M') ∧ GI M' m n ∧ ∀ k j, k ≠ 2 → k ≠ 3 → M'.1 k j = M.1 k j ∧ M'.2 k j = M.2 k j := by
  have hm36 : m ≤ 36 := Nat.le_trans (Nat.le_mul_of_pos_right m hn) hN
  have hn36 : n ≤ 36 := Nat.le_trans (Nat.le_mul_of_pos_left n hm) hN
  generalize hB : sL (sI (sI (sI M 2 0 (ii m)) 2 1 (ii n)) 2 2 (ii m * ii n)) 2 3 (d_X7_bit (ii m * ii n) - (1 : Int64)) = B
  have b0 : B.1 2 0 = ii m := by rw [← hB]; rfl
  have b1 : B.1 2 1 = ii n := by rw [← hB]; rfl
  have b2 : B.1 2 2 = ii (m * n) := by rw [← hB, ← ii_mul]; rfl
  have b3 : B.2 2 3 = ll (2 ^ (m * n) - 1) := by
    rw [← hB]
    show d_X7_bit (ii m * ii n) - (1 : Int64) = _
    rw [ii_mul, bit_i (by omega), ll_1, ll_sub (Nat.two_pow_pos _)]
  have bo : ∀ k j, k ≠ 2 → k ≠ 3 → B.1 k j = M.1 k j ∧ B.2 k j = M.2 k j := fun k j h2 h3 => by
    rw [← hB, sL_ne _ _ (fun z => h2 z.1)]
    show (sI (sI (sI M 2 0 (ii m)) 2 1 (ii n)) 2 2 (ii m * ii n)).1 k j = _ ∧ _
    rw [sI_ne _ _ (fun z => h2 z.1), sI_ne _ _ (fun z => h2 z.1), sI_ne _ _ (fun z => h2 z.1)]
    exact ⟨rfl, rfl⟩
  have l1 := it_full (g := g_X1_begin_1) m (fun x => (ii x, sL B 2 4 (ll (rowsF n x)))) (b := .inl (ii m, sL B 2 4 (ll (rowsF n m)))) (by omega) (fun x hx => by
    have hnx : n * x + 0 < m * n := nm_lt hx hn
    unfold g_X1_begin_1
    dsimp only
    rw [show (sL B 2 4 (ll (rowsF n x))).1 2 0 = B.1 2 0 from rfl, show (sL B 2 4 (ll (rowsF n x))).1 2 1 = B.1 2 1 from rfl, b0, b1, if_pos ((ii_lt (by omega) (by omega)).mpr hx), ii_mul, bit_i (by omega), sL_at, ll_or, sL_sL, rowsF_or hn, ii_inc]) (by
    unfold g_X1_begin_1
    dsimp only
    rw [show (sL B 2 4 (ll (rowsF n m))).1 2 0 = B.1 2 0 from rfl, b0, if_neg (by rw [ii_lt (by omega) (by omega)]; omega)])
  generalize hC : sL (sL B 2 4 (ll (rowsF n m))) 2 5 (0 : Int64) = C
  have c0 : C.1 2 0 = ii m := by rw [← hC]; exact b0
  have c1 : C.1 2 1 = ii n := by rw [← hC]; exact b1
  have c2 : C.1 2 2 = ii (m * n) := by rw [← hC]; exact b2
  have c3 : C.2 2 3 = ll (2 ^ (m * n) - 1) := by rw [← hC]; exact b3
  have c4 : C.2 2 4 = ll (rowsF n m) := by rw [← hC]; rfl
  have c5 : C.2 2 5 = ll 0 := by rw [← hC]; rfl
  have co : ∀ k j, k ≠ 2 → k ≠ 3 → C.1 k j = M.1 k j ∧ C.2 k j = M.2 k j := fun k j h2 h3 => by
    rw [← hC, sL_ne _ _ (fun z => h2 z.1), sL_ne _ _ (fun z => h2 z.1)]
    exact bo k j h2 h3
  obtain ⟨b, l2, D, rfl, d0⟩ := it_loop (g := g_X1_begin_3) (m * n) (fun e x => ∃ D : Mem, x = (ii e, D) ∧ (∀ k j, k ≠ 3 → D.1 k j = C.1 k j) ∧ (∀ k j, ¬ (k = 2 ∧ j = 5) → D.2 k j = C.2 k j) ∧ D.2 2 5 = ll (st (m * n) fun i => i < e ∧ ad m n i i = 0) ∧ ∀ i, i < e → D.1 3 i = ii (ng m n i))
    (fun b => ∃ D : Mem, b = .inl (ii (m * n), D) ∧ (∀ k j, k ≠ 3 → D.1 k j = C.1 k j) ∧ (∀ k j, ¬ (k = 2 ∧ j = 5) → D.2 k j = C.2 k j) ∧ D.2 2 5 = ll (st (m * n) fun i => i < m * n ∧ ad m n i i = 0) ∧ ∀ i, i < m * n → D.1 3 i = ii (ng m n i)) (a := ((0 : Int32), C)) (by omega)
    ⟨C, rfl, fun _ _ _ => rfl, fun _ _ _ => rfl, by rw [st_none]; exact c5, fun i hi => absurd hi (Nat.not_lt_zero i)⟩ (by
      rintro e x he ⟨D, rfl, d1, d2, d3, d4⟩
      have e0 : D.1 2 0 = ii m := by rw [d1 2 0 (by decide)]; exact c0
      have e1 : D.1 2 1 = ii n := by rw [d1 2 1 (by decide)]; exact c1
      have e2 : D.1 2 2 = ii (m * n) := by rw [d1 2 2 (by decide)]; exact c2
      have lay : d_X7_lay 3 36 (ii e) (d_X1_multiple (-1 : Int32) (ii e) D) D = sI D 3 e (ii (ng m n e)) := by
        unfold d_X7_lay
        rw [if_neg (ii_lt0 (by omega)), if_pos (by rw [show (36 : Int32) = ii 36 from rfl, ii_lt (by omega) (by decide)]; omega), ii_ix (by omega), show (-1 : Int32) = zi (-1) from rfl, multiple_i e0 e1 hm hn ⟨hm36, hn36⟩ (by decide) (by omega)]
        rfl
      have f0 : (sI D 3 e (ii (ng m n e))).1 2 0 = ii m := e0
      have f1 : (sI D 3 e (ii (ng m n e))).1 2 1 = ii n := e1
      have two : d_X1_multiple (2 : Int32) (ii e) (sI D 3 e (ii (ng m n e))) = ii (ad m n e e) := by
        rw [show (2 : Int32) = zi 2 from rfl, multiple_i f0 f1 hm hn ⟨hm36, hn36⟩ (by decide) (by omega), ml_two hm hn e he]
      have hadl := ad_lt hm hn e e
      unfold g_X1_begin_3
      dsimp only
      rw [e2, if_pos ((ii_lt (by omega) (by omega)).mpr he), lay, two, ii_inc]
      have s1 : ∀ k j, k ≠ 3 → (sI D 3 e (ii (ng m n e))).1 k j = C.1 k j := fun k j hk => by rw [sI_ne _ _ (fun z => hk z.1)]; exact d1 k j hk
      have s4 : ∀ i, i < e + 1 → (sI D 3 e (ii (ng m n e))).1 3 i = ii (ng m n i) := fun i hi => by
        by_cases c : i = e
        · rw [c, sI_at]
        · rw [sI_ne _ _ (fun z => c z.2)]; exact d4 i (by omega)
      refine Or.inl ⟨_, rfl, _, rfl, ?_⟩
      by_cases c : ad m n e e = 0
      · rw [if_pos (by rw [c]; rfl), show (sI D 3 e (ii (ng m n e))).2 = D.2 from rfl, d3, bit_i (by omega), ll_or]
        refine ⟨s1, fun k j hk => ?_, ?_, s4⟩
        · rw [sL_ne _ _ hk]; exact d2 k j hk
        · rw [sL_at, st_step _ _ _ he, if_pos c]
      · rw [if_neg (ii_ne0 (Nat.pos_of_ne_zero c) (by omega))]
        refine ⟨s1, d2, ?_, s4⟩
        show D.2 2 5 = _
        rw [d3, st_step _ _ _ he, if_neg c, Nat.or_zero]) (by
      rintro x ⟨D, rfl, d1, d2, d3, d4⟩
      have e2 : D.1 2 2 = ii (m * n) := by rw [d1 2 2 (by decide)]; exact c2
      unfold g_X1_begin_3
      dsimp only
      rw [e2, if_neg (by rw [ii_lt (by omega) (by omega)]; omega)]
      exact ⟨_, rfl, D, rfl, d1, d2, d3, d4⟩)
  obtain ⟨d1, d2, d3, d4⟩ := d0
  refine ⟨D, ?_, ⟨hm, hn, hN, ?_, ?_, ?_, ?_, ?_, ?_, d4⟩, fun k j h2 h3 => ?_⟩
  · unfold d_X1_begin
    rw [hB, show ((0 : Int32), sL B 2 4 (0 : Int64)) = (ii 0, sL B 2 4 (ll (rowsF n 0))) from rfl, l1]
    show onIt (iter g_X1_begin_3 20000 ((0 : Int32), sL (sL B 2 4 (ll (rowsF n m))) 2 5 (0 : Int64))) _ _ = _
    rw [hC, l2]
    rfl
  · rw [d1 2 0 (by decide)]; exact c0
  · rw [d1 2 1 (by decide)]; exact c1
  · rw [d1 2 2 (by decide)]; exact c2
  · rw [d2 2 3 (by decide)]; exact c3
  · rw [d2 2 4 (by decide)]; exact c4
  · rw [d3, st_all]
  · rw [d1 k j h3, d2 k j (fun z => h2 z.1)]
    exact co k j h2 h3
