/-! THE MEMBERS OF A SET IN A LINE -/
theorem lay_i (k : Nat) {b i : Nat} (hi : i < b) (hb : b < 2147483648) (v : Int32) (M : Mem) : d_X7_lay k (ii b) (ii i) v M = sI M k i v := by
  unfold d_X7_lay
  rw [if_neg (ii_lt0 (by omega)), if_pos ((ii_lt (by omega) hb).mpr hi), ii_ix (by omega)]
theorem at_i (k : Nat) {b i : Nat} (hi : i < b) (hb : b < 2147483648) (M : Mem) : d_X7_at k (ii b) (ii i) M = M.1 k i := by
  unfold d_X7_at
  rw [if_neg (ii_lt0 (by omega)), if_pos ((ii_lt (by omega) hb).mpr hi), ii_ix (by omega)]
theorem sI_same (M : Mem) (k j : Nat) : sI M k j (M.1 k j) = M := by
  refine Prod.ext ?_ rfl
  funext a b
  by_cases h : a = k ∧ b = j
  · obtain ⟨rfl, rfl⟩ := h
    rw [sI_at]
  · rw [sI_ne _ _ h]
def els (s : Nat) : Nat → List Nat
  | 0 => []
  | e + 1 => if s.testBit e then els s e ++ [e] else els s e
theorem els_len (s : Nat) : ∀ e, (els s e).length = pc s.testBit e
  | 0 => rfl
  | e + 1 => by
    have ih := els_len s e
    show (if s.testBit e then els s e ++ [e] else els s e).length = pc s.testBit e + (if s.testBit e then 1 else 0)
    by_cases c : s.testBit e = true
    · rw [if_pos c, if_pos c, List.length_append, ih]; rfl
    · rw [if_neg c, if_neg c, ih, Nat.add_zero]
def el (s e i : Nat) : Nat := (els s e).getD i 0
theorem getD_app (l : List Nat) (x i : Nat) : (l ++ [x]).getD i 0 = if i < l.length then l.getD i 0 else if i = l.length then x else 0 := by
  by_cases c : i < l.length
  · rw [if_pos c, List.getD_eq_getElem?_getD, List.getD_eq_getElem?_getD, List.getElem?_append_left c]
  · rw [if_neg c, List.getD_eq_getElem?_getD, List.getElem?_append_right (by omega)]
    by_cases d : i = l.length
    · rw [if_pos d, d, Nat.sub_self]; rfl
    · rw [if_neg d, List.getElem?_eq_none (by simp; omega)]; rfl
theorem els_succ (s e : Nat) : els s (e + 1) = if s.testBit e then els s e ++ [e] else els s e := rfl
theorem pc_succ (p : Nat → Bool) (n : Nat) : pc p (n + 1) = pc p n + (if p n then 1 else 0) := rfl
theorem pc_up (p : Nat → Bool) {a b : Nat} (h : a ≤ b) : pc p a ≤ pc p b := by
  obtain ⟨d, rfl⟩ := Nat.exists_eq_add_of_le h
  rw [pc_add]
  omega
theorem el_lt (s : Nat) : ∀ {e i : Nat}, i < pc s.testBit e → el s e i < e
  | 0, i, h => absurd h (Nat.not_lt_zero _)
  | e + 1, i, h => by
    unfold el
    rw [els_succ]
    rw [pc_succ] at h
    by_cases c : s.testBit e = true
    · rw [if_pos c] at h ⊢
      rw [getD_app, els_len]
      by_cases d : i < pc s.testBit e
      · rw [if_pos d]
        have := el_lt s d
        unfold el at this
        omega
      · rw [if_neg d, if_pos (by omega)]
        omega
    · rw [if_neg c] at h ⊢
      have := el_lt s (e := e) (i := i) (by omega)
      unfold el at this
      omega
theorem el_iff (s : Nat) : ∀ {e i v : Nat}, i < pc s.testBit e → v < e → s.testBit v = true → (el s e i = v ↔ i = pc s.testBit v)
  | 0, i, v, h, _, _ => absurd h (Nat.not_lt_zero _)
  | e + 1, i, v, h, hv, hb => by
    unfold el
    rw [els_succ]
    rw [pc_succ] at h
    by_cases c : s.testBit e = true
    · rw [if_pos c] at h ⊢
      rw [getD_app, els_len]
      by_cases d : i < pc s.testBit e
      · rw [if_pos d]
        by_cases g : v = e
        · subst g
          have := el_lt s d
          unfold el at this
          omega
        · exact el_iff s d (by omega) hb
      · rw [if_neg d, if_pos (by omega)]
        by_cases g : v = e
        · subst g
          omega
        · have h1 := pc_up s.testBit (show v + 1 ≤ e by omega)
          rw [pc_succ, if_pos hb] at h1
          omega
    · rw [if_neg c] at h ⊢
      by_cases g : v = e
      · subst g
        exact absurd hb c
      · exact el_iff s (by omega) (by omega) hb
theorem el_in (s : Nat) : ∀ {e i : Nat}, i < pc s.testBit e → s.testBit (el s e i) = true
  | 0, i, h => absurd h (Nat.not_lt_zero _)
  | e + 1, i, h => by
    unfold el
    rw [els_succ]
    rw [pc_succ] at h
    by_cases c : s.testBit e = true
    · rw [if_pos c] at h ⊢
      rw [getD_app, els_len]
      by_cases d : i < pc s.testBit e
      · rw [if_pos d]
        exact el_in s d
      · rw [if_neg d, if_pos (by omega)]
        exact c
    · rw [if_neg c] at h ⊢
      exact el_in s (by omega)
/-- what stays: one more element -/
theorem el_keep {s e i : Nat} (h : i < pc s.testBit e) : el s (e + 1) i = el s e i := by
  unfold el
  rw [els_succ]
  by_cases c : s.testBit e = true
  · rw [if_pos c, getD_app, els_len, if_pos h]
  · rw [if_neg c]
theorem el_new {s e : Nat} (c : s.testBit e = true) : el s (e + 1) (pc s.testBit e) = e := by
  unfold el
  rw [els_succ, if_pos c, getD_app, els_len, if_neg (Nat.lt_irrefl _), if_pos rfl]
def gLine (K : Nat) (v1 : Int64) : Int32 × Int32 × Mem → Option ((Int32 × Int32 × Mem) ⊕ ((Int32 × Int32 × Mem) ⊕ (Res × Mem))) := fun a1 => (if a1.2.1 < (a1.2.2.1 2 2) then some (.inl ((if (d_X7_has v1 a1.2.1) = 0 then a1.1 else (a1.1 + (1 : Int32))), (a1.2.1 + (1 : Int32)), (if (d_X7_has v1 a1.2.1) = 0 then a1.2.2 else ((d_X7_lay K 6 a1.1 a1.2.1) a1.2.2)))) else some (.inr (.inl (a1.1, a1.2.1, a1.2.2))))
theorem gLine_5 (v : Int64) : g_X2_lineUp_k5_1 v = gLine 5 v := rfl
theorem gLine_6 (v : Int64) : g_X2_lineUp_k6_1 v = gLine 6 v := rfl
section Lines
variable {M : Mem} {m n : Nat}
theorem line_i (K : Nat) (hK : K ≠ 2) (h : GI M m n) {s : Nat} (hs : s < 2 ^ (m * n)) (h6 : pc s.testBit (m * n) ≤ 6) : ∃ (D : Mem) (y : Int32), iter (gLine K (ll s)) 20000 ((0 : Int32), (0 : Int32), M) = some (.inl (ii (pc s.testBit (m * n)), y, D)) ∧ (∀ i, i < pc s.testBit (m * n) → D.1 K i = ii (el s (m * n) i)) ∧ Fr (fun k _ => k = K) M D := by
  obtain ⟨hm, hn, hN, -, -, h2, -⟩ := id h
  refine k_ex (fun b e1 e2 => ?_) (it_loop (g := gLine K (ll s)) (m * n) (fun e a => ∃ D : Mem, a = (ii (pc s.testBit e), ii e, D) ∧ (∀ i, i < pc s.testBit e → D.1 K i = ii (el s e i)) ∧ Fr (fun k _ => k = K) M D)
    (fun b => ∃ (D : Mem) (y : Int32), b = .inl (ii (pc s.testBit (m * n)), y, D) ∧ (∀ i, i < pc s.testBit (m * n) → D.1 K i = ii (el s (m * n) i)) ∧ Fr (fun k _ => k = K) M D) (a := ((0 : Int32), (0 : Int32), M)) (by omega) ⟨M, rfl, fun i hi => absurd hi (Nat.not_lt_zero i), Fr.rf _ M⟩ ?_ ?_)
  · obtain ⟨D, y, rfl, g1, g2⟩ := e2
    exact ⟨D, y, e1, g1, g2⟩
  · rintro e a he ⟨D, rfl, g1, g2⟩
    have d2 : D.1 2 2 = ii (m * n) := (g2 2 2 (fun z => hK z.symm)).1.trans h2
    unfold gLine
    dsimp only
    rw [d2, if_pos ((ii_lt (by omega) (by omega)).mpr he), has_i (set64 hs hN) (by omega), ii_inc, ii_inc]
    by_cases c : s.testBit e = true
    · have hp : pc s.testBit (e + 1) ≤ pc s.testBit (m * n) := pc_up _ (by omega)
      rw [pc_succ, if_pos c] at hp
      rw [if_pos c, if_neg (by decide), if_neg (by decide), show (6 : Int32) = ii 6 from rfl, lay_i K (by omega) (by decide)]
      refine Or.inl ⟨_, rfl, _, by rw [pc_succ, if_pos c], fun i hi => ?_, g2.i K _ _ rfl⟩
      rw [pc_succ, if_pos c] at hi
      by_cases d : i = pc s.testBit e
      · rw [d, sI_at, el_new c]
      · rw [sI_ne _ _ (fun z => d z.2), g1 i (by omega), el_keep (by omega)]
    · rw [if_neg c, if_pos rfl, if_pos rfl]
      refine Or.inl ⟨_, rfl, D, by rw [pc_succ, if_neg c]; rfl, fun i hi => ?_, g2⟩
      rw [pc_succ, if_neg c] at hi
      rw [g1 i hi, el_keep hi]
  · rintro a ⟨D, rfl, g1, g2⟩
    have d2 : D.1 2 2 = ii (m * n) := (g2 2 2 (fun z => hK z.symm)).1.trans h2
    unfold gLine
    dsimp only
    rw [d2, if_neg (by rw [ii_lt (by omega) (by omega)]; omega)]
    exact ⟨_, rfl, D, _, rfl, g1, g2⟩
/-! the reference's two lines -/
end Lines
