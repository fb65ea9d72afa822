/-! STEPS OF THE MACHINE OVER THE HOUSE, THE COUNT OF CELLS BY NAME -/
def setk (k : Nat) : Option (St ⊕ Ou) → Option (St ⊕ Ou)
  | some (.inl x) => some (.inl (x.1, x.2.1, x.2.2.1, x.2.2.2.1, k))
  | some (.inr (r, M, _)) => some (.inr (r, M, k))
  | none => none
set_option maxHeartbeats 4000000 in
theorem xi_k {t0 : List (Nat × Instr × Nat)} {cs0 : List Nat} {fl0 : List (Nat × Nat × Nat)} {ca0 : List (Nat × CallE)} {in0 : List (Nat × Int32)} {lg0 : List (Nat × Int64)} {ex0 : List (Nat × String × Nat × Nat × Nat × String)} {hs0 : List (Nat × Nat × Nat × Nat × String)} {sc0 : Option (Nat × (Nat → Int32))} {re0 : Option FieldType} {cp0 : Nat} {pc k n : Nat} {lo : List (Option Value)} {st : List Value} {M : Mem} {i : Instr} (hp : pureI st i = true) :
    xi (t0, cs0, fl0, ca0, in0, lg0, ex0, hs0, sc0, re0, cp0) pc lo st M k n i = setk k (xi (t0, cs0, fl0, ca0, in0, lg0, ex0, hs0, sc0, re0, cp0) pc lo st M 0 n i) := by
  cases i
  case iconst a0 => rfl
  case bipush a0 => rfl
  case sipush a0 => rfl
  case lconst a0 => rfl
  case ldc a0 =>
    simp only [xi]
    cases lk in0 a0 <;> rfl
  case ldc_w a0 =>
    simp only [xi]
    cases lk in0 a0 <;> rfl
  case ldc2_w a0 =>
    simp only [xi]
    cases lk lg0 a0 <;> rfl
  case iload_n a0 =>
    simp only [xi]
    rcases lo[(a0 : Nat)]? with _ | _ | v
    · rfl
    · rfl
    · cases v <;> rfl
  case iload a0 =>
    simp only [xi]
    rcases lo[a0]? with _ | _ | v
    · rfl
    · rfl
    · cases v <;> rfl
  case lload_n a0 =>
    simp only [xi]
    rcases lo[(a0 : Nat)]? with _ | _ | v
    · rfl
    · rfl
    · cases v <;> rfl
  case lload a0 =>
    simp only [xi]
    rcases lo[a0]? with _ | _ | v
    · rfl
    · rfl
    · cases v <;> rfl
  case aload_n a0 =>
    simp only [xi]
    rcases lo[(a0 : Nat)]? with _ | _ | v
    · rfl
    · rfl
    · cases v <;> rfl
  case aload a0 =>
    simp only [xi]
    rcases lo[a0]? with _ | _ | v
    · rfl
    · rfl
    · cases v <;> rfl
  case istore_n a0 =>
    rcases st with _ | ⟨v, r⟩
    · rfl
    · cases v <;> first | rfl | (simp only [xi]; cases Nat.blt (a0 : Nat) lo.length <;> rfl)
  case istore a0 =>
    rcases st with _ | ⟨v, r⟩
    · rfl
    · cases v <;> first | rfl | (simp only [xi]; cases Nat.blt a0 lo.length <;> rfl)
  case astore_n a0 =>
    rcases st with _ | ⟨v, r⟩
    · rfl
    · cases v <;> first | rfl | (simp only [xi]; cases Nat.blt (a0 : Nat) lo.length <;> rfl)
  case astore a0 =>
    rcases st with _ | ⟨v, r⟩
    · rfl
    · cases v <;> first | rfl | (simp only [xi]; cases Nat.blt a0 lo.length <;> rfl)
  case lstore_n a0 =>
    rcases st with _ | ⟨v, r⟩
    · rfl
    · cases v <;> first | rfl | (simp only [xi]; cases Nat.blt ((a0 : Nat) + 1) lo.length <;> rfl)
  case lstore a0 =>
    rcases st with _ | ⟨v, r⟩
    · rfl
    · cases v <;> first | rfl | (simp only [xi]; cases Nat.blt (a0 + 1) lo.length <;> rfl)
  case iadd =>
    rcases st with _ | ⟨v, _ | ⟨w, r⟩⟩
    · rfl
    · cases v <;> rfl
    · cases v <;> first | rfl | (cases w <;> rfl)
  case isub =>
    rcases st with _ | ⟨v, _ | ⟨w, r⟩⟩
    · rfl
    · cases v <;> rfl
    · cases v <;> first | rfl | (cases w <;> rfl)
  case imul =>
    rcases st with _ | ⟨v, _ | ⟨w, r⟩⟩
    · rfl
    · cases v <;> rfl
    · cases v <;> first | rfl | (cases w <;> rfl)
  case iand =>
    rcases st with _ | ⟨v, _ | ⟨w, r⟩⟩
    · rfl
    · cases v <;> rfl
    · cases v <;> first | rfl | (cases w <;> rfl)
  case ior =>
    rcases st with _ | ⟨v, _ | ⟨w, r⟩⟩
    · rfl
    · cases v <;> rfl
    · cases v <;> first | rfl | (cases w <;> rfl)
  case ixor =>
    rcases st with _ | ⟨v, _ | ⟨w, r⟩⟩
    · rfl
    · cases v <;> rfl
    · cases v <;> first | rfl | (cases w <;> rfl)
  case ishl =>
    rcases st with _ | ⟨v, _ | ⟨w, r⟩⟩
    · rfl
    · cases v <;> rfl
    · cases v <;> first | rfl | (cases w <;> rfl)
  case iushr =>
    rcases st with _ | ⟨v, _ | ⟨w, r⟩⟩
    · rfl
    · cases v <;> rfl
    · cases v <;> first | rfl | (cases w <;> rfl)
  case ladd =>
    rcases st with _ | ⟨v, _ | ⟨w, r⟩⟩
    · rfl
    · cases v <;> rfl
    · cases v <;> first | rfl | (cases w <;> rfl)
  case lsub =>
    rcases st with _ | ⟨v, _ | ⟨w, r⟩⟩
    · rfl
    · cases v <;> rfl
    · cases v <;> first | rfl | (cases w <;> rfl)
  case lmul =>
    rcases st with _ | ⟨v, _ | ⟨w, r⟩⟩
    · rfl
    · cases v <;> rfl
    · cases v <;> first | rfl | (cases w <;> rfl)
  case land =>
    rcases st with _ | ⟨v, _ | ⟨w, r⟩⟩
    · rfl
    · cases v <;> rfl
    · cases v <;> first | rfl | (cases w <;> rfl)
  case lor =>
    rcases st with _ | ⟨v, _ | ⟨w, r⟩⟩
    · rfl
    · cases v <;> rfl
    · cases v <;> first | rfl | (cases w <;> rfl)
  case lxor =>
    rcases st with _ | ⟨v, _ | ⟨w, r⟩⟩
    · rfl
    · cases v <;> rfl
    · cases v <;> first | rfl | (cases w <;> rfl)
  case lshl =>
    rcases st with _ | ⟨v, _ | ⟨w, r⟩⟩
    · rfl
    · cases v <;> rfl
    · cases v <;> first | rfl | (cases w <;> rfl)
  case lushr =>
    rcases st with _ | ⟨v, _ | ⟨w, r⟩⟩
    · rfl
    · cases v <;> rfl
    · cases v <;> first | rfl | (cases w <;> rfl)
  case lcmp =>
    rcases st with _ | ⟨v, _ | ⟨w, r⟩⟩
    · rfl
    · cases v <;> rfl
    · cases v <;> first | rfl | (cases w <;> rfl)
  case ineg =>
    rcases st with _ | ⟨v, r⟩
    · rfl
    · cases v <;> rfl
  case i2l =>
    rcases st with _ | ⟨v, r⟩
    · rfl
    · cases v <;> rfl
  case l2i =>
    rcases st with _ | ⟨v, r⟩
    · rfl
    · cases v <;> rfl
  case dup =>
    rcases st with _ | ⟨v, r⟩
    · rfl
    · cases v <;> rfl
  case idiv =>
    rcases st with _ | ⟨v, _ | ⟨w, r⟩⟩
    · rfl
    · cases v <;> rfl
    · cases v <;> first | rfl | (cases w <;> first | rfl | (simp only [xi]; split <;> rfl))
  case irem =>
    rcases st with _ | ⟨v, _ | ⟨w, r⟩⟩
    · rfl
    · cases v <;> rfl
    · cases v <;> first | rfl | (cases w <;> first | rfl | (simp only [xi]; split <;> rfl))
  case goto a0 =>
    simp only [xi]
    cases tgtok pc a0 <;> rfl
  case iinc a0 a1 =>
    simp only [xi]
    rcases lo[a0]? with _ | _ | v
    · rfl
    · rfl
    · cases v <;> rfl
  case ifCond a0 a1 =>
    rcases st with _ | ⟨v, r⟩
    · rfl
    · cases v <;> first | rfl | (simp only [xi]; cases tgtok pc a1 <;> cases a0 <;> rfl)
  case if_icmp a0 a1 =>
    rcases st with _ | ⟨v, _ | ⟨w, r⟩⟩
    · rfl
    · cases v <;> rfl
    · cases v <;> first | rfl | (cases w <;> first | rfl | (simp only [xi]; cases tgtok pc a1 <;> cases a0 <;> rfl))
  case iaload =>
    rcases st with _ | ⟨v, _ | ⟨w, r⟩⟩
    · rfl
    · cases v <;> rfl
    · cases w
      case ref a =>
        obtain rfl := Nat.eq_of_beq_eq_true (show Nat.beq a 30 = true from hp)
        cases v <;> first | rfl | (rcases sc0 with _ | ⟨L, xs⟩
                                   · rfl
                                   · simp only [xi, dum, Nat.beq_refl, cond_true]
                                     split <;> rfl)
      all_goals cases hp
  case arraylength =>
    rcases st with _ | ⟨w, r⟩
    · rfl
    · cases w
      case ref a =>
        obtain rfl := Nat.eq_of_beq_eq_true (show Nat.beq a 30 = true from hp)
        rcases sc0 with _ | ⟨L, xs⟩ <;> rfl
      all_goals cases hp
  case ireturn =>
    rcases st with _ | ⟨v, _ | ⟨w, r⟩⟩
    · rfl
    · cases v <;> first | rfl | (rcases re0 with _ | t <;> first | rfl | (cases t <;> rfl))
    · cases v <;> rfl
  case lreturn =>
    rcases st with _ | ⟨v, _ | ⟨w, r⟩⟩
    · rfl
    · cases v <;> first | rfl | (rcases re0 with _ | t <;> first | rfl | (cases t <;> rfl))
    · cases v <;> rfl
  case return_ =>
    rcases st with _ | ⟨v, r⟩
    · rcases re0 with _ | t <;> rfl
    · rfl
  all_goals exact absurd hp (by simp [pureI])
section Road
variable {D : Cfg2} {pc pc' k kd ci na mc j n q cap : Nat} {lo lo' : List (Option Value)} {st st' : List Value} {s s' : HS} {f : Fn2} {v : Option Value} {x y : Int32} {z : St2} {o : Out2} {off : Int}
theorem stp2_p {i : Instr} (hl : lk D.1 pc = some (i, n)) (hn : lenok (ilen i) n = true) (hk : k ≤ D.2.2.2.2.2.2) (hp : pureI st i = true) : stp2 D (pc, lo, st, s, k) = lf s (setk k (xi (dum D) pc lo st M0 0 n i)) := by
  obtain ⟨t1, ca1, in1, lg1, sc1, re1, cp1⟩ := D
  have hl : lk t1 pc = some (i, n) := hl
  have hk : k ≤ cp1 := hk
  unfold stp2
  dsimp only
  rw [hl]
  dsimp only
  rw [hn, Nat.ble_eq_true_of_le hk, Bool.and_true, cond_true]
  unfold xi2
  split
  · cases hp
  · cases hp
  · rw [hp, cond_true]
    unfold dum
    rw [xi_k hp]
theorem stp2_k {t : List (Nat × Instr × Nat)} {c0 : Nat} (ht : ∀ x ∈ t, lk D.1 x.1 = some x.2) (hk : k ≤ D.2.2.2.2.2.2) {r : St2} (h : stp2 (t, [], D.2.2.1, D.2.2.2.1, D.2.2.2.2.1, D.2.2.2.2.2.1, c0) (pc, lo, st, s, 0) = some (.inl r)) : stp2 D (pc, lo, st, s, k) = some (.inl (r.1, r.2.1, r.2.2.1, r.2.2.2.1, k)) ∧ r.2.2.2.2 = 0 := by
  obtain ⟨t1, ca1, in1, lg1, sc1, re1, cp1⟩ := D
  have hk : k ≤ cp1 := hk
  have h0 := h
  unfold stp2 at h
  dsimp only at h
  split at h
  · rename_i i n hl
    have hl9 : lk t1 pc = some (i, n) := ht _ (lk_mem (show lk t pc = some (i, n) from hl))
    cases hg : (lenok (ilen i) n && Nat.ble 0 c0) with
    | false => rw [hg] at h; cases h
    | true =>
      rw [hg, cond_true] at h
      rw [Bool.and_eq_true] at hg
      unfold xi2 at h
      split at h
      · cases h
      · cases h
      · cases hp : pureI st i with
        | false => rw [hp] at h; cases h
        | true =>
          rw [hp, cond_true] at h
          rw [stp2_p (D := (t1, ca1, in1, lg1, sc1, re1, cp1)) hl9 hg.1 hk hp]
          have e1 : xi (dum (t1, ca1, in1, lg1, sc1, re1, cp1)) pc lo st M0 0 n i = putM M0 (xi (dum (t, [], in1, lg1, sc1, re1, c0)) pc lo st M0 0 n i) := xi_pure (t1 := t) (ca1 := []) (cp1 := c0) (M := M0) hp
          have e2 : xi (dum (t, [], in1, lg1, sc1, re1, c0)) pc lo st M0 0 n i = setk 0 (xi (dum (t, [], in1, lg1, sc1, re1, c0)) pc lo st M0 0 n i) := xi_k hp
          rw [e1]
          revert h e2
          generalize xi (dum (t, [], in1, lg1, sc1, re1, c0)) pc lo st M0 0 n i = w
          intro h e2
          rcases w with _ | (x | ⟨o, M9, k9⟩)
          · cases h
          · cases h
            have e3 : x.2.2.2.2 = 0 := congrArg (fun z : St => z.2.2.2.2) (Sum.inl.inj (Option.some.inj e2))
            exact ⟨rfl, e3⟩
          · cases o <;> cases h
  · cases h
theorem run2_k {t : List (Nat × Instr × Nat)} {c0 : Nat} (ht : ∀ x ∈ t, lk D.1 x.1 = some x.2) (hk : k ≤ D.2.2.2.2.2.2) : ∀ (n : Nat) (x r : St2), x.2.2.2.2 = 0 → run2 (t, [], D.2.2.1, D.2.2.2.1, D.2.2.2.2.1, D.2.2.2.2.2.1, c0) n x = some (.inl r) → run2 D n (x.1, x.2.1, x.2.2.1, x.2.2.2.1, k) = some (.inl (r.1, r.2.1, r.2.2.1, r.2.2.2.1, k))
  | 0, x, r, _, h => by cases h; rfl
  | n + 1, (pc, lo, st, s, k0), r, h0, h => by
    have h0 : k0 = 0 := h0
    subst h0
    unfold run2 at h ⊢
    split at h
    · rename_i y hy
      obtain ⟨e1, e2⟩ := stp2_k ht hk hy
      rw [e1]
      exact run2_k ht hk n y r e2 h
    · rename_i hne
      exact absurd h (hne r)
theorem R2.kk {t : List (Nat × Instr × Nat)} {c0 : Nat} (ht : ∀ x ∈ t, lk D.1 x.1 = some x.2) (n : Nat) (h : run2 (t, [], D.2.2.1, D.2.2.2.1, D.2.2.2.2.1, D.2.2.2.2.2.1, c0) n (pc, lo, st, s, 0) = some (.inl (pc', lo', st', s', 0))) (hk : k ≤ D.2.2.2.2.2.2) (g : R2 D (pc', lo', st', s', k) z) : R2 D (pc, lo, st, s, k) z :=
  R2.go n (run2_k ht hk n _ _ rfl h) g
theorem R2.kS (hl : lk D.1 pc = some (.invokestatic j, 3)) (hc : lk D.2.1 j = some (kd, ci, na, mc, f)) (hg : (Nat.ble na st.length && Nat.ble (catS (st.drop na)) 8 && Nat.beq (kd / 2) 0) = true) (hk : k + mc ≤ D.2.2.2.2.2.2) (hf : f (st.take na).reverse s = some (.inl v, s')) (h : R2 D (pc + 3, lo, v.toList ++ st.drop na, s', k + mc) z) : R2 D (pc, lo, st, s, k) z :=
  R2.cS hl (Nat.ble_eq_true_of_le (by omega)) hc (by rw [hg, Nat.ble_eq_true_of_le hk]; rfl) hf h
theorem R2.kV (hl : lk D.1 pc = some (.invokevirtual j, 3)) (hc : lk D.2.1 j = some (kd, ci, na, mc, f)) (hg : (Nat.ble na st.length && Nat.ble (catS (st.drop na)) 8 && Nat.beq (kd / 2) 1) = true) (hr : rcv csF 1 ci (st.take na).reverse = true) (hk : k + mc ≤ D.2.2.2.2.2.2) (hf : f (st.take na).reverse s = some (.inl v, s')) (h : R2 D (pc + 3, lo, v.toList ++ st.drop na, s', k + mc) z) : R2 D (pc, lo, st, s, k) z :=
  R2.cV hl (Nat.ble_eq_true_of_le (by omega)) hc (by rw [hg, Nat.ble_eq_true_of_le hk]; rfl) hr hf h
theorem R2.rem (hl : lk D.1 pc = some (.irem, 1)) (hy : ¬ y = 0) (hk : k ≤ D.2.2.2.2.2.2) (g : R2 D (pc + 1, lo, .int (x - x / y * y) :: st, s, k) z) : R2 D (pc, lo, .int y :: .int x :: st, s, k) z :=
  R2.go 1 (run2_1 ((stp2_p hl rfl hk rfl).trans (by
    show lf s (setk k (if y = 0 then none else _)) = _
    rw [if_neg hy]
    rfl))) g
theorem R2.dvd (hl : lk D.1 pc = some (.idiv, 1)) (hy : ¬ y = 0) (hk : k ≤ D.2.2.2.2.2.2) (g : R2 D (pc + 1, lo, .int (x / y) :: st, s, k) z) : R2 D (pc, lo, .int y :: .int x :: st, s, k) z :=
  R2.go 1 (run2_1 ((stp2_p hl rfl hk rfl).trans (by
    show lf s (setk k (if y = 0 then none else _)) = _
    rw [if_neg hy]
    rfl))) g
theorem R2.ial {L : Nat} {xs : Nat → Int32} (hl : lk D.1 pc = some (.iaload, 1)) (hs : D.2.2.2.2.1 = some (L, xs)) (hy : inb y L = true) (hk : k ≤ D.2.2.2.2.2.2) (g : R2 D (pc + 1, lo, .int (xs (ix y)) :: st, s, k) z) : R2 D (pc, lo, .int y :: .ref 30 :: st, s, k) z :=
  R2.go 1 (run2_1 ((stp2_p hl rfl hk rfl).trans (by
    show lf s (setk k (match D.2.2.2.2.1 with | some (L, xs) => (if inb y L = true then _ else none) | none => none)) = _
    rw [hs]
    dsimp only
    rw [if_pos hy]
    rfl))) g
theorem R2.aln {L : Nat} {xs : Nat → Int32} (hl : lk D.1 pc = some (.arraylength, 1)) (hs : D.2.2.2.2.1 = some (L, xs)) (hk : k ≤ D.2.2.2.2.2.2) (g : R2 D (pc + 1, lo, .int (ii L) :: st, s, k) z) : R2 D (pc, lo, .ref 30 :: st, s, k) z :=
  R2.go 1 (run2_1 ((stp2_p hl rfl hk rfl).trans (by
    show lf s (setk k (match D.2.2.2.2.1 with | some (L, _) => _ | none => none)) = _
    rw [hs]
    rfl))) g
theorem E2.kr (hl : lk D.1 pc = some (.ireturn, 1)) (hr : D.2.2.2.2.2.1 = some .boolean) (hk : k ≤ D.2.2.2.2.2.2) : E2 D (pc, lo, [.int (1 : Int32)], s, k) (.inl (some (.int 1)), s, k) :=
  E2.fin 1 (run2_1e ((stp2_p hl rfl hk rfl).trans (by
    obtain ⟨t1, ca1, in1, lg1, sc1, re1, cp1⟩ := D
    have hr : re1 = some .boolean := hr
    subst hr
    rfl)))
end Road
