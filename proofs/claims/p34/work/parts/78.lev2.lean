/-! A MACHINE OVER THE HOUSE ITSELF: its memory is what the house is; a call's answer is that of p_* -/
abbrev St2 : Type := Nat × List (Option Value) × List Value × HS × Nat
abbrev Fn2 : Type := List Value → HS → Option Ans
abbrev Call2 : Type := Nat × Nat × Nat × Nat × Fn2
abbrev Out2 : Type := Res2 × HS × Nat
/-- code, calls, ints, longs, the script, the kind of answer, how many new cells -/
abbrev Cfg2 : Type := List (Nat × Instr × Nat) × List (Nat × Call2) × List (Nat × Int32) × List (Nat × Int64) × Option (Nat × (Nat → Int32)) × Option FieldType × Nat
def dum (D : Cfg2) : Cfg := (D.1, [], [], [], D.2.2.1, D.2.2.2.1, [], [], D.2.2.2.2.1, D.2.2.2.2.2.1, D.2.2.2.2.2.2)
/-- instructions that look at no cell but the script -/
def pureI (st : List Value) : Instr → Bool
  | .iaload => (match st with | _ :: .ref a :: _ => Nat.beq a 30 | _ => false)
  | .arraylength => (match st with | .ref a :: _ => Nat.beq a 30 | _ => false)
  | .iadd | .isub | .ineg | .imul | .iand | .ior | .ixor | .ishl | .iushr | .idiv | .irem | .ladd | .lsub | .lmul | .land | .lor | .lxor | .lshl | .lushr | .lcmp | .i2l | .l2i | .dup | .ireturn | .lreturn | .return_ | .iconst _ | .bipush _ | .sipush _ | .lconst _ | .ldc _ | .ldc_w _ | .ldc2_w _ | .iload_n _ | .iload _ | .lload_n _ | .lload _ | .aload_n _ | .aload _ | .istore_n _ | .istore _ | .astore_n _ | .astore _ | .lstore_n _ | .lstore _ | .goto _ | .iinc _ _ | .ifCond _ _ | .if_icmp _ _ => true
  | _ => false
def lf (s : HS) : Option (St ⊕ Ou) → Option (St2 ⊕ Out2)
  | some (.inl x) => some (.inl (x.1, x.2.1, x.2.2.1, s, x.2.2.2.2))
  | some (.inr (.inl v, _, k)) => some (.inr (.inl v, s, k))
  | _ => none
def dc2 (D : Cfg2) (mk : Nat) (e : Call2) (pc : Nat) (lo : List (Option Value)) (st : List Value) (s : HS) (k : Nat) : Option (St2 ⊕ Out2) :=
  bif Nat.ble e.2.2.1 st.length && Nat.ble (catS (st.drop e.2.2.1)) 8 && Nat.beq (e.1 / 2) mk && Nat.ble (k + e.2.2.2.1) D.2.2.2.2.2.2 then
    bif rcv csF mk e.2.1 (st.take e.2.2.1).reverse then
      (match e.2.2.2.2 (st.take e.2.2.1).reverse s with
       | some (.inl v, s') => some (.inl (pc + 3, lo, v.toList ++ st.drop e.2.2.1, s', k + e.2.2.2.1))
       | some (.inr x, s') => some (.inr (.inr x, s', k + e.2.2.2.1))
       | none => none)
    else none
  else none
def xi2 (D : Cfg2) (pc : Nat) (lo : List (Option Value)) (st : List Value) (s : HS) (k : Nat) (n : Nat) (i : Instr) : Option (St2 ⊕ Out2) := match i with
  | .invokestatic j => (match lk D.2.1 j with | some e => dc2 D 0 e pc lo st s k | none => none)
  | .invokevirtual j => (match lk D.2.1 j with | some e => dc2 D 1 e pc lo st s k | none => none)
  | i => bif pureI st i then lf s (xi (dum D) pc lo st M0 k n i) else none
def stp2 (D : Cfg2) (x : St2) : Option (St2 ⊕ Out2) := match lk D.1 x.1 with
  | some (i, n) => bif lenok (ilen i) n && Nat.ble x.2.2.2.2 D.2.2.2.2.2.2 then xi2 D x.1 x.2.1 x.2.2.1 x.2.2.2.1 x.2.2.2.2 n i else none
  | none => none
def run2 (D : Cfg2) : Nat → St2 → Option (St2 ⊕ Out2)
  | 0, x => some (.inl x)
  | n + 1, x => match stp2 D x with
    | some (.inl y) => run2 D n y
    | r => r
def putM (M : Mem) : Option (St ⊕ Ou) → Option (St ⊕ Ou)
  | some (.inl x) => some (.inl (x.1, x.2.1, x.2.2.1, M, x.2.2.2.2))
  | some (.inr (r, _, k)) => some (.inr (r, M, k))
  | none => none
set_option maxHeartbeats 4000000 in
theorem xi_pure {t0 t1 : List (Nat × Instr × Nat)} {cs0 : List Nat} {fl0 : List (Nat × Nat × Nat)} {ca0 : List (Nat × CallE)} {ca1 : List (Nat × Call2)} {in0 : List (Nat × Int32)} {lg0 : List (Nat × Int64)} {ex0 : List (Nat × String × Nat × Nat × Nat × String)} {hs0 : List (Nat × Nat × Nat × Nat × String)} {sc0 : Option (Nat × (Nat → Int32))} {re0 : Option FieldType} {cp0 cp1 : Nat} {pc k n : Nat} {lo : List (Option Value)} {st : List Value} {M : Mem} {i : Instr} (hp : pureI st i = true) :
    xi (t0, cs0, fl0, ca0, in0, lg0, ex0, hs0, sc0, re0, cp0) pc lo st M k n i = putM M (xi (dum (t1, ca1, in0, lg0, sc0, re0, cp1)) pc lo st M0 k n i) := by
  cases i
  case iconst a0 => rfl
  case bipush a0 => rfl
  case sipush a0 => rfl
  case lconst a0 => rfl
  case ldc a0 =>
    simp only [xi, dum]
    cases lk in0 a0 <;> rfl
  case ldc_w a0 =>
    simp only [xi, dum]
    cases lk in0 a0 <;> rfl
  case ldc2_w a0 =>
    simp only [xi, dum]
    cases lk lg0 a0 <;> rfl
  case iload_n a0 =>
    simp only [xi]
    rcases lo[(a0 : Nat)]? with _ | _ | v
    · rfl
    · rfl
    · cases v <;> rfl
  case iload a0 =>
    simp only [xi]
    rcases lo[a0]? with _ | _ | v
    · rfl
    · rfl
    · cases v <;> rfl
  case lload_n a0 =>
    simp only [xi]
    rcases lo[(a0 : Nat)]? with _ | _ | v
    · rfl
    · rfl
    · cases v <;> rfl
  case lload a0 =>
    simp only [xi]
    rcases lo[a0]? with _ | _ | v
    · rfl
    · rfl
    · cases v <;> rfl
  case aload_n a0 =>
    simp only [xi]
    rcases lo[(a0 : Nat)]? with _ | _ | v
    · rfl
    · rfl
    · cases v <;> rfl
  case aload a0 =>
    simp only [xi]
    rcases lo[a0]? with _ | _ | v
    · rfl
    · rfl
    · cases v <;> rfl
  case istore_n a0 =>
    rcases st with _ | ⟨v, r⟩
    · rfl
    · cases v <;> first | rfl | (simp only [xi]; cases Nat.blt (a0 : Nat) lo.length <;> rfl)
  case istore a0 =>
    rcases st with _ | ⟨v, r⟩
    · rfl
    · cases v <;> first | rfl | (simp only [xi]; cases Nat.blt a0 lo.length <;> rfl)
  case astore_n a0 =>
    rcases st with _ | ⟨v, r⟩
    · rfl
    · cases v <;> first | rfl | (simp only [xi]; cases Nat.blt (a0 : Nat) lo.length <;> rfl)
  case astore a0 =>
    rcases st with _ | ⟨v, r⟩
    · rfl
    · cases v <;> first | rfl | (simp only [xi]; cases Nat.blt a0 lo.length <;> rfl)
  case lstore_n a0 =>
    rcases st with _ | ⟨v, r⟩
    · rfl
    · cases v <;> first | rfl | (simp only [xi]; cases Nat.blt ((a0 : Nat) + 1) lo.length <;> rfl)
  case lstore a0 =>
    rcases st with _ | ⟨v, r⟩
    · rfl
    · cases v <;> first | rfl | (simp only [xi]; cases Nat.blt (a0 + 1) lo.length <;> rfl)
  case iadd =>
    rcases st with _ | ⟨v, _ | ⟨w, r⟩⟩
    · rfl
    · cases v <;> rfl
    · cases v <;> first | rfl | (cases w <;> rfl)
  case isub =>
    rcases st with _ | ⟨v, _ | ⟨w, r⟩⟩
    · rfl
    · cases v <;> rfl
    · cases v <;> first | rfl | (cases w <;> rfl)
  case imul =>
    rcases st with _ | ⟨v, _ | ⟨w, r⟩⟩
    · rfl
    · cases v <;> rfl
    · cases v <;> first | rfl | (cases w <;> rfl)
  case iand =>
    rcases st with _ | ⟨v, _ | ⟨w, r⟩⟩
    · rfl
    · cases v <;> rfl
    · cases v <;> first | rfl | (cases w <;> rfl)
  case ior =>
    rcases st with _ | ⟨v, _ | ⟨w, r⟩⟩
    · rfl
    · cases v <;> rfl
    · cases v <;> first | rfl | (cases w <;> rfl)
  case ixor =>
    rcases st with _ | ⟨v, _ | ⟨w, r⟩⟩
    · rfl
    · cases v <;> rfl
    · cases v <;> first | rfl | (cases w <;> rfl)
  case ishl =>
    rcases st with _ | ⟨v, _ | ⟨w, r⟩⟩
    · rfl
    · cases v <;> rfl
    · cases v <;> first | rfl | (cases w <;> rfl)
  case iushr =>
    rcases st with _ | ⟨v, _ | ⟨w, r⟩⟩
    · rfl
    · cases v <;> rfl
    · cases v <;> first | rfl | (cases w <;> rfl)
  case ladd =>
    rcases st with _ | ⟨v, _ | ⟨w, r⟩⟩
    · rfl
    · cases v <;> rfl
    · cases v <;> first | rfl | (cases w <;> rfl)
  case lsub =>
    rcases st with _ | ⟨v, _ | ⟨w, r⟩⟩
    · rfl
    · cases v <;> rfl
    · cases v <;> first | rfl | (cases w <;> rfl)
  case lmul =>
    rcases st with _ | ⟨v, _ | ⟨w, r⟩⟩
    · rfl
    · cases v <;> rfl
    · cases v <;> first | rfl | (cases w <;> rfl)
  case land =>
    rcases st with _ | ⟨v, _ | ⟨w, r⟩⟩
    · rfl
    · cases v <;> rfl
    · cases v <;> first | rfl | (cases w <;> rfl)
  case lor =>
    rcases st with _ | ⟨v, _ | ⟨w, r⟩⟩
    · rfl
    · cases v <;> rfl
    · cases v <;> first | rfl | (cases w <;> rfl)
  case lxor =>
    rcases st with _ | ⟨v, _ | ⟨w, r⟩⟩
    · rfl
    · cases v <;> rfl
    · cases v <;> first | rfl | (cases w <;> rfl)
  case lshl =>
    rcases st with _ | ⟨v, _ | ⟨w, r⟩⟩
    · rfl
    · cases v <;> rfl
    · cases v <;> first | rfl | (cases w <;> rfl)
  case lushr =>
    rcases st with _ | ⟨v, _ | ⟨w, r⟩⟩
    · rfl
    · cases v <;> rfl
    · cases v <;> first | rfl | (cases w <;> rfl)
  case lcmp =>
    rcases st with _ | ⟨v, _ | ⟨w, r⟩⟩
    · rfl
    · cases v <;> rfl
    · cases v <;> first | rfl | (cases w <;> rfl)
  case ineg =>
    rcases st with _ | ⟨v, r⟩
    · rfl
    · cases v <;> rfl
  case i2l =>
    rcases st with _ | ⟨v, r⟩
    · rfl
    · cases v <;> rfl
  case l2i =>
    rcases st with _ | ⟨v, r⟩
    · rfl
    · cases v <;> rfl
  case dup =>
    rcases st with _ | ⟨v, r⟩
    · rfl
    · cases v <;> rfl
  case idiv =>
    rcases st with _ | ⟨v, _ | ⟨w, r⟩⟩
    · rfl
    · cases v <;> rfl
    · cases v <;> first | rfl | (cases w <;> first | rfl | (simp only [xi]; split <;> rfl))
  case irem =>
    rcases st with _ | ⟨v, _ | ⟨w, r⟩⟩
    · rfl
    · cases v <;> rfl
    · cases v <;> first | rfl | (cases w <;> first | rfl | (simp only [xi]; split <;> rfl))
  case goto a0 =>
    simp only [xi]
    cases tgtok pc a0 <;> rfl
  case iinc a0 a1 =>
    simp only [xi]
    rcases lo[a0]? with _ | _ | v
    · rfl
    · rfl
    · cases v <;> rfl
  case ifCond a0 a1 =>
    rcases st with _ | ⟨v, r⟩
    · rfl
    · cases v <;> first | rfl | (simp only [xi]; cases tgtok pc a1 <;> cases a0 <;> rfl)
  case if_icmp a0 a1 =>
    rcases st with _ | ⟨v, _ | ⟨w, r⟩⟩
    · rfl
    · cases v <;> rfl
    · cases v <;> first | rfl | (cases w <;> first | rfl | (simp only [xi]; cases tgtok pc a1 <;> cases a0 <;> rfl))
  case iaload =>
    rcases st with _ | ⟨v, _ | ⟨w, r⟩⟩
    · rfl
    · cases v <;> rfl
    · cases w
      case ref a =>
        obtain rfl := Nat.eq_of_beq_eq_true (show Nat.beq a 30 = true from hp)
        cases v <;> first | rfl | (rcases sc0 with _ | ⟨L, xs⟩
                                   · rfl
                                   · simp only [xi, dum, Nat.beq_refl, cond_true]
                                     split <;> rfl)
      all_goals cases hp
  case arraylength =>
    rcases st with _ | ⟨w, r⟩
    · rfl
    · cases w
      case ref a =>
        obtain rfl := Nat.eq_of_beq_eq_true (show Nat.beq a 30 = true from hp)
        rcases sc0 with _ | ⟨L, xs⟩ <;> rfl
      all_goals cases hp
  case ireturn =>
    rcases st with _ | ⟨v, _ | ⟨w, r⟩⟩
    · rfl
    · cases v <;> first | rfl | (rcases re0 with _ | t <;> first | rfl | (cases t <;> rfl))
    · cases v <;> rfl
  case lreturn =>
    rcases st with _ | ⟨v, _ | ⟨w, r⟩⟩
    · rfl
    · cases v <;> first | rfl | (rcases re0 with _ | t <;> first | rfl | (cases t <;> rfl))
    · cases v <;> rfl
  case return_ =>
    rcases st with _ | ⟨v, r⟩
    · rcases re0 with _ | t <;> rfl
    · rfl
  all_goals exact absurd hp (by simp [pureI])
/-- a function of the class's cells goes with a function of the house -/
def Sim (f : Fn) (g : Fn2) : Prop := ∀ (av : List Value) (M : Mem) (s : HS) (x : Ans), Rel M s → g av s = some x → Go (f av M) x
def Sim2 (C : Cfg) (D : Cfg2) : Prop := C.code = D.1 ∧ C.ints = D.2.2.1 ∧ C.longs = D.2.2.2.1 ∧ C.scr = D.2.2.2.2.1 ∧ C.ret = D.2.2.2.2.2.1 ∧ C.cap = D.2.2.2.2.2.2 ∧ C.hs = [] ∧ C.cs = csF ∧ ∀ j e, lk D.2.1 j = some e → ∃ f, lk C.calls j = some (e.1, e.2.1, e.2.2.1, e.2.2.2.1, f) ∧ Sim f e.2.2.2.2
def Lft (y : Option (St ⊕ Ou)) : St2 ⊕ Out2 → Prop
  | .inl z => ∃ M' : Mem, y = some (.inl (z.1, z.2.1, z.2.2.1, M', z.2.2.2.2)) ∧ Rel M' z.2.2.2.1
  | .inr z => ∃ M' : Mem, y = some (.inr (toR z.1, M', z.2.2)) ∧ Rel M' z.2.1
section Lev
variable {C : Cfg} {D : Cfg2} {M : Mem} {s : HS} {pc k n : Nat} {lo : List (Option Value)} {st : List Value} {r : St2 ⊕ Out2}
theorem dc2_sim (hS : Sim2 C D) (hR : Rel M s) {j mk : Nat} {e : Call2} (he : lk D.2.1 j = some e) (h : dc2 D mk e pc lo st s k = some r) : ∃ f, lk C.calls j = some (e.1, e.2.1, e.2.2.1, e.2.2.2.1, f) ∧ Lft (doCall C mk (e.1, e.2.1, e.2.2.1, e.2.2.2.1, f) pc lo st M k) r := by
  obtain ⟨-, -, -, -, -, hcap, hhs, hcs, hca⟩ := hS
  obtain ⟨f, hf, hsim⟩ := hca j e he
  refine ⟨f, hf, ?_⟩
  unfold dc2 at h
  cases hg : (Nat.ble e.2.2.1 st.length && Nat.ble (catS (st.drop e.2.2.1)) 8 && Nat.beq (e.1 / 2) mk && Nat.ble (k + e.2.2.2.1) D.2.2.2.2.2.2) with
  | false => rw [hg] at h; cases h
  | true =>
    rw [hg, cond_true] at h
    cases hr : rcv csF mk e.2.1 (st.take e.2.2.1).reverse with
    | false => rw [hr] at h; cases h
    | true =>
      rw [hr, cond_true] at h
      have hg' : (Nat.ble e.2.2.1 st.length && Nat.ble (catS (st.drop e.2.2.1)) 8 && Nat.beq (e.1 / 2) mk && Nat.ble (k + e.2.2.2.1) C.cap) = true := by rw [hcap]; exact hg
      have hr' : rcv C.cs mk e.2.1 (st.take e.2.2.1).reverse = true := by rw [hcs]; exact hr
      split at h
      · rename_i v s' hx
        cases h
        obtain ⟨M', e1, e2⟩ := hsim _ M s _ hR hx
        exact ⟨M', call_ret hg' hr' e1, e2⟩
      · rename_i x s' hx
        cases h
        obtain ⟨M', e1, e2⟩ := hsim _ M s _ hR hx
        exact ⟨M', call_thr hg' hr' e1 hhs, e2⟩
      · cases h
theorem stp2_sim (hS : Sim2 C D) (hR : Rel M s) (h : stp2 D (pc, lo, st, s, k) = some r) : Lft (stp C (pc, lo, st, M, k)) r := by
  have hS0 := hS
  obtain ⟨t0, cs0, fl0, ca0, in0, lg0, ex0, hs0, sc0, re0, cp0⟩ := C
  obtain ⟨t1, ca1, in1, lg1, sc1, re1, cp1⟩ := D
  obtain ⟨h1, h2, h3, h4, h5, h6, -, -, -⟩ := hS
  have h1 : t0 = t1 := h1
  have h2 : in0 = in1 := h2
  have h3 : lg0 = lg1 := h3
  have h4 : sc0 = sc1 := h4
  have h5 : re0 = re1 := h5
  have h6 : cp0 = cp1 := h6
  subst h1; subst h2; subst h3; subst h4; subst h5; subst h6
  unfold stp2 at h
  dsimp only at h
  unfold stp
  dsimp only
  split at h
  · rename_i i n hl
    have hl' : lk t0 pc = some (i, n) := hl
    show Lft (match lk t0 pc with | some (i, n) => _ | none => none) r
    rw [hl']
    dsimp only
    cases hg : (lenok (ilen i) n && Nat.ble k cp0) with
    | false => rw [hg] at h; cases h
    | true =>
      rw [hg, cond_true] at h
      rw [cond_true]
      unfold xi2 at h
      split at h
      · rename_i j
        split at h
        · rename_i e he
          obtain ⟨f, q1, q2⟩ := dc2_sim (mk := 0) hS0 hR he h
          have q1' : lk ca0 j = some (e.1, e.2.1, e.2.2.1, e.2.2.2.1, f) := q1
          show Lft (match lk ca0 j with | some e => doCall _ 0 e pc lo st M k | none => none) r
          rw [q1']
          exact q2
        · cases h
      · rename_i j
        split at h
        · rename_i e he
          obtain ⟨f, q1, q2⟩ := dc2_sim (mk := 1) hS0 hR he h
          have q1' : lk ca0 j = some (e.1, e.2.1, e.2.2.1, e.2.2.2.1, f) := q1
          show Lft (match lk ca0 j with | some e => doCall _ 1 e pc lo st M k | none => none) r
          rw [q1']
          exact q2
        · cases h
      · cases hp : pureI st i with
        | false => rw [hp] at h; cases h
        | true =>
          rw [hp, cond_true] at h
          rw [xi_pure (t1 := t0) (ca1 := ca1) (cp1 := cp0) hp]
          revert h
          generalize xi (dum (t0, ca1, in0, lg0, sc0, re0, cp0)) pc lo st M0 k n i = y
          intro h
          rcases y with _ | (x | ⟨o, M9, k9⟩)
          · cases h
          · cases h; exact ⟨M, rfl, hR⟩
          · cases o with
            | inl v => cases h; exact ⟨M, rfl, hR⟩
            | inr E => cases h
  · cases h
theorem run2_sim (hS : Sim2 C D) : ∀ (N : Nat) (pc : Nat) (lo : List (Option Value)) (st : List Value) (M : Mem) (s : HS) (k : Nat) (r : St2 ⊕ Out2), Rel M s → run2 D N (pc, lo, st, s, k) = some r → Lft (run C N (pc, lo, st, M, k)) r
  | 0, pc, lo, st, M, s, k, r, hR, h => by cases h; exact ⟨M, rfl, hR⟩
  | N + 1, pc, lo, st, M, s, k, r, hR, h => by
    unfold run2 at h
    unfold run
    split at h
    · rename_i y hy
      obtain ⟨M', e1, e2⟩ := stp2_sim hS hR hy
      rw [e1]
      exact run2_sim hS N _ _ _ M' _ _ r e2 h
    · rename_i hne
      have hl := stp2_sim hS hR h
      cases r with
      | inl z => exact absurd h (hne z)
      | inr z =>
        obtain ⟨M', e1, e2⟩ := hl
        rw [e1]
        exact ⟨M', rfl, e2⟩
/-! runs put together -/
def R2 (D : Cfg2) (x y : St2) : Prop := ∃ n, run2 D n x = some (.inl y)
def E2 (D : Cfg2) (x : St2) (o : Out2) : Prop := ∃ n, run2 D n x = some (.inr o)
theorem run2_app : ∀ (a b : Nat) (x y : St2) (r : Option (St2 ⊕ Out2)), run2 D a x = some (.inl y) → run2 D b y = r → run2 D (a + b) x = r
  | 0, b, x, y, r, h, hb => by cases h; rw [Nat.zero_add]; exact hb
  | a + 1, b, x, y, r, h, hb => by
    unfold run2 at h
    rw [Nat.succ_add]
    unfold run2
    split at h
    · rename_i z hz
      exact run2_app a b z y r h hb
    · rename_i hne
      exact absurd h (hne y)
theorem R2.rf (x : St2) : R2 D x x := ⟨0, rfl⟩
theorem R2.tr {x y z : St2} (h1 : R2 D x y) (h2 : R2 D y z) : R2 D x z := by
  obtain ⟨a, ha⟩ := h1
  obtain ⟨b, hb⟩ := h2
  exact ⟨a + b, run2_app a b x y _ ha hb⟩
theorem R2.en {x y : St2} {o : Out2} (h1 : R2 D x y) (h2 : E2 D y o) : E2 D x o := by
  obtain ⟨a, ha⟩ := h1
  obtain ⟨b, hb⟩ := h2
  exact ⟨a + b, run2_app a b x y _ ha hb⟩
theorem R2.go {x y z : St2} (n : Nat) (h : run2 D n x = some (.inl y)) (k : R2 D y z) : R2 D x z := R2.tr ⟨n, h⟩ k
theorem E2.go {x y : St2} {o : Out2} (n : Nat) (h : run2 D n x = some (.inl y)) (k : E2 D y o) : E2 D x o := R2.en ⟨n, h⟩ k
theorem R2.eq {x y : St2} (h : x = y) : R2 D x y := h ▸ R2.rf x
/-- a run that ends, ends so however long it is watched -/
theorem run_end : ∀ (n m : Nat) (x : St) (a b : Ou), run C n x = some (.inr a) → run C m x = some (.inr b) → a = b
  | 0, _, _, _, _, h, _ => by cases h
  | _ + 1, 0, _, _, _, _, h => by cases h
  | n + 1, m + 1, x, a, b, h1, h2 => by
    unfold run at h1 h2
    split at h1
    · rename_i y hy
      rw [hy] at h2
      exact run_end n m y a b h1 h2
    · rename_i hne
      rw [h1] at h2
      cases h2
      rfl
end Lev
/-- a method as its machine's run -/
noncomputable def fnR (C : Cfg) (nL : Nat) : Fn := fun av M => bif nodbl av && Nat.ble (lo0 av).length nL then
  @dite (Option (Res × Mem)) (∃ r : Res × Mem, ∃ N k, run C N (ini nL av M) = some (.inr (r.1, r.2, k))) (Classical.propDecidable _) (fun h => some (Classical.choose h)) (fun _ => none) else none
theorem fnR_ok {C : Cfg} {nL : Nat} (av : List Value) (M : Mem) (o : Res) (M' : Mem) (h : fnR C nL av M = some (o, M')) : nodbl av = true ∧ (lo0 av).length ≤ nL ∧ Rend C (ini nL av M) o M' := by
  unfold fnR at h
  cases hg : (nodbl av && Nat.ble (lo0 av).length nL) with
  | false => rw [hg] at h; cases h
  | true =>
    rw [hg, cond_true] at h
    rw [Bool.and_eq_true] at hg
    by_cases c : ∃ r : Res × Mem, ∃ N k, run C N (ini nL av M) = some (.inr (r.1, r.2, k))
    · rw [dif_pos c] at h
      have h9 := Classical.choose_spec c
      rw [Option.some.inj h] at h9
      obtain ⟨N, k, hr⟩ := h9
      exact ⟨hg.1, Nat.le_of_ble_eq_true hg.2, Rend.run N hr⟩
    · rw [dif_neg c] at h; cases h
theorem fnR_eq {C : Cfg} {nL N k : Nat} {av : List Value} {M M' : Mem} {o : Res} (h1 : nodbl av = true) (h2 : (lo0 av).length ≤ nL) (h : run C N (ini nL av M) = some (.inr (o, M', k))) : fnR C nL av M = some (o, M') := by
  unfold fnR
  rw [h1, Nat.ble_eq_true_of_le h2, Bool.and_true, cond_true]
  have c : ∃ r : Res × Mem, ∃ N k, run C N (ini nL av M) = some (.inr (r.1, r.2, k)) := ⟨(o, M'), N, k, h⟩
  rw [dif_pos c]
  obtain ⟨N9, k9, hr⟩ := Classical.choose_spec c
  have e := run_end _ _ _ _ _ hr h
  have e1 : (Classical.choose c).1 = o := congrArg (fun z => z.1) e
  have e2 : (Classical.choose c).2 = M' := congrArg (fun z => z.2.1) e
  rw [← e1, ← e2]
def stI (nL : Nat) (av : List Value) (s : HS) : St2 := (0, lo0 av ++ List.replicate (nL - (lo0 av).length) none, [], s, 0)
theorem fnR_sim {C : Cfg} {D : Cfg2} (hS : Sim2 C D) {nL k : Nat} {av : List Value} {M : Mem} {s s' : HS} {o : Res2} (hR : Rel M s) (h1 : nodbl av = true) (h2 : (lo0 av).length ≤ nL) (h : E2 D (stI nL av s) (o, s', k)) : Go (fnR C nL av M) (o, s') := by
  obtain ⟨N, hN⟩ := h
  obtain ⟨M', e1, e2⟩ := run2_sim hS N _ _ _ M _ _ _ hR hN
  exact ⟨M', fnR_eq h1 h2 e1, e2⟩
/-- .. run for N steps, over the house -/
def fnM (D : Cfg2) (nL N : Nat) : Fn2 := fun av s => bif nodbl av && Nat.ble (lo0 av).length nL then (match run2 D N (stI nL av s) with | some (.inr r) => some (r.1, r.2.1) | _ => none) else none
theorem fnM_sim {C : Cfg} {D : Cfg2} (hS : Sim2 C D) (nL N : Nat) : Sim (fnR C nL) (fnM D nL N) := by
  intro av M s x hR h
  unfold fnM at h
  cases hg : (nodbl av && Nat.ble (lo0 av).length nL) with
  | false => rw [hg] at h; cases h
  | true =>
    rw [hg, cond_true] at h
    rw [Bool.and_eq_true] at hg
    split at h
    · rename_i r hr
      cases h
      exact fnR_sim hS (k := r.2.2) hR hg.1 (Nat.le_of_ble_eq_true hg.2) ⟨N, hr⟩
    · cases h
def q_group : Fn2 := fun av s => match av with
  | [.ref r0, .int v1, .int v2] => bif Nat.beq r0 0 then some (p_group v1 v2 s) else none
  | _ => none
theorem sim_group : Sim fn_X7_group q_group := by
  intro av M s x hR h
  unfold q_group at h
  split at h
  · rename_i r0 v1 v2
    unfold fn_X7_group
    dsimp only
    cases hb : Nat.beq r0 0 with
    | false => rw [hb] at h; cases h
    | true =>
      rw [hb] at h
      cases h
      exact go_group hR v1 v2
  · cases h
def q_add : Fn2 := fun av s => match av with
  | [.ref r0, .int v1, .int v2, .int v3] => bif Nat.beq r0 0 then some (p_add v1 v2 v3 s) else none
  | _ => none
theorem sim_add : Sim fn_X7_add q_add := by
  intro av M s x hR h
  unfold q_add at h
  split at h
  · rename_i r0 v1 v2 v3
    unfold fn_X7_add
    dsimp only
    cases hb : Nat.beq r0 0 with
    | false => rw [hb] at h; cases h
    | true =>
      rw [hb] at h
      cases h
      exact go_add hR v1 v2 v3
  · cases h
def q_set : Fn2 := fun av s => match av with
  | [.ref r0, .long v1] => bif Nat.beq r0 0 then some (p_set v1 s) else none
  | _ => none
theorem sim_set : Sim fn_X7_set q_set := by
  intro av M s x hR h
  unfold q_set at h
  split at h
  · rename_i r0 v1
    unfold fn_X7_set
    dsimp only
    cases hb : Nat.beq r0 0 with
    | false => rw [hb] at h; cases h
    | true =>
      rw [hb] at h
      cases h
      exact go_set hR v1
  · cases h
def q_combine : Fn2 := fun av s => match av with
  | [.ref r0, .int v1, .int v2, .int v3] => bif Nat.beq r0 0 then some (p_combine v1 v2 v3 s) else none
  | _ => none
theorem sim_combine : Sim fn_X7_combine q_combine := by
  intro av M s x hR h
  unfold q_combine at h
  split at h
  · rename_i r0 v1 v2 v3
    unfold fn_X7_combine
    dsimp only
    cases hb : Nat.beq r0 0 with
    | false => rw [hb] at h; cases h
    | true =>
      rw [hb] at h
      cases h
      exact go_combine hR v1 v2 v3
  · cases h
def q_move : Fn2 := fun av s => match av with
  | [.ref r0, .int v1, .int v2, .int v3] => bif Nat.beq r0 0 then some (p_move v1 v2 v3 s) else none
  | _ => none
theorem sim_move : Sim fn_X7_move q_move := by
  intro av M s x hR h
  unfold q_move at h
  split at h
  · rename_i r0 v1 v2 v3
    unfold fn_X7_move
    dsimp only
    cases hb : Nat.beq r0 0 with
    | false => rw [hb] at h; cases h
    | true =>
      rw [hb] at h
      cases h
      exact go_move hR v1 v2 v3
  · cases h
def q_elements : Fn2 := fun av s => match av with
  | [.ref r0, .int v1] => bif Nat.beq r0 0 then some (p_elements v1 s) else none
  | _ => none
theorem sim_elements : Sim fn_X7_elements q_elements := by
  intro av M s x hR h
  unfold q_elements at h
  split at h
  · rename_i r0 v1
    unfold fn_X7_elements
    dsimp only
    cases hb : Nat.beq r0 0 with
    | false => rw [hb] at h; cases h
    | true =>
      rw [hb] at h
      cases h
      exact go_elements hR v1
  · cases h
def q_ways : Fn2 := fun av s => match av with
  | [.ref r0, .int v1, .int v2, .int v3] => bif Nat.beq r0 0 then some (p_ways v1 v2 v3 s) else none
  | _ => none
theorem sim_ways : Sim fn_X7_ways q_ways := by
  intro av M s x hR h
  unfold q_ways at h
  split at h
  · rename_i r0 v1 v2 v3
    unfold fn_X7_ways
    dsimp only
    cases hb : Nat.beq r0 0 with
    | false => rw [hb] at h; cases h
    | true =>
      rw [hb] at h
      cases h
      exact go_ways hR v1 v2 v3
  · cases h
def q_popular : Fn2 := fun av s => match av with
  | [.ref r0, .int v1, .int v2, .int v3] => bif Nat.beq r0 0 then some (p_popular v1 v2 v3 s) else none
  | _ => none
theorem sim_popular : Sim fn_X7_popular q_popular := by
  intro av M s x hR h
  unfold q_popular at h
  split at h
  · rename_i r0 v1 v2 v3
    unfold fn_X7_popular
    dsimp only
    cases hb : Nat.beq r0 0 with
    | false => rw [hb] at h; cases h
    | true =>
      rw [hb] at h
      cases h
      exact go_popular hR v1 v2 v3
  · cases h
def q_energy : Fn2 := fun av s => match av with
  | [.ref r0, .int v1, .int v2] => bif Nat.beq r0 0 then some (p_energy v1 v2 s) else none
  | _ => none
theorem sim_energy : Sim fn_X7_energy q_energy := by
  intro av M s x hR h
  unfold q_energy at h
  split at h
  · rename_i r0 v1 v2
    unfold fn_X7_energy
    dsimp only
    cases hb : Nat.beq r0 0 with
    | false => rw [hb] at h; cases h
    | true =>
      rw [hb] at h
      cases h
      exact go_energy hR v1 v2
  · cases h
def q_energyAnew : Fn2 := fun av s => match av with
  | [.ref r0, .int v1, .int v2] => bif Nat.beq r0 0 then some (p_energyAnew v1 v2 s) else none
  | _ => none
theorem sim_energyAnew : Sim fn_X7_energyAnew q_energyAnew := by
  intro av M s x hR h
  unfold q_energyAnew at h
  split at h
  · rename_i r0 v1 v2
    unfold fn_X7_energyAnew
    dsimp only
    cases hb : Nat.beq r0 0 with
    | false => rw [hb] at h; cases h
    | true =>
      rw [hb] at h
      cases h
      exact go_energyAnew hR v1 v2
  · cases h
def q_stabilizer : Fn2 := fun av s => match av with
  | [.ref r0, .int v1] => bif Nat.beq r0 0 then some (p_stabilizer v1 s) else none
  | _ => none
theorem sim_stabilizer : Sim fn_X7_stabilizer q_stabilizer := by
  intro av M s x hR h
  unfold q_stabilizer at h
  split at h
  · rename_i r0 v1
    unfold fn_X7_stabilizer
    dsimp only
    cases hb : Nat.beq r0 0 with
    | false => rw [hb] at h; cases h
    | true =>
      rw [hb] at h
      cases h
      exact go_stabilizer hR v1
  · cases h
def q_excess : Fn2 := fun av s => match av with
  | [.ref r0, .int v1, .int v2] => bif Nat.beq r0 0 then some (p_excess v1 v2 s) else none
  | _ => none
theorem sim_excess : Sim fn_X7_excess q_excess := by
  intro av M s x hR h
  unfold q_excess at h
  split at h
  · rename_i r0 v1 v2
    unfold fn_X7_excess
    dsimp only
    cases hb : Nat.beq r0 0 with
    | false => rw [hb] at h; cases h
    | true =>
      rw [hb] at h
      cases h
      exact go_excess hR v1 v2
  · cases h
def q_slack : Fn2 := fun av s => match av with
  | [.ref r0, .int v1, .int v2, .int v3] => bif Nat.beq r0 0 then some (p_slack v1 v2 v3 s) else none
  | _ => none
theorem sim_slack : Sim fn_X7_slack q_slack := by
  intro av M s x hR h
  unfold q_slack at h
  split at h
  · rename_i r0 v1 v2 v3
    unfold fn_X7_slack
    dsimp only
    cases hb : Nat.beq r0 0 with
    | false => rw [hb] at h; cases h
    | true =>
      rw [hb] at h
      cases h
      exact go_slack hR v1 v2 v3
  · cases h
def q_cover : Fn2 := fun av s => match av with
  | [.ref r0, .int v1, .int v2] => bif Nat.beq r0 0 then some (p_cover v1 v2 s) else none
  | _ => none
theorem sim_cover : Sim fn_X7_cover q_cover := by
  intro av M s x hR h
  unfold q_cover at h
  split at h
  · rename_i r0 v1 v2
    unfold fn_X7_cover
    dsimp only
    cases hb : Nat.beq r0 0 with
    | false => rw [hb] at h; cases h
    | true =>
      rw [hb] at h
      cases h
      exact go_cover hR v1 v2
  · cases h
def q_sums : Fn2 := fun av s => match av with
  | [.ref r0, .int v1, .int v2] => bif Nat.beq r0 0 then some (p_sums v1 v2 s) else none
  | _ => none
theorem sim_sums : Sim fn_X7_sums q_sums := by
  intro av M s x hR h
  unfold q_sums at h
  split at h
  · rename_i r0 v1 v2
    unfold fn_X7_sums
    dsimp only
    cases hb : Nat.beq r0 0 with
    | false => rw [hb] at h; cases h
    | true =>
      rw [hb] at h
      cases h
      exact go_sums hR v1 v2
  · cases h
def q_order : Fn2 := fun av s => match av with
  | [.ref r0, .int v1] => bif Nat.beq r0 0 then some (p_order v1 s) else none
  | _ => none
theorem sim_order : Sim fn_X7_order q_order := by
  intro av M s x hR h
  unfold q_order at h
  split at h
  · rename_i r0 v1
    unfold fn_X7_order
    dsimp only
    cases hb : Nat.beq r0 0 with
    | false => rw [hb] at h; cases h
    | true =>
      rw [hb] at h
      cases h
      exact go_order hR v1
  · cases h
def q_essential : Fn2 := fun av s => match av with
  | [.ref r0, .int v1] => bif Nat.beq r0 0 then some (p_essential v1 s) else none
  | _ => none
theorem sim_essential : Sim fn_X7_essential q_essential := by
  intro av M s x hR h
  unfold q_essential at h
  split at h
  · rename_i r0 v1
    unfold fn_X7_essential
    dsimp only
    cases hb : Nat.beq r0 0 with
    | false => rw [hb] at h; cases h
    | true =>
      rw [hb] at h
      cases h
      exact go_essential hR v1
  · cases h
def q_image : Fn2 := fun av s => match av with
  | [.ref r0, .int v1, .int v2, .int v3, .int v4] => bif Nat.beq r0 0 then some (p_image v1 v2 v3 v4 s) else none
  | _ => none
theorem sim_image : Sim fn_X7_image q_image := by
  intro av M s x hR h
  unfold q_image at h
  split at h
  · rename_i r0 v1 v2 v3 v4
    unfold fn_X7_image
    dsimp only
    cases hb : Nat.beq r0 0 with
    | false => rw [hb] at h; cases h
    | true =>
      rw [hb] at h
      cases h
      exact go_image hR v1 v2 v3 v4
  · cases h
def q_maps : Fn2 := fun av s => match av with
  | [.ref r0, .int v1, .int v2, .int v3] => bif Nat.beq r0 0 then some (p_maps v1 v2 v3 s) else none
  | _ => none
theorem sim_maps : Sim fn_X7_maps q_maps := by
  intro av M s x hR h
  unfold q_maps at h
  split at h
  · rename_i r0 v1 v2 v3
    unfold fn_X7_maps
    dsimp only
    cases hb : Nat.beq r0 0 with
    | false => rw [hb] at h; cases h
    | true =>
      rw [hb] at h
      cases h
      exact go_maps hR v1 v2 v3
  · cases h
def q_keeps : Fn2 := fun av s => match av with
  | [.ref r0, .int v1, .int v2] => bif Nat.beq r0 0 then some (p_keeps v1 v2 s) else none
  | _ => none
theorem sim_keeps : Sim fn_X7_keeps q_keeps := by
  intro av M s x hR h
  unfold q_keeps at h
  split at h
  · rename_i r0 v1 v2
    unfold fn_X7_keeps
    dsimp only
    cases hb : Nat.beq r0 0 with
    | false => rw [hb] at h; cases h
    | true =>
      rw [hb] at h
      cases h
      exact go_keeps hR v1 v2
  · cases h
def q_greatest : Fn2 := fun av s => match av with
  | [.ref r0, .int v1, .int v2] => bif Nat.beq r0 0 then some (p_greatest v1 v2 s) else none
  | _ => none
theorem sim_greatest : Sim fn_X7_greatest q_greatest := by
  intro av M s x hR h
  unfold q_greatest at h
  split at h
  · rename_i r0 v1 v2
    unfold fn_X7_greatest
    dsimp only
    cases hb : Nat.beq r0 0 with
    | false => rw [hb] at h; cases h
    | true =>
      rw [hb] at h
      cases h
      exact go_greatest hR v1 v2
  · cases h
def q_greatestAnew : Fn2 := fun av s => match av with
  | [.ref r0, .int v1, .int v2] => bif Nat.beq r0 0 then some (p_greatest v1 v2 s) else none
  | _ => none
theorem sim_greatestAnew : Sim fn_X7_greatestAnew q_greatestAnew := by
  intro av M s x hR h
  unfold q_greatestAnew at h
  split at h
  · rename_i r0 v1 v2
    unfold fn_X7_greatestAnew
    dsimp only
    cases hb : Nat.beq r0 0 with
    | false => rw [hb] at h; cases h
    | true =>
      rw [hb] at h
      cases h
      exact go_greatestAnew hR v1 v2
  · cases h
def q_wins : Fn2 := fun av s => match av with
  | [.ref r0, .int v1, .long v2] => bif Nat.beq r0 0 then some (p_wins v1 v2 s) else none
  | _ => none
theorem sim_wins : Sim fn_X7_wins q_wins := by
  intro av M s x hR h
  unfold q_wins at h
  split at h
  · rename_i r0 v1 v2
    unfold fn_X7_wins
    dsimp only
    cases hb : Nat.beq r0 0 with
    | false => rw [hb] at h; cases h
    | true =>
      rw [hb] at h
      cases h
      exact go_wins hR v1 v2
  · cases h
def q_put : Fn2 := fun av s => match av with
  | [.ref r0, .int v1] => bif Nat.beq r0 0 then some (p_put v1 s) else none
  | _ => none
theorem sim_put : Sim fn_X7_put q_put := by
  intro av M s x hR h
  unfold q_put at h
  split at h
  · rename_i r0 v1
    unfold fn_X7_put
    dsimp only
    cases hb : Nat.beq r0 0 with
    | false => rw [hb] at h; cases h
    | true =>
      rw [hb] at h
      cases h
      exact go_put hR v1
  · cases h
def q_wipe : Fn2 := fun av s => match av with
  | [.ref r0] => bif Nat.beq r0 0 then some (p_wipe s) else none
  | _ => none
theorem sim_wipe : Sim fn_X7_wipe q_wipe := by
  intro av M s x hR h
  unfold q_wipe at h
  split at h
  · rename_i r0
    unfold fn_X7_wipe
    dsimp only
    cases hb : Nat.beq r0 0 with
    | false => rw [hb] at h; cases h
    | true =>
      rw [hb] at h
      cases h
      exact go_wipe hR
  · cases h
def q_zero : Fn2 := fun av s => match av with
  | [.ref r0] => bif Nat.beq r0 0 then some (p_zero s) else none
  | _ => none
theorem sim_zero : Sim fn_X7_zero q_zero := by
  intro av M s x hR h
  unfold q_zero at h
  split at h
  · rename_i r0
    unfold fn_X7_zero
    dsimp only
    cases hb : Nat.beq r0 0 with
    | false => rw [hb] at h; cases h
    | true =>
      rw [hb] at h
      cases h
      exact go_zero hR
  · cases h
def q_constant : Fn2 := fun av s => match av with
  | [.ref r0] => bif Nat.beq r0 0 then some (p_constant s) else none
  | _ => none
theorem sim_constant : Sim fn_X7_constant q_constant := by
  intro av M s x hR h
  unfold q_constant at h
  split at h
  · rename_i r0
    unfold fn_X7_constant
    dsimp only
    cases hb : Nat.beq r0 0 with
    | false => rw [hb] at h; cases h
    | true =>
      rw [hb] at h
      cases h
      exact go_constant hR
  · cases h
def q_root : Fn2 := fun av s => match av with
  | [.ref r0, .int v1, .int v2] => bif Nat.beq r0 0 then some (p_root v1 v2 s) else none
  | _ => none
theorem sim_root : Sim fn_X7_root q_root := by
  intro av M s x hR h
  unfold q_root at h
  split at h
  · rename_i r0 v1 v2
    unfold fn_X7_root
    dsimp only
    cases hb : Nat.beq r0 0 with
    | false => rw [hb] at h; cases h
    | true =>
      rw [hb] at h
      cases h
      exact go_root hR v1 v2
  · cases h
def q_transform : Fn2 := fun av s => match av with
  | [.ref r0, .int v1, .int v2] => bif Nat.beq r0 0 then some (p_transform v1 v2 s) else none
  | _ => none
theorem sim_transform : Sim fn_X7_transform q_transform := by
  intro av M s x hR h
  unfold q_transform at h
  split at h
  · rename_i r0 v1 v2
    unfold fn_X7_transform
    dsimp only
    cases hb : Nat.beq r0 0 with
    | false => rw [hb] at h; cases h
    | true =>
      rw [hb] at h
      cases h
      exact go_transform hR v1 v2
  · cases h
def q_waysAnew : Fn2 := fun av s => match av with
  | [.ref r0, .int v1, .int v2, .int v3] => bif Nat.beq r0 0 then some (p_waysAnew v1 v2 v3 s) else none
  | _ => none
theorem sim_waysAnew : Sim fn_X7_waysAnew q_waysAnew := by
  intro av M s x hR h
  unfold q_waysAnew at h
  split at h
  · rename_i r0 v1 v2 v3
    unfold fn_X7_waysAnew
    dsimp only
    cases hb : Nat.beq r0 0 with
    | false => rw [hb] at h; cases h
    | true =>
      rw [hb] at h
      cases h
      exact go_waysAnew hR v1 v2 v3
  · cases h
def q_of : Fn2 := fun av s => match av with
  | [.ref r0, .int v1] => bif Nat.beq r0 0 then some (p_of v1 s) else none
  | _ => none
theorem sim_of : Sim fn_X7_of q_of := by
  intro av M s x hR h
  unfold q_of at h
  split at h
  · rename_i r0 v1
    unfold fn_X7_of
    dsimp only
    cases hb : Nat.beq r0 0 with
    | false => rw [hb] at h; cases h
    | true =>
      rw [hb] at h
      cases h
      exact go_of hR v1
  · cases h
