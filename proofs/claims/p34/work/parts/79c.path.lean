/-! STEPS OF THE MACHINE OVER THE HOUSE: calls, branches -/
section Pat
variable {D : Cfg2} {pc k kd ci na mc j n q : Nat} {lo : List (Option Value)} {st : List Value} {s s' : HS} {f : Fn2} {v : Option Value} {x : Nat} {z : St2} {o : Out2} {off : Int}
theorem stp2_call {mk : Nat} {ins : Instr} (hi : (mk = 0 ∧ ins = .invokestatic j) ∨ (mk = 1 ∧ ins = .invokevirtual j)) (hl : lk D.1 pc = some (ins, 3)) (hk : Nat.ble k D.2.2.2.2.2.2 = true) (hc : lk D.2.1 j = some (kd, ci, na, mc, f)) : stp2 D (pc, lo, st, s, k) = dc2 D mk (kd, ci, na, mc, f) pc lo st s k := by
  unfold stp2
  rcases hi with ⟨rfl, rfl⟩ | ⟨rfl, rfl⟩ <;> simp only [hl, hk, ilen, lenok, xi2, hc] <;> rfl
theorem dc2_ret {mk : Nat} (hg : (Nat.ble na st.length && Nat.ble (catS (st.drop na)) 8 && Nat.beq (kd / 2) mk && Nat.ble (k + mc) D.2.2.2.2.2.2) = true) (hr : rcv csF mk ci (st.take na).reverse = true) (hf : f (st.take na).reverse s = some (.inl v, s')) : dc2 D mk (kd, ci, na, mc, f) pc lo st s k = some (.inl (pc + 3, lo, v.toList ++ st.drop na, s', k + mc)) := by
  unfold dc2
  simp only [hg, hr, hf, cond_true]
theorem dc2_thr {mk : Nat} (hg : (Nat.ble na st.length && Nat.ble (catS (st.drop na)) 8 && Nat.beq (kd / 2) mk && Nat.ble (k + mc) D.2.2.2.2.2.2) = true) (hr : rcv csF mk ci (st.take na).reverse = true) (hf : f (st.take na).reverse s = some (.inr x, s')) : dc2 D mk (kd, ci, na, mc, f) pc lo st s k = some (.inr (.inr x, s', k + mc)) := by
  unfold dc2
  simp only [hg, hr, hf, cond_true]
theorem run2_1 {x : St2} (h : stp2 D x = some (.inl z)) : run2 D 1 x = some (.inl z) := by
  show (match stp2 D x with | some (.inl y) => run2 D 0 y | r => r) = _
  rw [h]; rfl
theorem run2_1e {x : St2} (h : stp2 D x = some (.inr o)) : run2 D 1 x = some (.inr o) := by
  show (match stp2 D x with | some (.inl y) => run2 D 0 y | r => r) = _
  rw [h]
theorem R2.cS (hl : lk D.1 pc = some (.invokestatic j, 3)) (hk : Nat.ble k D.2.2.2.2.2.2 = true) (hc : lk D.2.1 j = some (kd, ci, na, mc, f)) (hg : (Nat.ble na st.length && Nat.ble (catS (st.drop na)) 8 && Nat.beq (kd / 2) 0 && Nat.ble (k + mc) D.2.2.2.2.2.2) = true) (hf : f (st.take na).reverse s = some (.inl v, s')) (h : R2 D (pc + 3, lo, v.toList ++ st.drop na, s', k + mc) z) : R2 D (pc, lo, st, s, k) z :=
  R2.go 1 (run2_1 ((stp2_call (Or.inl ⟨rfl, rfl⟩) hl hk hc).trans (dc2_ret hg rfl hf))) h
theorem R2.cV (hl : lk D.1 pc = some (.invokevirtual j, 3)) (hk : Nat.ble k D.2.2.2.2.2.2 = true) (hc : lk D.2.1 j = some (kd, ci, na, mc, f)) (hg : (Nat.ble na st.length && Nat.ble (catS (st.drop na)) 8 && Nat.beq (kd / 2) 1 && Nat.ble (k + mc) D.2.2.2.2.2.2) = true) (hr : rcv csF 1 ci (st.take na).reverse = true) (hf : f (st.take na).reverse s = some (.inl v, s')) (h : R2 D (pc + 3, lo, v.toList ++ st.drop na, s', k + mc) z) : R2 D (pc, lo, st, s, k) z :=
  R2.go 1 (run2_1 ((stp2_call (Or.inr ⟨rfl, rfl⟩) hl hk hc).trans (dc2_ret hg hr hf))) h
theorem E2.xV (hl : lk D.1 pc = some (.invokevirtual j, 3)) (hk : Nat.ble k D.2.2.2.2.2.2 = true) (hc : lk D.2.1 j = some (kd, ci, na, mc, f)) (hg : (Nat.ble na st.length && Nat.ble (catS (st.drop na)) 8 && Nat.beq (kd / 2) 1 && Nat.ble (k + mc) D.2.2.2.2.2.2) = true) (hr : rcv csF 1 ci (st.take na).reverse = true) (hf : f (st.take na).reverse s = some (.inr x, s')) : E2 D (pc, lo, st, s, k) (.inr x, s', k + mc) :=
  ⟨1, run2_1e ((stp2_call (Or.inr ⟨rfl, rfl⟩) hl hk hc).trans (dc2_thr hg hr hf))⟩
theorem E2.fin (n : Nat) {x : St2} (h : run2 D n x = some (.inr o)) : E2 D x o := ⟨n, h⟩
theorem R2.brT {c : Prop} [Decidable c] (h : c) (ht : tgt pc off = q) (g : R2 D (q, lo, st, s, k) z) : R2 D (br (decide c) pc n off, lo, st, s, k) z := by
  rw [show br (decide c) pc n off = q by unfold br; rw [decide_eq_true h]; exact ht]; exact g
theorem R2.brF {c : Prop} [Decidable c] (h : ¬ c) (ht : pc + n = q) (g : R2 D (q, lo, st, s, k) z) : R2 D (br (decide c) pc n off, lo, st, s, k) z := by
  rw [show br (decide c) pc n off = q by unfold br; rw [decide_eq_false h]; exact ht]; exact g
theorem R2.brNT {c : Prop} [Decidable c] (h : ¬ c) (ht : tgt pc off = q) (g : R2 D (q, lo, st, s, k) z) : R2 D (br (!decide c) pc n off, lo, st, s, k) z := by
  rw [show br (!decide c) pc n off = q by unfold br; rw [decide_eq_false h]; exact ht]; exact g
theorem R2.brNF {c : Prop} [Decidable c] (h : c) (ht : pc + n = q) (g : R2 D (q, lo, st, s, k) z) : R2 D (br (!decide c) pc n off, lo, st, s, k) z := by
  rw [show br (!decide c) pc n off = q by unfold br; rw [decide_eq_true h]; exact ht]; exact g
end Pat
/-! what a call may answer -/
def IsI (x : Ans) : Prop := (∃ k, x.1 = .inr k) ∨ ∃ v, x.1 = .inl (some (.int v))
def IsL (x : Ans) : Prop := (∃ k, x.1 = .inr k) ∨ ∃ v, x.1 = .inl (some (.long v))
theorem IsI.I (v : Int32) (s : HS) : IsI (aI v s) := Or.inr ⟨v, rfl⟩
theorem IsI.X (k : Nat) (s : HS) : IsI (aX k s) := Or.inl ⟨k, rfl⟩
theorem IsL.L (v : Int64) (s : HS) : IsL (aL v s) := Or.inr ⟨v, rfl⟩
theorem IsL.X (k : Nat) (s : HS) : IsL (aX k s) := Or.inl ⟨k, rfl⟩
theorem any_onO {A : Type} {P : Ans → Prop} {o : Option A} {k : A → Ans} {e : Ans} (h : ∀ x, P (k x)) (he : P e) : P (onO o k e) := by
  cases o with
  | none => exact he
  | some x => exact h x
theorem any_onS {P : Ans → Prop} {s : HS} {v : Int32} {k : Nat → Ans} (h : ∀ x, P (k x)) (he : P (aX 1 s)) : P (onS s v k) := any_onO (fun _ => h _) he
theorem any_onE {P : Ans → Prop} {s : HS} {v : Int32} {k : Nat → Ans} (h : ∀ x, P (k x)) (he : P (aX 1 s)) : P (onE s v k) := any_onO h he
theorem any_bif {P : Ans → Prop} {b : Bool} {x y : Ans} (hx : P x) (hy : P y) : P (bif b then x else y) := by
  cases b
  · exact hy
  · exact hx
theorem IsI.K (s : HS) (x : Nat) : IsI (kpP s x) := kpP_form s x
