/-! what the printed methods are written with -/
theorem tb_i {w : Cond} (i : Nat) (h : lw_tbl[i]? = some w) (g : goodWord w = true) : w ∈ TB := List.mem_filter.mpr ⟨List.mem_of_getElem? h, g⟩
def csF : List Nat := List.range 19
def csS : List Nat := [2, 3]
theorem csF_nd : csF.Nodup := by decide +kernel
theorem csS_nd : csS.Nodup := by decide +kernel
def jsl (x y : Int32) : Int32 := x <<< (y &&& 31)
def jusr (x y : Int32) : Int32 := (x.toUInt32 >>> (y.toUInt32 &&& Int32.toUInt32 31)).toInt32
def jshl (x : Int64) (y : Int32) : Int64 := x <<< (y.toInt64 &&& 63)
def jushr (x : Int64) (y : Int32) : Int64 := (x.toUInt64 >>> (y.toInt64.toUInt64 &&& Int64.toUInt64 63)).toInt64
def jrem (x y : Int32) : Int32 := x - x / y * y
def jlrem (x y : Int64) : Int64 := x - x / y * y
section Pre
variable {C : Cfg} {X : Type} {x y : St} {P : X → St ⊕ (Res × Mem)}
theorem run_1 (h : stp C x = some (.inl y)) : run C 1 x = some (.inl y) := by
  show (match stp C x with | some (.inl y) => run C 0 y | r => r) = _
  rw [h]; rfl
theorem stp_g {c : Prop} [Decidable c] (h : c) (hr : stp C x = (if c then some (.inl y) else none)) : run C 1 x = some (.inl y) := run_1 (by rw [hr, if_pos h])
theorem stp_gN {c : Prop} [Decidable c] (h : ¬ c) (hr : stp C x = (if c then none else some (.inl y))) : run C 1 x = some (.inl y) := run_1 (by rw [hr, if_neg h])
theorem RG.ites {c : Prop} [Decidable c] {a b : X} (k1 : c → RG C x (some a) P) (k2 : ¬ c → RG C x (some b) P) : RG C x (some (if c then a else b)) P := by
  by_cases h : c
  · rw [if_pos h]; exact k1 h
  · rw [if_neg h]; exact k2 h
theorem RG.eqI {v w : Int32} (h : v = w) {F : Option X} {pc : Nat} {lo : List (Option Value)} {st : List Value} {z : Mem × Nat} (k : RG C (pc, lo, .int w :: st, z) F P) : RG C (pc, lo, .int v :: st, z) F P := h ▸ k
variable {pc n k na mc kd ci i : Nat} {lo : List (Option Value)} {st : List Value} {M M' : Mem} {f : Fn} {v : Option Value} {E : String}
theorem run_tsw {d lo' hi : Int} {offs : Array Int} {x : Int32} {q : Nat} (hl : lk C.code pc = some (.tableswitch d lo' hi offs, n)) (hc : Nat.ble k C.cap = true) (ht : tsw pc d lo' hi offs x = some q) : run C 1 (pc, lo, .int x :: st, M, k) = some (.inl (q, lo, st, M, k)) := by
  refine run_1 ?_
  unfold stp
  simp only [hl, hc, ilen, lenok, Bool.and_true, cond_true, xi, ht]
theorem tsw_out {d lo' hi : Int} {offs : Array Int} {x : Int32} {q : Nat} (h : x.toInt < lo' ∨ hi < x.toInt) (h0 : tgtok pc d = true) (hq : tgt pc d = q) : tsw pc d lo' hi offs x = some q := by
  unfold tsw
  rw [if_pos h, if_pos (of_decide_eq_true h0), hq]
theorem stp_call {mk : Nat} {ins : Instr} (hi : (mk = 0 ∧ ins = .invokestatic i) ∨ (mk = 1 ∧ ins = .invokevirtual i)) (hl : lk C.code pc = some (ins, 3)) (hk : Nat.ble k C.cap = true) (hc : lk C.calls i = some (kd, ci, na, mc, f)) :
    stp C (pc, lo, st, M, k) = doCall C mk (kd, ci, na, mc, f) pc lo st M k := by
  unfold stp
  rcases hi with ⟨rfl, rfl⟩ | ⟨rfl, rfl⟩ <;> simp only [hl, hk, ilen, lenok, xi, hc] <;> rfl
theorem call_ret {mk : Nat} (hg : (Nat.ble na st.length && Nat.ble (catS (st.drop na)) 8 && Nat.beq (kd / 2) mk && Nat.ble (k + mc) C.cap) = true) (hr : rcv C.cs mk ci (st.take na).reverse = true) (hf : f (st.take na).reverse M = some (.inl v, M')) :
    doCall C mk (kd, ci, na, mc, f) pc lo st M k = some (.inl (pc + 3, lo, v.toList ++ st.drop na, M', k + mc)) := by
  unfold doCall
  simp only [hg, hr, hf, cond_true]
theorem call_thr {mk : Nat} (hg : (Nat.ble na st.length && Nat.ble (catS (st.drop na)) 8 && Nat.beq (kd / 2) mk && Nat.ble (k + mc) C.cap) = true) (hr : rcv C.cs mk ci (st.take na).reverse = true) (hf : f (st.take na).reverse M = some (.inr E, M')) (hh : C.hs = []) :
    doCall C mk (kd, ci, na, mc, f) pc lo st M k = some (.inr (.inr E, M', k + mc)) := by
  unfold doCall
  simp only [hg, hr, hf, cond_true, hh]
theorem call_cat {mk : Nat} {r : Value} (hg : (Nat.ble na st.length && Nat.ble (catS (st.drop na)) 8 && Nat.beq (kd / 2) mk && Nat.ble (k + mc) C.cap) = true) (hr : rcv C.cs mk ci (st.take na).reverse = true) (hf : f (st.take na).reverse M = some (.inr E, M')) (hh : C.hs.isEmpty = false) (hc : hnd C lo.length pc E C.hs = some (some r)) :
    doCall C mk (kd, ci, na, mc, f) pc lo st M k = some (.inr (.inl (some r), M', k + mc)) := by
  unfold doCall
  simp only [hg, hr, hf, cond_true]
  split
  · rename_i he; rw [he] at hh; cases hh
  · rename_i h1 h2 he
    rw [← he, hc]
theorem run_1e {o : Ou} (h : stp C x = some (.inr o)) : run C 1 x = some (.inr o) := by
  show (match stp C x with | some (.inl y) => run C 0 y | r => r) = _
  rw [h]
theorem run_callS (hl : lk C.code pc = some (.invokestatic i, 3)) (hk : Nat.ble k C.cap = true) (hc : lk C.calls i = some (kd, ci, na, mc, f)) (hg : (Nat.ble na st.length && Nat.ble (catS (st.drop na)) 8 && Nat.beq (kd / 2) 0 && Nat.ble (k + mc) C.cap) = true) (hf : f (st.take na).reverse M = some (.inl v, M')) :
    run C 1 (pc, lo, st, M, k) = some (.inl (pc + 3, lo, v.toList ++ st.drop na, M', k + mc)) := run_1 ((stp_call (Or.inl ⟨rfl, rfl⟩) hl hk hc).trans (call_ret hg rfl hf))
theorem run_callV (hl : lk C.code pc = some (.invokevirtual i, 3)) (hk : Nat.ble k C.cap = true) (hc : lk C.calls i = some (kd, ci, na, mc, f)) (hg : (Nat.ble na st.length && Nat.ble (catS (st.drop na)) 8 && Nat.beq (kd / 2) 1 && Nat.ble (k + mc) C.cap) = true) (hr : rcv C.cs 1 ci (st.take na).reverse = true) (hf : f (st.take na).reverse M = some (.inl v, M')) :
    run C 1 (pc, lo, st, M, k) = some (.inl (pc + 3, lo, v.toList ++ st.drop na, M', k + mc)) := run_1 ((stp_call (Or.inr ⟨rfl, rfl⟩) hl hk hc).trans (call_ret hg hr hf))
theorem run_callSx (hl : lk C.code pc = some (.invokestatic i, 3)) (hk : Nat.ble k C.cap = true) (hc : lk C.calls i = some (kd, ci, na, mc, f)) (hg : (Nat.ble na st.length && Nat.ble (catS (st.drop na)) 8 && Nat.beq (kd / 2) 0 && Nat.ble (k + mc) C.cap) = true) (hf : f (st.take na).reverse M = some (.inr E, M')) (hh : C.hs = []) :
    run C 1 (pc, lo, st, M, k) = some (.inr (.inr E, M', k + mc)) := run_1e ((stp_call (Or.inl ⟨rfl, rfl⟩) hl hk hc).trans (call_thr hg rfl hf hh))
theorem run_callVx (hl : lk C.code pc = some (.invokevirtual i, 3)) (hk : Nat.ble k C.cap = true) (hc : lk C.calls i = some (kd, ci, na, mc, f)) (hg : (Nat.ble na st.length && Nat.ble (catS (st.drop na)) 8 && Nat.beq (kd / 2) 1 && Nat.ble (k + mc) C.cap) = true) (hr : rcv C.cs 1 ci (st.take na).reverse = true) (hf : f (st.take na).reverse M = some (.inr E, M')) (hh : C.hs = []) :
    run C 1 (pc, lo, st, M, k) = some (.inr (.inr E, M', k + mc)) := run_1e ((stp_call (Or.inr ⟨rfl, rfl⟩) hl hk hc).trans (call_thr hg hr hf hh))
theorem run_callVh {r : Value} (hl : lk C.code pc = some (.invokevirtual i, 3)) (hk : Nat.ble k C.cap = true) (hc : lk C.calls i = some (kd, ci, na, mc, f)) (hg : (Nat.ble na st.length && Nat.ble (catS (st.drop na)) 8 && Nat.beq (kd / 2) 1 && Nat.ble (k + mc) C.cap) = true) (hr : rcv C.cs 1 ci (st.take na).reverse = true) (hf : f (st.take na).reverse M = some (.inr E, M')) (hh : C.hs.isEmpty = false) (hx : hnd C lo.length pc E C.hs = some (some r)) :
    run C 1 (pc, lo, st, M, k) = some (.inr (.inl (some r), M', k + mc)) := run_1e ((stp_call (Or.inr ⟨rfl, rfl⟩) hl hk hc).trans (call_cat hg hr hf hh hx))
end Pre
theorem bindI {D : Option Int32} {w : Int32} {M : Mem} (h : D = some w) : (D.bind fun v => (some (.inl (some (.int v)), M) : Option (Res × Mem))) = some (.inl (some (.int w)), M) := by rw [h]; rfl
theorem bindL {D : Option Int64} {w : Int64} {M : Mem} (h : D = some w) : (D.bind fun v => (some (.inl (some (.long v)), M) : Option (Res × Mem))) = some (.inl (some (.long w)), M) := by rw [h]; rfl
theorem bind_cs {Y X : Type} {D : Option Y} {f : Y → Option X} {x : X} (h : D.bind f = some x) : ∃ w, D = some w ∧ f w = some x := by
  cases D with
  | none => cases h
  | some w => exact ⟨w, rfl, h⟩
theorem bif_cs {b : Bool} {X : Type} {u v : Option X} {x : X} (h : (bif b then u else v) = some x) : (b = true ∧ u = some x) ∨ (b = false ∧ v = some x) := by
  cases b with
  | true => exact Or.inl ⟨rfl, h⟩
  | false => exact Or.inr ⟨rfl, h⟩
theorem inb_of {i m : Int32} {n : Nat} (h1 : ¬ i < 0) (h2 : i < m) (hm : m.toInt = n) (_ : n < 2147483648) : inb i n = true := by
  unfold inb
  have e1 := Int32.not_lt.mp h1
  have e2 := Int32.le_iff_toInt_le.mp e1
  have e3 := Int32.lt_iff_toInt_lt.mp h2
  have e4 : (0 : Int32).toInt = 0 := by decide
  simp only [Bool.and_eq_true, decide_eq_true_eq]
  omega
