/-! THE MACHINE'S STEPS ARE STEPS OF THE JVM: what touches locals and stack alone -/
/-- cells and slots used before, and allowed at the end -/
abbrev Bd : Type := Nat × Nat × Nat × Nat
section Snd
variable {p : Program} {l : Launch} {e : Env} {R : Room} {s : State} {m : MethodId} {args : Array Value} {below : List Frame} {meth : Method} {c : Code} {Q : State → Prop} {A : Nat → Prop} {G : Gh} {C : Cfg} {nL : Nat} {B : Bd} {cc : ByteArray} {own : String} {o0 : Res} {M0 : Mem}
/-- the machine's state, on the JVM: from any heap and locals that it pictures the JVM comes to Q -/
def AW (p : Program) (l : Launch) (e : Env) (R : Room) (s : State) (m : MethodId) (args : Array Value) (below : List Frame) (meth : Method) (c : Code) (Q : State → Prop) (A : Nat → Prop) (G : Gh) (C : Cfg) (nL : Nat) (B : Bd) (x : St) : Prop :=
  ∀ (H : Heap) (locs : List Loc) (ls : Array Slot), va_P G.D vwCl (wl G x.2.2.2.1 C.cs) H → va_S A s.heap H locs → x.2.1.length = nL → lv_has ls nL (lvl G x.2.1) → W p l e R s m args below meth c H locs (B.1 + x.2.2.2.2) (B.2.1 + 6 * x.2.2.2.2) Q (F0 m x.1 ls (x.2.2.1.map (cv G)))
def FinR (p : Program) (l : Launch) (e : Env) (R : Room) (s : State) (m : MethodId) (args : Array Value) (below : List Frame) (meth : Method) (c : Code) (Q : State → Prop) (A : Nat → Prop) (G : Gh) (C : Cfg) (nL : Nat) (B : Bd) (o0 : Res) (M0 : Mem) : St ⊕ Ou → Prop
  | .inl y => AW p l e R s m args below meth c Q A G C nL B y
  | .inr z => z.1 = o0 ∧ z.2.1 = M0
theorem tgt_ok {pc : Nat} {off : Int} (h : tgtok pc off = true) : (pc : Int) + off = (tgt pc off : Int) := by
  unfold tgtok at h
  unfold tgt
  exact (Int.toNat_of_nonneg (of_decide_eq_true h)).symm

theorem sn_iconst (hx : p.tables.exec = Jvm.exec) (hb : c.code = cc) {pc n k : Nat} {lo : List (Option Value)} {st : List Value} {M : Mem} {r : St ⊕ Ou} {v : Int} (hd : decode cc pc = .ok (.iconst v, n)) (hn : n = 1) (h : xi C pc lo st M k n (.iconst v) = some r) (hF : FinR p l e R s m args below meth c Q A G C nL B o0 M0 r) : AW p l e R s m args below meth c Q A G C nL B (pc, lo, st, M, k) := by
  subst hn
  simp only [xi] at h
  cases h
  intro H locs ls hP hS hL hl
  exact lv_iconst hx hb hd rfl (hF H locs ls hP hS hL hl)

theorem sn_bipush (hx : p.tables.exec = Jvm.exec) (hb : c.code = cc) {pc n k : Nat} {lo : List (Option Value)} {st : List Value} {M : Mem} {r : St ⊕ Ou} {v : Int} (hd : decode cc pc = .ok (.bipush v, n)) (hn : n = 2) (h : xi C pc lo st M k n (.bipush v) = some r) (hF : FinR p l e R s m args below meth c Q A G C nL B o0 M0 r) : AW p l e R s m args below meth c Q A G C nL B (pc, lo, st, M, k) := by
  subst hn
  simp only [xi] at h
  cases h
  intro H locs ls hP hS hL hl
  exact lv_bipush hx hb hd rfl (hF H locs ls hP hS hL hl)

theorem sn_sipush (hx : p.tables.exec = Jvm.exec) (hb : c.code = cc) {pc n k : Nat} {lo : List (Option Value)} {st : List Value} {M : Mem} {r : St ⊕ Ou} {v : Int} (hd : decode cc pc = .ok (.sipush v, n)) (hn : n = 3) (h : xi C pc lo st M k n (.sipush v) = some r) (hF : FinR p l e R s m args below meth c Q A G C nL B o0 M0 r) : AW p l e R s m args below meth c Q A G C nL B (pc, lo, st, M, k) := by
  subst hn
  simp only [xi] at h
  cases h
  intro H locs ls hP hS hL hl
  exact lv_sipush hx hb hd rfl (hF H locs ls hP hS hL hl)

theorem sn_lconst (hx : p.tables.exec = Jvm.exec) (hb : c.code = cc) {pc n k : Nat} {lo : List (Option Value)} {st : List Value} {M : Mem} {r : St ⊕ Ou} {v : Fin 2} (hd : decode cc pc = .ok (.lconst v, n)) (hn : n = 1) (h : xi C pc lo st M k n (.lconst v) = some r) (hF : FinR p l e R s m args below meth c Q A G C nL B o0 M0 r) : AW p l e R s m args below meth c Q A G C nL B (pc, lo, st, M, k) := by
  subst hn
  simp only [xi] at h
  cases h
  intro H locs ls hP hS hL hl
  exact lv_lconst hx hb hd rfl (hF H locs ls hP hS hL hl)

theorem sn_ldc (hx : p.tables.exec = Jvm.exec) (hb : c.code = cc) (hown : s.vm.findClass own = some m.cls) (hC : ∀ e ∈ C.ints, (Cond.constant own e.1 e.2).before args s = true) {pc n k : Nat} {lo : List (Option Value)} {st : List Value} {M : Mem} {r : St ⊕ Ou} {i : Nat} (hd : decode cc pc = .ok (.ldc i, n)) (hn : n = 2) (h : xi C pc lo st M k n (.ldc i) = some r) (hF : FinR p l e R s m args below meth c Q A G C nL B o0 M0 r) : AW p l e R s m args below meth c Q A G C nL B (pc, lo, st, M, k) := by
  subst hn
  simp only [xi] at h
  split at h
  · rename_i x hl0
    cases h
    intro H locs ls hP hS hL hl
    exact lv_ldc hx hb hown (hC _ (lk_mem hl0)) hd (hF H locs ls hP hS hL hl)
  · cases h

theorem sn_ldc_w (hx : p.tables.exec = Jvm.exec) (hb : c.code = cc) (hown : s.vm.findClass own = some m.cls) (hC : ∀ e ∈ C.ints, (Cond.constant own e.1 e.2).before args s = true) {pc n k : Nat} {lo : List (Option Value)} {st : List Value} {M : Mem} {r : St ⊕ Ou} {i : Nat} (hd : decode cc pc = .ok (.ldc_w i, n)) (hn : n = 3) (h : xi C pc lo st M k n (.ldc_w i) = some r) (hF : FinR p l e R s m args below meth c Q A G C nL B o0 M0 r) : AW p l e R s m args below meth c Q A G C nL B (pc, lo, st, M, k) := by
  subst hn
  simp only [xi] at h
  split at h
  · rename_i x hl0
    cases h
    intro H locs ls hP hS hL hl
    exact lv_ldcw hx hb hown (hC _ (lk_mem hl0)) hd (hF H locs ls hP hS hL hl)
  · cases h

theorem sn_ldc2_w (hx : p.tables.exec = Jvm.exec) (hb : c.code = cc) (hown : s.vm.findClass own = some m.cls) (hC : ∀ e ∈ C.longs, (Cond.constantLong own e.1 e.2).before args s = true) {pc n k : Nat} {lo : List (Option Value)} {st : List Value} {M : Mem} {r : St ⊕ Ou} {i : Nat} (hd : decode cc pc = .ok (.ldc2_w i, n)) (hn : n = 3) (h : xi C pc lo st M k n (.ldc2_w i) = some r) (hF : FinR p l e R s m args below meth c Q A G C nL B o0 M0 r) : AW p l e R s m args below meth c Q A G C nL B (pc, lo, st, M, k) := by
  subst hn
  simp only [xi] at h
  split at h
  · rename_i x hl0
    cases h
    intro H locs ls hP hS hL hl
    exact lv_ldc2 hx hb hown (hC _ (lk_mem hl0)) hd (hF H locs ls hP hS hL hl)
  · cases h

theorem sn_iload_n (hx : p.tables.exec = Jvm.exec) (hb : c.code = cc) {pc n k : Nat} {lo : List (Option Value)} {st : List Value} {M : Mem} {r : St ⊕ Ou} {i : Fin 4} (hd : decode cc pc = .ok (.iload_n i, n)) (hn : n = 1) (h : xi C pc lo st M k n (.iload_n i) = some r) (hF : FinR p l e R s m args below meth c Q A G C nL B o0 M0 r) : AW p l e R s m args below meth c Q A G C nL B (pc, lo, st, M, k) := by
  subst hn
  simp only [xi] at h
  split at h
  · rename_i x hg
    cases h
    intro H locs ls hP hS hL hl
    exact lv_iload_n hx hb hd rfl (lvl_get hl hg) (hF H locs ls hP hS hL hl)
  · cases h

theorem sn_iload (hx : p.tables.exec = Jvm.exec) (hb : c.code = cc) {pc n k : Nat} {lo : List (Option Value)} {st : List Value} {M : Mem} {r : St ⊕ Ou} {i : Nat} (hd : decode cc pc = .ok (.iload i, n)) (hn : n = 2) (h : xi C pc lo st M k n (.iload i) = some r) (hF : FinR p l e R s m args below meth c Q A G C nL B o0 M0 r) : AW p l e R s m args below meth c Q A G C nL B (pc, lo, st, M, k) := by
  subst hn
  simp only [xi] at h
  split at h
  · rename_i x hg
    cases h
    intro H locs ls hP hS hL hl
    exact lv_iload hx hb hd (lvl_get hl hg) (hF H locs ls hP hS hL hl)
  · cases h

theorem sn_lload_n (hx : p.tables.exec = Jvm.exec) (hb : c.code = cc) {pc n k : Nat} {lo : List (Option Value)} {st : List Value} {M : Mem} {r : St ⊕ Ou} {i : Fin 4} (hd : decode cc pc = .ok (.lload_n i, n)) (hn : n = 1) (h : xi C pc lo st M k n (.lload_n i) = some r) (hF : FinR p l e R s m args below meth c Q A G C nL B o0 M0 r) : AW p l e R s m args below meth c Q A G C nL B (pc, lo, st, M, k) := by
  subst hn
  simp only [xi] at h
  split at h
  · rename_i x hg
    cases h
    intro H locs ls hP hS hL hl
    exact lv_lload_n hx hb hd rfl (lvl_get hl hg) (hF H locs ls hP hS hL hl)
  · cases h

theorem sn_lload (hx : p.tables.exec = Jvm.exec) (hb : c.code = cc) {pc n k : Nat} {lo : List (Option Value)} {st : List Value} {M : Mem} {r : St ⊕ Ou} {i : Nat} (hd : decode cc pc = .ok (.lload i, n)) (hn : n = 2) (h : xi C pc lo st M k n (.lload i) = some r) (hF : FinR p l e R s m args below meth c Q A G C nL B o0 M0 r) : AW p l e R s m args below meth c Q A G C nL B (pc, lo, st, M, k) := by
  subst hn
  simp only [xi] at h
  split at h
  · rename_i x hg
    cases h
    intro H locs ls hP hS hL hl
    exact lv_lload hx hb hd (lvl_get hl hg) (hF H locs ls hP hS hL hl)
  · cases h

theorem sn_aload_n (hx : p.tables.exec = Jvm.exec) (hb : c.code = cc) {pc n k : Nat} {lo : List (Option Value)} {st : List Value} {M : Mem} {r : St ⊕ Ou} {i : Fin 4} (hd : decode cc pc = .ok (.aload_n i, n)) (hn : n = 1) (h : xi C pc lo st M k n (.aload_n i) = some r) (hF : FinR p l e R s m args below meth c Q A G C nL B o0 M0 r) : AW p l e R s m args below meth c Q A G C nL B (pc, lo, st, M, k) := by
  subst hn
  simp only [xi] at h
  split at h
  · rename_i x hg
    cases h
    intro H locs ls hP hS hL hl
    exact lv_aload_n hx hb hd rfl (lvl_get hl hg) (hF H locs ls hP hS hL hl)
  · cases h

theorem sn_aload (hx : p.tables.exec = Jvm.exec) (hb : c.code = cc) {pc n k : Nat} {lo : List (Option Value)} {st : List Value} {M : Mem} {r : St ⊕ Ou} {i : Nat} (hd : decode cc pc = .ok (.aload i, n)) (hn : n = 2) (h : xi C pc lo st M k n (.aload i) = some r) (hF : FinR p l e R s m args below meth c Q A G C nL B o0 M0 r) : AW p l e R s m args below meth c Q A G C nL B (pc, lo, st, M, k) := by
  subst hn
  simp only [xi] at h
  split at h
  · rename_i x hg
    cases h
    intro H locs ls hP hS hL hl
    exact lv_aload hx hb hd (lvl_get hl hg) (hF H locs ls hP hS hL hl)
  · cases h

theorem sn_istore_n (hx : p.tables.exec = Jvm.exec) (hb : c.code = cc) {pc n k : Nat} {lo : List (Option Value)} {st : List Value} {M : Mem} {r : St ⊕ Ou} {i : Fin 4} (hd : decode cc pc = .ok (.istore_n i, n)) (hn : n = 1) (h : xi C pc lo st M k n (.istore_n i) = some r) (hF : FinR p l e R s m args below meth c Q A G C nL B o0 M0 r) : AW p l e R s m args below meth c Q A G C nL B (pc, lo, st, M, k) := by
  subst hn
  simp only [xi] at h
  split at h
  · rename_i x r0
    cases hlt : Nat.blt ((i : Nat)) lo.length with
    | false => rw [hlt] at h; cases h
    | true =>
      rw [hlt] at h
      cases h
      intro H locs ls hP hS hL hl
      have hL : lo.length = nL := hL
      have hlt' : (i : Nat) < nL := by rw [← hL]; exact Nat.le_of_ble_eq_true hlt
      exact lv_istore_n hx hb hd rfl hl hlt' rfl (fun ls' hl' => hF H locs ls' hP hS (by show (st1 lo (i : Nat) _).length = nL; rw [st1_len]; exact hL) (st1_lv (v := .int x) hl'))
  · cases h

theorem sn_istore (hx : p.tables.exec = Jvm.exec) (hb : c.code = cc) {pc n k : Nat} {lo : List (Option Value)} {st : List Value} {M : Mem} {r : St ⊕ Ou} {i : Nat} (hd : decode cc pc = .ok (.istore i, n)) (hn : n = 2) (h : xi C pc lo st M k n (.istore i) = some r) (hF : FinR p l e R s m args below meth c Q A G C nL B o0 M0 r) : AW p l e R s m args below meth c Q A G C nL B (pc, lo, st, M, k) := by
  subst hn
  simp only [xi] at h
  split at h
  · rename_i x r0
    cases hlt : Nat.blt (i) lo.length with
    | false => rw [hlt] at h; cases h
    | true =>
      rw [hlt] at h
      cases h
      intro H locs ls hP hS hL hl
      have hL : lo.length = nL := hL
      have hlt' : i < nL := by rw [← hL]; exact Nat.le_of_ble_eq_true hlt
      exact lv_istore hx hb hd hl hlt' rfl (fun ls' hl' => hF H locs ls' hP hS (by show (st1 lo i _).length = nL; rw [st1_len]; exact hL) (st1_lv (v := .int x) hl'))
  · cases h

theorem sn_lstore_n (hx : p.tables.exec = Jvm.exec) (hb : c.code = cc) {pc n k : Nat} {lo : List (Option Value)} {st : List Value} {M : Mem} {r : St ⊕ Ou} {i : Fin 4} (hd : decode cc pc = .ok (.lstore_n i, n)) (hn : n = 1) (h : xi C pc lo st M k n (.lstore_n i) = some r) (hF : FinR p l e R s m args below meth c Q A G C nL B o0 M0 r) : AW p l e R s m args below meth c Q A G C nL B (pc, lo, st, M, k) := by
  subst hn
  simp only [xi] at h
  split at h
  · rename_i x r0
    cases hlt : Nat.blt ((i : Nat) + 1) lo.length with
    | false => rw [hlt] at h; cases h
    | true =>
      rw [hlt] at h
      cases h
      intro H locs ls hP hS hL hl
      have hL : lo.length = nL := hL
      have hlt' : (i : Nat) + 1 < nL := by rw [← hL]; exact Nat.le_of_ble_eq_true hlt
      exact lv_lstore_n hx hb hd rfl hl hlt' rfl (fun ls' hl' => hF H locs ls' hP hS (by show (st2 lo (i : Nat) _).length = nL; rw [st2_len]; exact hL) (st2_lv (v := .long x) hl'))
  · cases h

theorem sn_lstore (hx : p.tables.exec = Jvm.exec) (hb : c.code = cc) {pc n k : Nat} {lo : List (Option Value)} {st : List Value} {M : Mem} {r : St ⊕ Ou} {i : Nat} (hd : decode cc pc = .ok (.lstore i, n)) (hn : n = 2) (h : xi C pc lo st M k n (.lstore i) = some r) (hF : FinR p l e R s m args below meth c Q A G C nL B o0 M0 r) : AW p l e R s m args below meth c Q A G C nL B (pc, lo, st, M, k) := by
  subst hn
  simp only [xi] at h
  split at h
  · rename_i x r0
    cases hlt : Nat.blt (i + 1) lo.length with
    | false => rw [hlt] at h; cases h
    | true =>
      rw [hlt] at h
      cases h
      intro H locs ls hP hS hL hl
      have hL : lo.length = nL := hL
      have hlt' : i + 1 < nL := by rw [← hL]; exact Nat.le_of_ble_eq_true hlt
      exact lv_lstore hx hb hd hl hlt' rfl (fun ls' hl' => hF H locs ls' hP hS (by show (st2 lo i _).length = nL; rw [st2_len]; exact hL) (st2_lv (v := .long x) hl'))
  · cases h

theorem sn_astore_n (hx : p.tables.exec = Jvm.exec) (hb : c.code = cc) {pc n k : Nat} {lo : List (Option Value)} {st : List Value} {M : Mem} {r : St ⊕ Ou} {i : Fin 4} (hd : decode cc pc = .ok (.astore_n i, n)) (hn : n = 1) (h : xi C pc lo st M k n (.astore_n i) = some r) (hF : FinR p l e R s m args below meth c Q A G C nL B o0 M0 r) : AW p l e R s m args below meth c Q A G C nL B (pc, lo, st, M, k) := by
  subst hn
  simp only [xi] at h
  split at h
  · rename_i x r0
    cases hlt : Nat.blt ((i : Nat)) lo.length with
    | false => rw [hlt] at h; cases h
    | true =>
      rw [hlt] at h
      cases h
      intro H locs ls hP hS hL hl
      have hL : lo.length = nL := hL
      have hlt' : (i : Nat) < nL := by rw [← hL]; exact Nat.le_of_ble_eq_true hlt
      exact lv_astore_n hx hb hd rfl hl hlt' rfl (fun ls' hl' => hF H locs ls' hP hS (by show (st1 lo (i : Nat) _).length = nL; rw [st1_len]; exact hL) (st1_lv (v := .ref x) hl'))
  · cases h

theorem sn_astore (hx : p.tables.exec = Jvm.exec) (hb : c.code = cc) {pc n k : Nat} {lo : List (Option Value)} {st : List Value} {M : Mem} {r : St ⊕ Ou} {i : Nat} (hd : decode cc pc = .ok (.astore i, n)) (hn : n = 2) (h : xi C pc lo st M k n (.astore i) = some r) (hF : FinR p l e R s m args below meth c Q A G C nL B o0 M0 r) : AW p l e R s m args below meth c Q A G C nL B (pc, lo, st, M, k) := by
  subst hn
  simp only [xi] at h
  split at h
  · rename_i x r0
    cases hlt : Nat.blt (i) lo.length with
    | false => rw [hlt] at h; cases h
    | true =>
      rw [hlt] at h
      cases h
      intro H locs ls hP hS hL hl
      have hL : lo.length = nL := hL
      have hlt' : i < nL := by rw [← hL]; exact Nat.le_of_ble_eq_true hlt
      exact lv_astore hx hb hd hl hlt' rfl (fun ls' hl' => hF H locs ls' hP hS (by show (st1 lo i _).length = nL; rw [st1_len]; exact hL) (st1_lv (v := .ref x) hl'))
  · cases h

theorem sn_iinc (hx : p.tables.exec = Jvm.exec) (hb : c.code = cc) {pc n k : Nat} {lo : List (Option Value)} {st : List Value} {M : Mem} {r : St ⊕ Ou} {i : Nat} {v : Int} (hd : decode cc pc = .ok (.iinc i v, n)) (hn : n = 3) (h : xi C pc lo st M k n (.iinc i v) = some r) (hF : FinR p l e R s m args below meth c Q A G C nL B o0 M0 r) : AW p l e R s m args below meth c Q A G C nL B (pc, lo, st, M, k) := by
  subst hn
  simp only [xi] at h
  split at h
  · rename_i x hg
    cases h
    intro H locs ls hP hS hL hl
    have hL : lo.length = nL := hL
    have hlt' : i < nL := by rw [← hL]; exact (List.getElem?_eq_some_iff.mp hg).1
    obtain ⟨q, hq⟩ := List.getElem?_of_mem (lvl_mem (G := G).mpr ⟨_, hg, rfl⟩)
    exact lv_iinc hx hb hd hl hq rfl hlt' rfl (fun ls' hl' => hF H locs ls' hP hS (by show (st1 lo i _).length = nL; rw [st1_len]; exact hL) (st1_lv (v := .int (x + Int32.ofInt v)) hl'))
  · cases h

theorem sn_iadd (hx : p.tables.exec = Jvm.exec) (hb : c.code = cc) {pc n k : Nat} {lo : List (Option Value)} {st : List Value} {M : Mem} {r : St ⊕ Ou} (hd : decode cc pc = .ok (.iadd, n)) (hn : n = 1) (h : xi C pc lo st M k n (.iadd) = some r) (hF : FinR p l e R s m args below meth c Q A G C nL B o0 M0 r) : AW p l e R s m args below meth c Q A G C nL B (pc, lo, st, M, k) := by
  subst hn
  simp only [xi] at h
  split at h
  · cases h
    intro H locs ls hP hS hL hl
    exact lv_iadd hx hb hd  (hF H locs ls hP hS hL hl)
  · cases h

theorem sn_isub (hx : p.tables.exec = Jvm.exec) (hb : c.code = cc) {pc n k : Nat} {lo : List (Option Value)} {st : List Value} {M : Mem} {r : St ⊕ Ou} (hd : decode cc pc = .ok (.isub, n)) (hn : n = 1) (h : xi C pc lo st M k n (.isub) = some r) (hF : FinR p l e R s m args below meth c Q A G C nL B o0 M0 r) : AW p l e R s m args below meth c Q A G C nL B (pc, lo, st, M, k) := by
  subst hn
  simp only [xi] at h
  split at h
  · cases h
    intro H locs ls hP hS hL hl
    exact lv_isub hx hb hd  (hF H locs ls hP hS hL hl)
  · cases h

theorem sn_imul (hx : p.tables.exec = Jvm.exec) (hb : c.code = cc) {pc n k : Nat} {lo : List (Option Value)} {st : List Value} {M : Mem} {r : St ⊕ Ou} (hd : decode cc pc = .ok (.imul, n)) (hn : n = 1) (h : xi C pc lo st M k n (.imul) = some r) (hF : FinR p l e R s m args below meth c Q A G C nL B o0 M0 r) : AW p l e R s m args below meth c Q A G C nL B (pc, lo, st, M, k) := by
  subst hn
  simp only [xi] at h
  split at h
  · cases h
    intro H locs ls hP hS hL hl
    exact lv_imul hx hb hd  (hF H locs ls hP hS hL hl)
  · cases h

theorem sn_iand (hx : p.tables.exec = Jvm.exec) (hb : c.code = cc) {pc n k : Nat} {lo : List (Option Value)} {st : List Value} {M : Mem} {r : St ⊕ Ou} (hd : decode cc pc = .ok (.iand, n)) (hn : n = 1) (h : xi C pc lo st M k n (.iand) = some r) (hF : FinR p l e R s m args below meth c Q A G C nL B o0 M0 r) : AW p l e R s m args below meth c Q A G C nL B (pc, lo, st, M, k) := by
  subst hn
  simp only [xi] at h
  split at h
  · cases h
    intro H locs ls hP hS hL hl
    exact lv_iand hx hb hd  (hF H locs ls hP hS hL hl)
  · cases h

theorem sn_ior (hx : p.tables.exec = Jvm.exec) (hb : c.code = cc) {pc n k : Nat} {lo : List (Option Value)} {st : List Value} {M : Mem} {r : St ⊕ Ou} (hd : decode cc pc = .ok (.ior, n)) (hn : n = 1) (h : xi C pc lo st M k n (.ior) = some r) (hF : FinR p l e R s m args below meth c Q A G C nL B o0 M0 r) : AW p l e R s m args below meth c Q A G C nL B (pc, lo, st, M, k) := by
  subst hn
  simp only [xi] at h
  split at h
  · cases h
    intro H locs ls hP hS hL hl
    exact lv_ior hx hb hd  (hF H locs ls hP hS hL hl)
  · cases h

theorem sn_ixor (hx : p.tables.exec = Jvm.exec) (hb : c.code = cc) {pc n k : Nat} {lo : List (Option Value)} {st : List Value} {M : Mem} {r : St ⊕ Ou} (hd : decode cc pc = .ok (.ixor, n)) (hn : n = 1) (h : xi C pc lo st M k n (.ixor) = some r) (hF : FinR p l e R s m args below meth c Q A G C nL B o0 M0 r) : AW p l e R s m args below meth c Q A G C nL B (pc, lo, st, M, k) := by
  subst hn
  simp only [xi] at h
  split at h
  · cases h
    intro H locs ls hP hS hL hl
    exact lv_ixor hx hb hd  (hF H locs ls hP hS hL hl)
  · cases h

theorem sn_ishl (hx : p.tables.exec = Jvm.exec) (hb : c.code = cc) {pc n k : Nat} {lo : List (Option Value)} {st : List Value} {M : Mem} {r : St ⊕ Ou} (hd : decode cc pc = .ok (.ishl, n)) (hn : n = 1) (h : xi C pc lo st M k n (.ishl) = some r) (hF : FinR p l e R s m args below meth c Q A G C nL B o0 M0 r) : AW p l e R s m args below meth c Q A G C nL B (pc, lo, st, M, k) := by
  subst hn
  simp only [xi] at h
  split at h
  · cases h
    intro H locs ls hP hS hL hl
    exact lv_ishl hx hb hd  (hF H locs ls hP hS hL hl)
  · cases h

theorem sn_iushr (hx : p.tables.exec = Jvm.exec) (hb : c.code = cc) {pc n k : Nat} {lo : List (Option Value)} {st : List Value} {M : Mem} {r : St ⊕ Ou} (hd : decode cc pc = .ok (.iushr, n)) (hn : n = 1) (h : xi C pc lo st M k n (.iushr) = some r) (hF : FinR p l e R s m args below meth c Q A G C nL B o0 M0 r) : AW p l e R s m args below meth c Q A G C nL B (pc, lo, st, M, k) := by
  subst hn
  simp only [xi] at h
  split at h
  · cases h
    intro H locs ls hP hS hL hl
    exact lv_iushr hx hb hd rfl (hF H locs ls hP hS hL hl)
  · cases h

theorem sn_ladd (hx : p.tables.exec = Jvm.exec) (hb : c.code = cc) {pc n k : Nat} {lo : List (Option Value)} {st : List Value} {M : Mem} {r : St ⊕ Ou} (hd : decode cc pc = .ok (.ladd, n)) (hn : n = 1) (h : xi C pc lo st M k n (.ladd) = some r) (hF : FinR p l e R s m args below meth c Q A G C nL B o0 M0 r) : AW p l e R s m args below meth c Q A G C nL B (pc, lo, st, M, k) := by
  subst hn
  simp only [xi] at h
  split at h
  · cases h
    intro H locs ls hP hS hL hl
    exact lv_ladd hx hb hd  (hF H locs ls hP hS hL hl)
  · cases h

theorem sn_lsub (hx : p.tables.exec = Jvm.exec) (hb : c.code = cc) {pc n k : Nat} {lo : List (Option Value)} {st : List Value} {M : Mem} {r : St ⊕ Ou} (hd : decode cc pc = .ok (.lsub, n)) (hn : n = 1) (h : xi C pc lo st M k n (.lsub) = some r) (hF : FinR p l e R s m args below meth c Q A G C nL B o0 M0 r) : AW p l e R s m args below meth c Q A G C nL B (pc, lo, st, M, k) := by
  subst hn
  simp only [xi] at h
  split at h
  · cases h
    intro H locs ls hP hS hL hl
    exact lv_lsub hx hb hd  (hF H locs ls hP hS hL hl)
  · cases h

theorem sn_lmul (hx : p.tables.exec = Jvm.exec) (hb : c.code = cc) {pc n k : Nat} {lo : List (Option Value)} {st : List Value} {M : Mem} {r : St ⊕ Ou} (hd : decode cc pc = .ok (.lmul, n)) (hn : n = 1) (h : xi C pc lo st M k n (.lmul) = some r) (hF : FinR p l e R s m args below meth c Q A G C nL B o0 M0 r) : AW p l e R s m args below meth c Q A G C nL B (pc, lo, st, M, k) := by
  subst hn
  simp only [xi] at h
  split at h
  · cases h
    intro H locs ls hP hS hL hl
    exact lv_lmul hx hb hd  (hF H locs ls hP hS hL hl)
  · cases h

theorem sn_land (hx : p.tables.exec = Jvm.exec) (hb : c.code = cc) {pc n k : Nat} {lo : List (Option Value)} {st : List Value} {M : Mem} {r : St ⊕ Ou} (hd : decode cc pc = .ok (.land, n)) (hn : n = 1) (h : xi C pc lo st M k n (.land) = some r) (hF : FinR p l e R s m args below meth c Q A G C nL B o0 M0 r) : AW p l e R s m args below meth c Q A G C nL B (pc, lo, st, M, k) := by
  subst hn
  simp only [xi] at h
  split at h
  · cases h
    intro H locs ls hP hS hL hl
    exact lv_land hx hb hd  (hF H locs ls hP hS hL hl)
  · cases h

theorem sn_lor (hx : p.tables.exec = Jvm.exec) (hb : c.code = cc) {pc n k : Nat} {lo : List (Option Value)} {st : List Value} {M : Mem} {r : St ⊕ Ou} (hd : decode cc pc = .ok (.lor, n)) (hn : n = 1) (h : xi C pc lo st M k n (.lor) = some r) (hF : FinR p l e R s m args below meth c Q A G C nL B o0 M0 r) : AW p l e R s m args below meth c Q A G C nL B (pc, lo, st, M, k) := by
  subst hn
  simp only [xi] at h
  split at h
  · cases h
    intro H locs ls hP hS hL hl
    exact lv_lor hx hb hd  (hF H locs ls hP hS hL hl)
  · cases h

theorem sn_lxor (hx : p.tables.exec = Jvm.exec) (hb : c.code = cc) {pc n k : Nat} {lo : List (Option Value)} {st : List Value} {M : Mem} {r : St ⊕ Ou} (hd : decode cc pc = .ok (.lxor, n)) (hn : n = 1) (h : xi C pc lo st M k n (.lxor) = some r) (hF : FinR p l e R s m args below meth c Q A G C nL B o0 M0 r) : AW p l e R s m args below meth c Q A G C nL B (pc, lo, st, M, k) := by
  subst hn
  simp only [xi] at h
  split at h
  · cases h
    intro H locs ls hP hS hL hl
    exact lv_lxor hx hb hd  (hF H locs ls hP hS hL hl)
  · cases h

theorem sn_lshl (hx : p.tables.exec = Jvm.exec) (hb : c.code = cc) {pc n k : Nat} {lo : List (Option Value)} {st : List Value} {M : Mem} {r : St ⊕ Ou} (hd : decode cc pc = .ok (.lshl, n)) (hn : n = 1) (h : xi C pc lo st M k n (.lshl) = some r) (hF : FinR p l e R s m args below meth c Q A G C nL B o0 M0 r) : AW p l e R s m args below meth c Q A G C nL B (pc, lo, st, M, k) := by
  subst hn
  simp only [xi] at h
  split at h
  · cases h
    intro H locs ls hP hS hL hl
    exact lv_lshl hx hb hd rfl (hF H locs ls hP hS hL hl)
  · cases h

theorem sn_lushr (hx : p.tables.exec = Jvm.exec) (hb : c.code = cc) {pc n k : Nat} {lo : List (Option Value)} {st : List Value} {M : Mem} {r : St ⊕ Ou} (hd : decode cc pc = .ok (.lushr, n)) (hn : n = 1) (h : xi C pc lo st M k n (.lushr) = some r) (hF : FinR p l e R s m args below meth c Q A G C nL B o0 M0 r) : AW p l e R s m args below meth c Q A G C nL B (pc, lo, st, M, k) := by
  subst hn
  simp only [xi] at h
  split at h
  · cases h
    intro H locs ls hP hS hL hl
    exact lv_lushr hx hb hd rfl (hF H locs ls hP hS hL hl)
  · cases h

theorem sn_i2l (hx : p.tables.exec = Jvm.exec) (hb : c.code = cc) {pc n k : Nat} {lo : List (Option Value)} {st : List Value} {M : Mem} {r : St ⊕ Ou} (hd : decode cc pc = .ok (.i2l, n)) (hn : n = 1) (h : xi C pc lo st M k n (.i2l) = some r) (hF : FinR p l e R s m args below meth c Q A G C nL B o0 M0 r) : AW p l e R s m args below meth c Q A G C nL B (pc, lo, st, M, k) := by
  subst hn
  simp only [xi] at h
  split at h
  · cases h
    intro H locs ls hP hS hL hl
    exact lv_i2l hx hb hd rfl (hF H locs ls hP hS hL hl)
  · cases h

theorem sn_l2i (hx : p.tables.exec = Jvm.exec) (hb : c.code = cc) {pc n k : Nat} {lo : List (Option Value)} {st : List Value} {M : Mem} {r : St ⊕ Ou} (hd : decode cc pc = .ok (.l2i, n)) (hn : n = 1) (h : xi C pc lo st M k n (.l2i) = some r) (hF : FinR p l e R s m args below meth c Q A G C nL B o0 M0 r) : AW p l e R s m args below meth c Q A G C nL B (pc, lo, st, M, k) := by
  subst hn
  simp only [xi] at h
  split at h
  · cases h
    intro H locs ls hP hS hL hl
    exact lv_l2i hx hb hd rfl (hF H locs ls hP hS hL hl)
  · cases h

theorem sn_ineg (hx : p.tables.exec = Jvm.exec) (hb : c.code = cc) {pc n k : Nat} {lo : List (Option Value)} {st : List Value} {M : Mem} {r : St ⊕ Ou} (hd : decode cc pc = .ok (.ineg, n)) (hn : n = 1) (h : xi C pc lo st M k n (.ineg) = some r) (hF : FinR p l e R s m args below meth c Q A G C nL B o0 M0 r) : AW p l e R s m args below meth c Q A G C nL B (pc, lo, st, M, k) := by
  subst hn
  simp only [xi] at h
  split at h
  · cases h
    intro H locs ls hP hS hL hl
    exact lv_ineg hx hb hd (hF H locs ls hP hS hL hl)
  · cases h

theorem sn_idiv (hx : p.tables.exec = Jvm.exec) (hb : c.code = cc) {pc n k : Nat} {lo : List (Option Value)} {st : List Value} {M : Mem} {r : St ⊕ Ou} (hd : decode cc pc = .ok (.idiv, n)) (hn : n = 1) (h : xi C pc lo st M k n (.idiv) = some r) (hF : FinR p l e R s m args below meth c Q A G C nL B o0 M0 r) : AW p l e R s m args below meth c Q A G C nL B (pc, lo, st, M, k) := by
  subst hn
  simp only [xi] at h
  split at h
  · split at h
    · cases h
    · rename_i hne
      cases h
      intro H locs ls hP hS hL hl
      exact lv_idiv hx hb hd hne (hF H locs ls hP hS hL hl)
  · cases h

theorem sn_irem (hx : p.tables.exec = Jvm.exec) (hb : c.code = cc) {pc n k : Nat} {lo : List (Option Value)} {st : List Value} {M : Mem} {r : St ⊕ Ou} (hd : decode cc pc = .ok (.irem, n)) (hn : n = 1) (h : xi C pc lo st M k n (.irem) = some r) (hF : FinR p l e R s m args below meth c Q A G C nL B o0 M0 r) : AW p l e R s m args below meth c Q A G C nL B (pc, lo, st, M, k) := by
  subst hn
  simp only [xi] at h
  split at h
  · split at h
    · cases h
    · rename_i hne
      cases h
      intro H locs ls hP hS hL hl
      exact lv_irem hx hb hd hne (hF H locs ls hP hS hL hl)
  · cases h

theorem sn_lrem (hx : p.tables.exec = Jvm.exec) (hb : c.code = cc) {pc n k : Nat} {lo : List (Option Value)} {st : List Value} {M : Mem} {r : St ⊕ Ou} (hd : decode cc pc = .ok (.lrem, n)) (hn : n = 1) (h : xi C pc lo st M k n (.lrem) = some r) (hF : FinR p l e R s m args below meth c Q A G C nL B o0 M0 r) : AW p l e R s m args below meth c Q A G C nL B (pc, lo, st, M, k) := by
  subst hn
  simp only [xi] at h
  split at h
  · split at h
    · cases h
    · rename_i hne
      cases h
      intro H locs ls hP hS hL hl
      exact lv_lrem hx hb hd hne (hF H locs ls hP hS hL hl)
  · cases h

theorem sn_lcmp (hx : p.tables.exec = Jvm.exec) (hb : c.code = cc) {pc n k : Nat} {lo : List (Option Value)} {st : List Value} {M : Mem} {r : St ⊕ Ou} (hd : decode cc pc = .ok (.lcmp, n)) (hn : n = 1) (h : xi C pc lo st M k n (.lcmp) = some r) (hF : FinR p l e R s m args below meth c Q A G C nL B o0 M0 r) : AW p l e R s m args below meth c Q A G C nL B (pc, lo, st, M, k) := by
  subst hn
  simp only [xi] at h
  split at h
  · cases h
    intro H locs ls hP hS hL hl
    exact W.lcmp hx hb hd (hF H locs ls hP hS hL hl)
  · cases h

theorem sn_dup (hx : p.tables.exec = Jvm.exec) (hb : c.code = cc) {pc n k : Nat} {lo : List (Option Value)} {st : List Value} {M : Mem} {r : St ⊕ Ou} (hd : decode cc pc = .ok (.dup, n)) (hn : n = 1) (h : xi C pc lo st M k n (.dup) = some r) (hF : FinR p l e R s m args below meth c Q A G C nL B o0 M0 r) : AW p l e R s m args below meth c Q A G C nL B (pc, lo, st, M, k) := by
  subst hn
  simp only [xi] at h
  split at h
  · cases h
    intro H locs ls hP hS hL hl
    exact lv_dup hx hb hd rfl (hF H locs ls hP hS hL hl)
  · cases h
    intro H locs ls hP hS hL hl
    exact lv_dup hx hb hd rfl (hF H locs ls hP hS hL hl)
  · cases h

theorem sn_dup2 (hx : p.tables.exec = Jvm.exec) (hb : c.code = cc) {pc n k : Nat} {lo : List (Option Value)} {st : List Value} {M : Mem} {r : St ⊕ Ou} (hd : decode cc pc = .ok (.dup2, n)) (hn : n = 1) (h : xi C pc lo st M k n (.dup2) = some r) (hF : FinR p l e R s m args below meth c Q A G C nL B o0 M0 r) : AW p l e R s m args below meth c Q A G C nL B (pc, lo, st, M, k) := by
  subst hn
  simp only [xi] at h
  split at h
  · cases h
    intro H locs ls hP hS hL hl
    exact lv_dup2_11 hx hb hd rfl rfl (hF H locs ls hP hS hL hl)
  · cases h

theorem sn_goto (hx : p.tables.exec = Jvm.exec) (hb : c.code = cc) {pc n k : Nat} {lo : List (Option Value)} {st : List Value} {M : Mem} {r : St ⊕ Ou} {off : Int} (hd : decode cc pc = .ok (.goto off, n)) (hn : n = 3) (h : xi C pc lo st M k n (.goto off) = some r) (hF : FinR p l e R s m args below meth c Q A G C nL B o0 M0 r) : AW p l e R s m args below meth c Q A G C nL B (pc, lo, st, M, k) := by
  subst hn
  simp only [xi] at h
  cases ht : tgtok pc off with
  | false => rw [ht] at h; cases h
  | true =>
    rw [ht] at h
    cases h
    intro H locs ls hP hS hL hl
    exact lv_goto hx hb hd (tgt_ok ht) (hF H locs ls hP hS hL hl)

theorem sn_ifCond_eq (hx : p.tables.exec = Jvm.exec) (hb : c.code = cc) {pc n k : Nat} {lo : List (Option Value)} {st : List Value} {M : Mem} {r : St ⊕ Ou} {off : Int} (hd : decode cc pc = .ok (.ifCond .eq off, n)) (hn : n = 3) (h : xi C pc lo st M k n (.ifCond .eq off) = some r) (hF : FinR p l e R s m args below meth c Q A G C nL B o0 M0 r) : AW p l e R s m args below meth c Q A G C nL B (pc, lo, st, M, k) := by
  subst hn
  simp only [xi] at h
  split at h
  · rename_i x r0
    cases ht : tgtok pc off with
    | false => rw [ht] at h; cases h
    | true =>
      rw [ht] at h
      cases h
      intro H locs ls hP hS hL hl
      refine lv_if_eq hx hb hd (tgt_ok ht) (fun hc => ?_) (fun hc => ?_)
      · have hF := hF H locs ls hP hS hL hl
        first
          | (simp only [br, decide_eq_true hc, Bool.not_true, Bool.not_false, cond_true, cond_false] at hF; exact hF)
          | (simp only [br, decide_eq_false hc, Bool.not_true, Bool.not_false, cond_true, cond_false] at hF; exact hF)
          | (simp only [br, decide_eq_false (Int32.not_lt.mpr hc), Bool.not_true, Bool.not_false, cond_true, cond_false] at hF; exact hF)
          | (simp only [br, decide_eq_false (Int32.not_le.mpr hc), Bool.not_true, Bool.not_false, cond_true, cond_false] at hF; exact hF)
      · have hF := hF H locs ls hP hS hL hl
        first
          | (simp only [br, decide_eq_true hc, Bool.not_true, Bool.not_false, cond_true, cond_false] at hF; exact hF)
          | (simp only [br, decide_eq_false hc, Bool.not_true, Bool.not_false, cond_true, cond_false] at hF; exact hF)
          | (simp only [br, decide_eq_true (Decidable.not_not.mp hc), Bool.not_true, Bool.not_false, cond_true, cond_false] at hF; exact hF)
          | (simp only [br, decide_eq_true (Int32.not_le.mp hc), Bool.not_true, Bool.not_false, cond_true, cond_false] at hF; exact hF)
          | (simp only [br, decide_eq_true (Int32.not_lt.mp hc), Bool.not_true, Bool.not_false, cond_true, cond_false] at hF; exact hF)
  · cases h

theorem sn_ifCond_ne (hx : p.tables.exec = Jvm.exec) (hb : c.code = cc) {pc n k : Nat} {lo : List (Option Value)} {st : List Value} {M : Mem} {r : St ⊕ Ou} {off : Int} (hd : decode cc pc = .ok (.ifCond .ne off, n)) (hn : n = 3) (h : xi C pc lo st M k n (.ifCond .ne off) = some r) (hF : FinR p l e R s m args below meth c Q A G C nL B o0 M0 r) : AW p l e R s m args below meth c Q A G C nL B (pc, lo, st, M, k) := by
  subst hn
  simp only [xi] at h
  split at h
  · rename_i x r0
    cases ht : tgtok pc off with
    | false => rw [ht] at h; cases h
    | true =>
      rw [ht] at h
      cases h
      intro H locs ls hP hS hL hl
      refine lv_if_ne hx hb hd (tgt_ok ht) (fun hc => ?_) (fun hc => ?_)
      · have hF := hF H locs ls hP hS hL hl
        first
          | (simp only [br, decide_eq_true hc, Bool.not_true, Bool.not_false, cond_true, cond_false] at hF; exact hF)
          | (simp only [br, decide_eq_false hc, Bool.not_true, Bool.not_false, cond_true, cond_false] at hF; exact hF)
          | (simp only [br, decide_eq_false (Int32.not_lt.mpr hc), Bool.not_true, Bool.not_false, cond_true, cond_false] at hF; exact hF)
          | (simp only [br, decide_eq_false (Int32.not_le.mpr hc), Bool.not_true, Bool.not_false, cond_true, cond_false] at hF; exact hF)
      · have hF := hF H locs ls hP hS hL hl
        first
          | (simp only [br, decide_eq_true hc, Bool.not_true, Bool.not_false, cond_true, cond_false] at hF; exact hF)
          | (simp only [br, decide_eq_false hc, Bool.not_true, Bool.not_false, cond_true, cond_false] at hF; exact hF)
          | (simp only [br, decide_eq_true (Decidable.not_not.mp hc), Bool.not_true, Bool.not_false, cond_true, cond_false] at hF; exact hF)
          | (simp only [br, decide_eq_true (Int32.not_le.mp hc), Bool.not_true, Bool.not_false, cond_true, cond_false] at hF; exact hF)
          | (simp only [br, decide_eq_true (Int32.not_lt.mp hc), Bool.not_true, Bool.not_false, cond_true, cond_false] at hF; exact hF)
  · cases h

theorem sn_ifCond_lt (hx : p.tables.exec = Jvm.exec) (hb : c.code = cc) {pc n k : Nat} {lo : List (Option Value)} {st : List Value} {M : Mem} {r : St ⊕ Ou} {off : Int} (hd : decode cc pc = .ok (.ifCond .lt off, n)) (hn : n = 3) (h : xi C pc lo st M k n (.ifCond .lt off) = some r) (hF : FinR p l e R s m args below meth c Q A G C nL B o0 M0 r) : AW p l e R s m args below meth c Q A G C nL B (pc, lo, st, M, k) := by
  subst hn
  simp only [xi] at h
  split at h
  · rename_i x r0
    cases ht : tgtok pc off with
    | false => rw [ht] at h; cases h
    | true =>
      rw [ht] at h
      cases h
      intro H locs ls hP hS hL hl
      refine lv_if_lt hx hb hd (tgt_ok ht) (fun hc => ?_) (fun hc => ?_)
      · have hF := hF H locs ls hP hS hL hl
        first
          | (simp only [br, decide_eq_true hc, Bool.not_true, Bool.not_false, cond_true, cond_false] at hF; exact hF)
          | (simp only [br, decide_eq_false hc, Bool.not_true, Bool.not_false, cond_true, cond_false] at hF; exact hF)
          | (simp only [br, decide_eq_false (Int32.not_lt.mpr hc), Bool.not_true, Bool.not_false, cond_true, cond_false] at hF; exact hF)
          | (simp only [br, decide_eq_false (Int32.not_le.mpr hc), Bool.not_true, Bool.not_false, cond_true, cond_false] at hF; exact hF)
      · have hF := hF H locs ls hP hS hL hl
        first
          | (simp only [br, decide_eq_true hc, Bool.not_true, Bool.not_false, cond_true, cond_false] at hF; exact hF)
          | (simp only [br, decide_eq_false hc, Bool.not_true, Bool.not_false, cond_true, cond_false] at hF; exact hF)
          | (simp only [br, decide_eq_true (Decidable.not_not.mp hc), Bool.not_true, Bool.not_false, cond_true, cond_false] at hF; exact hF)
          | (simp only [br, decide_eq_true (Int32.not_le.mp hc), Bool.not_true, Bool.not_false, cond_true, cond_false] at hF; exact hF)
          | (simp only [br, decide_eq_true (Int32.not_lt.mp hc), Bool.not_true, Bool.not_false, cond_true, cond_false] at hF; exact hF)
  · cases h

theorem sn_ifCond_ge (hx : p.tables.exec = Jvm.exec) (hb : c.code = cc) {pc n k : Nat} {lo : List (Option Value)} {st : List Value} {M : Mem} {r : St ⊕ Ou} {off : Int} (hd : decode cc pc = .ok (.ifCond .ge off, n)) (hn : n = 3) (h : xi C pc lo st M k n (.ifCond .ge off) = some r) (hF : FinR p l e R s m args below meth c Q A G C nL B o0 M0 r) : AW p l e R s m args below meth c Q A G C nL B (pc, lo, st, M, k) := by
  subst hn
  simp only [xi] at h
  split at h
  · rename_i x r0
    cases ht : tgtok pc off with
    | false => rw [ht] at h; cases h
    | true =>
      rw [ht] at h
      cases h
      intro H locs ls hP hS hL hl
      refine lv_if_ge hx hb hd (tgt_ok ht) (fun hc => ?_) (fun hc => ?_)
      · have hF := hF H locs ls hP hS hL hl
        first
          | (simp only [br, decide_eq_true hc, Bool.not_true, Bool.not_false, cond_true, cond_false] at hF; exact hF)
          | (simp only [br, decide_eq_false hc, Bool.not_true, Bool.not_false, cond_true, cond_false] at hF; exact hF)
          | (simp only [br, decide_eq_false (Int32.not_lt.mpr hc), Bool.not_true, Bool.not_false, cond_true, cond_false] at hF; exact hF)
          | (simp only [br, decide_eq_false (Int32.not_le.mpr hc), Bool.not_true, Bool.not_false, cond_true, cond_false] at hF; exact hF)
      · have hF := hF H locs ls hP hS hL hl
        first
          | (simp only [br, decide_eq_true hc, Bool.not_true, Bool.not_false, cond_true, cond_false] at hF; exact hF)
          | (simp only [br, decide_eq_false hc, Bool.not_true, Bool.not_false, cond_true, cond_false] at hF; exact hF)
          | (simp only [br, decide_eq_true (Decidable.not_not.mp hc), Bool.not_true, Bool.not_false, cond_true, cond_false] at hF; exact hF)
          | (simp only [br, decide_eq_true (Int32.not_le.mp hc), Bool.not_true, Bool.not_false, cond_true, cond_false] at hF; exact hF)
          | (simp only [br, decide_eq_true (Int32.not_lt.mp hc), Bool.not_true, Bool.not_false, cond_true, cond_false] at hF; exact hF)
  · cases h

theorem sn_ifCond_gt (hx : p.tables.exec = Jvm.exec) (hb : c.code = cc) {pc n k : Nat} {lo : List (Option Value)} {st : List Value} {M : Mem} {r : St ⊕ Ou} {off : Int} (hd : decode cc pc = .ok (.ifCond .gt off, n)) (hn : n = 3) (h : xi C pc lo st M k n (.ifCond .gt off) = some r) (hF : FinR p l e R s m args below meth c Q A G C nL B o0 M0 r) : AW p l e R s m args below meth c Q A G C nL B (pc, lo, st, M, k) := by
  subst hn
  simp only [xi] at h
  split at h
  · rename_i x r0
    cases ht : tgtok pc off with
    | false => rw [ht] at h; cases h
    | true =>
      rw [ht] at h
      cases h
      intro H locs ls hP hS hL hl
      refine lv_if_gt hx hb hd (tgt_ok ht) (fun hc => ?_) (fun hc => ?_)
      · have hF := hF H locs ls hP hS hL hl
        first
          | (simp only [br, decide_eq_true hc, Bool.not_true, Bool.not_false, cond_true, cond_false] at hF; exact hF)
          | (simp only [br, decide_eq_false hc, Bool.not_true, Bool.not_false, cond_true, cond_false] at hF; exact hF)
          | (simp only [br, decide_eq_false (Int32.not_lt.mpr hc), Bool.not_true, Bool.not_false, cond_true, cond_false] at hF; exact hF)
          | (simp only [br, decide_eq_false (Int32.not_le.mpr hc), Bool.not_true, Bool.not_false, cond_true, cond_false] at hF; exact hF)
      · have hF := hF H locs ls hP hS hL hl
        first
          | (simp only [br, decide_eq_true hc, Bool.not_true, Bool.not_false, cond_true, cond_false] at hF; exact hF)
          | (simp only [br, decide_eq_false hc, Bool.not_true, Bool.not_false, cond_true, cond_false] at hF; exact hF)
          | (simp only [br, decide_eq_true (Decidable.not_not.mp hc), Bool.not_true, Bool.not_false, cond_true, cond_false] at hF; exact hF)
          | (simp only [br, decide_eq_true (Int32.not_le.mp hc), Bool.not_true, Bool.not_false, cond_true, cond_false] at hF; exact hF)
          | (simp only [br, decide_eq_true (Int32.not_lt.mp hc), Bool.not_true, Bool.not_false, cond_true, cond_false] at hF; exact hF)
  · cases h

theorem sn_ifCond_le (hx : p.tables.exec = Jvm.exec) (hb : c.code = cc) {pc n k : Nat} {lo : List (Option Value)} {st : List Value} {M : Mem} {r : St ⊕ Ou} {off : Int} (hd : decode cc pc = .ok (.ifCond .le off, n)) (hn : n = 3) (h : xi C pc lo st M k n (.ifCond .le off) = some r) (hF : FinR p l e R s m args below meth c Q A G C nL B o0 M0 r) : AW p l e R s m args below meth c Q A G C nL B (pc, lo, st, M, k) := by
  subst hn
  simp only [xi] at h
  split at h
  · rename_i x r0
    cases ht : tgtok pc off with
    | false => rw [ht] at h; cases h
    | true =>
      rw [ht] at h
      cases h
      intro H locs ls hP hS hL hl
      refine lv_if_le hx hb hd (tgt_ok ht) (fun hc => ?_) (fun hc => ?_)
      · have hF := hF H locs ls hP hS hL hl
        first
          | (simp only [br, decide_eq_true hc, Bool.not_true, Bool.not_false, cond_true, cond_false] at hF; exact hF)
          | (simp only [br, decide_eq_false hc, Bool.not_true, Bool.not_false, cond_true, cond_false] at hF; exact hF)
          | (simp only [br, decide_eq_false (Int32.not_lt.mpr hc), Bool.not_true, Bool.not_false, cond_true, cond_false] at hF; exact hF)
          | (simp only [br, decide_eq_false (Int32.not_le.mpr hc), Bool.not_true, Bool.not_false, cond_true, cond_false] at hF; exact hF)
      · have hF := hF H locs ls hP hS hL hl
        first
          | (simp only [br, decide_eq_true hc, Bool.not_true, Bool.not_false, cond_true, cond_false] at hF; exact hF)
          | (simp only [br, decide_eq_false hc, Bool.not_true, Bool.not_false, cond_true, cond_false] at hF; exact hF)
          | (simp only [br, decide_eq_true (Decidable.not_not.mp hc), Bool.not_true, Bool.not_false, cond_true, cond_false] at hF; exact hF)
          | (simp only [br, decide_eq_true (Int32.not_le.mp hc), Bool.not_true, Bool.not_false, cond_true, cond_false] at hF; exact hF)
          | (simp only [br, decide_eq_true (Int32.not_lt.mp hc), Bool.not_true, Bool.not_false, cond_true, cond_false] at hF; exact hF)
  · cases h

theorem sn_if_icmp_eq (hx : p.tables.exec = Jvm.exec) (hb : c.code = cc) {pc n k : Nat} {lo : List (Option Value)} {st : List Value} {M : Mem} {r : St ⊕ Ou} {off : Int} (hd : decode cc pc = .ok (.if_icmp .eq off, n)) (hn : n = 3) (h : xi C pc lo st M k n (.if_icmp .eq off) = some r) (hF : FinR p l e R s m args below meth c Q A G C nL B o0 M0 r) : AW p l e R s m args below meth c Q A G C nL B (pc, lo, st, M, k) := by
  subst hn
  simp only [xi] at h
  split at h
  · rename_i y x r0
    cases ht : tgtok pc off with
    | false => rw [ht] at h; cases h
    | true =>
      rw [ht] at h
      cases h
      intro H locs ls hP hS hL hl
      refine lv_icmp_eq hx hb hd (tgt_ok ht) (fun hc => ?_) (fun hc => ?_)
      · have hF := hF H locs ls hP hS hL hl
        first
          | (simp only [br, decide_eq_true hc, Bool.not_true, Bool.not_false, cond_true, cond_false] at hF; exact hF)
          | (simp only [br, decide_eq_false hc, Bool.not_true, Bool.not_false, cond_true, cond_false] at hF; exact hF)
          | (simp only [br, decide_eq_false (Int32.not_lt.mpr hc), Bool.not_true, Bool.not_false, cond_true, cond_false] at hF; exact hF)
          | (simp only [br, decide_eq_false (Int32.not_le.mpr hc), Bool.not_true, Bool.not_false, cond_true, cond_false] at hF; exact hF)
      · have hF := hF H locs ls hP hS hL hl
        first
          | (simp only [br, decide_eq_true hc, Bool.not_true, Bool.not_false, cond_true, cond_false] at hF; exact hF)
          | (simp only [br, decide_eq_false hc, Bool.not_true, Bool.not_false, cond_true, cond_false] at hF; exact hF)
          | (simp only [br, decide_eq_true (Decidable.not_not.mp hc), Bool.not_true, Bool.not_false, cond_true, cond_false] at hF; exact hF)
          | (simp only [br, decide_eq_true (Int32.not_le.mp hc), Bool.not_true, Bool.not_false, cond_true, cond_false] at hF; exact hF)
          | (simp only [br, decide_eq_true (Int32.not_lt.mp hc), Bool.not_true, Bool.not_false, cond_true, cond_false] at hF; exact hF)
  · cases h

theorem sn_if_icmp_ne (hx : p.tables.exec = Jvm.exec) (hb : c.code = cc) {pc n k : Nat} {lo : List (Option Value)} {st : List Value} {M : Mem} {r : St ⊕ Ou} {off : Int} (hd : decode cc pc = .ok (.if_icmp .ne off, n)) (hn : n = 3) (h : xi C pc lo st M k n (.if_icmp .ne off) = some r) (hF : FinR p l e R s m args below meth c Q A G C nL B o0 M0 r) : AW p l e R s m args below meth c Q A G C nL B (pc, lo, st, M, k) := by
  subst hn
  simp only [xi] at h
  split at h
  · rename_i y x r0
    cases ht : tgtok pc off with
    | false => rw [ht] at h; cases h
    | true =>
      rw [ht] at h
      cases h
      intro H locs ls hP hS hL hl
      refine lv_icmp_ne hx hb hd (tgt_ok ht) (fun hc => ?_) (fun hc => ?_)
      · have hF := hF H locs ls hP hS hL hl
        first
          | (simp only [br, decide_eq_true hc, Bool.not_true, Bool.not_false, cond_true, cond_false] at hF; exact hF)
          | (simp only [br, decide_eq_false hc, Bool.not_true, Bool.not_false, cond_true, cond_false] at hF; exact hF)
          | (simp only [br, decide_eq_false (Int32.not_lt.mpr hc), Bool.not_true, Bool.not_false, cond_true, cond_false] at hF; exact hF)
          | (simp only [br, decide_eq_false (Int32.not_le.mpr hc), Bool.not_true, Bool.not_false, cond_true, cond_false] at hF; exact hF)
      · have hF := hF H locs ls hP hS hL hl
        first
          | (simp only [br, decide_eq_true hc, Bool.not_true, Bool.not_false, cond_true, cond_false] at hF; exact hF)
          | (simp only [br, decide_eq_false hc, Bool.not_true, Bool.not_false, cond_true, cond_false] at hF; exact hF)
          | (simp only [br, decide_eq_true (Decidable.not_not.mp hc), Bool.not_true, Bool.not_false, cond_true, cond_false] at hF; exact hF)
          | (simp only [br, decide_eq_true (Int32.not_le.mp hc), Bool.not_true, Bool.not_false, cond_true, cond_false] at hF; exact hF)
          | (simp only [br, decide_eq_true (Int32.not_lt.mp hc), Bool.not_true, Bool.not_false, cond_true, cond_false] at hF; exact hF)
  · cases h

theorem sn_if_icmp_lt (hx : p.tables.exec = Jvm.exec) (hb : c.code = cc) {pc n k : Nat} {lo : List (Option Value)} {st : List Value} {M : Mem} {r : St ⊕ Ou} {off : Int} (hd : decode cc pc = .ok (.if_icmp .lt off, n)) (hn : n = 3) (h : xi C pc lo st M k n (.if_icmp .lt off) = some r) (hF : FinR p l e R s m args below meth c Q A G C nL B o0 M0 r) : AW p l e R s m args below meth c Q A G C nL B (pc, lo, st, M, k) := by
  subst hn
  simp only [xi] at h
  split at h
  · rename_i y x r0
    cases ht : tgtok pc off with
    | false => rw [ht] at h; cases h
    | true =>
      rw [ht] at h
      cases h
      intro H locs ls hP hS hL hl
      refine lv_icmp_lt hx hb hd (tgt_ok ht) (fun hc => ?_) (fun hc => ?_)
      · have hF := hF H locs ls hP hS hL hl
        first
          | (simp only [br, decide_eq_true hc, Bool.not_true, Bool.not_false, cond_true, cond_false] at hF; exact hF)
          | (simp only [br, decide_eq_false hc, Bool.not_true, Bool.not_false, cond_true, cond_false] at hF; exact hF)
          | (simp only [br, decide_eq_false (Int32.not_lt.mpr hc), Bool.not_true, Bool.not_false, cond_true, cond_false] at hF; exact hF)
          | (simp only [br, decide_eq_false (Int32.not_le.mpr hc), Bool.not_true, Bool.not_false, cond_true, cond_false] at hF; exact hF)
      · have hF := hF H locs ls hP hS hL hl
        first
          | (simp only [br, decide_eq_true hc, Bool.not_true, Bool.not_false, cond_true, cond_false] at hF; exact hF)
          | (simp only [br, decide_eq_false hc, Bool.not_true, Bool.not_false, cond_true, cond_false] at hF; exact hF)
          | (simp only [br, decide_eq_true (Decidable.not_not.mp hc), Bool.not_true, Bool.not_false, cond_true, cond_false] at hF; exact hF)
          | (simp only [br, decide_eq_true (Int32.not_le.mp hc), Bool.not_true, Bool.not_false, cond_true, cond_false] at hF; exact hF)
          | (simp only [br, decide_eq_true (Int32.not_lt.mp hc), Bool.not_true, Bool.not_false, cond_true, cond_false] at hF; exact hF)
  · cases h

theorem sn_if_icmp_ge (hx : p.tables.exec = Jvm.exec) (hb : c.code = cc) {pc n k : Nat} {lo : List (Option Value)} {st : List Value} {M : Mem} {r : St ⊕ Ou} {off : Int} (hd : decode cc pc = .ok (.if_icmp .ge off, n)) (hn : n = 3) (h : xi C pc lo st M k n (.if_icmp .ge off) = some r) (hF : FinR p l e R s m args below meth c Q A G C nL B o0 M0 r) : AW p l e R s m args below meth c Q A G C nL B (pc, lo, st, M, k) := by
  subst hn
  simp only [xi] at h
  split at h
  · rename_i y x r0
    cases ht : tgtok pc off with
    | false => rw [ht] at h; cases h
    | true =>
      rw [ht] at h
      cases h
      intro H locs ls hP hS hL hl
      refine lv_icmp_ge hx hb hd (tgt_ok ht) (fun hc => ?_) (fun hc => ?_)
      · have hF := hF H locs ls hP hS hL hl
        first
          | (simp only [br, decide_eq_true hc, Bool.not_true, Bool.not_false, cond_true, cond_false] at hF; exact hF)
          | (simp only [br, decide_eq_false hc, Bool.not_true, Bool.not_false, cond_true, cond_false] at hF; exact hF)
          | (simp only [br, decide_eq_false (Int32.not_lt.mpr hc), Bool.not_true, Bool.not_false, cond_true, cond_false] at hF; exact hF)
          | (simp only [br, decide_eq_false (Int32.not_le.mpr hc), Bool.not_true, Bool.not_false, cond_true, cond_false] at hF; exact hF)
      · have hF := hF H locs ls hP hS hL hl
        first
          | (simp only [br, decide_eq_true hc, Bool.not_true, Bool.not_false, cond_true, cond_false] at hF; exact hF)
          | (simp only [br, decide_eq_false hc, Bool.not_true, Bool.not_false, cond_true, cond_false] at hF; exact hF)
          | (simp only [br, decide_eq_true (Decidable.not_not.mp hc), Bool.not_true, Bool.not_false, cond_true, cond_false] at hF; exact hF)
          | (simp only [br, decide_eq_true (Int32.not_le.mp hc), Bool.not_true, Bool.not_false, cond_true, cond_false] at hF; exact hF)
          | (simp only [br, decide_eq_true (Int32.not_lt.mp hc), Bool.not_true, Bool.not_false, cond_true, cond_false] at hF; exact hF)
  · cases h

theorem sn_if_icmp_gt (hx : p.tables.exec = Jvm.exec) (hb : c.code = cc) {pc n k : Nat} {lo : List (Option Value)} {st : List Value} {M : Mem} {r : St ⊕ Ou} {off : Int} (hd : decode cc pc = .ok (.if_icmp .gt off, n)) (hn : n = 3) (h : xi C pc lo st M k n (.if_icmp .gt off) = some r) (hF : FinR p l e R s m args below meth c Q A G C nL B o0 M0 r) : AW p l e R s m args below meth c Q A G C nL B (pc, lo, st, M, k) := by
  subst hn
  simp only [xi] at h
  split at h
  · rename_i y x r0
    cases ht : tgtok pc off with
    | false => rw [ht] at h; cases h
    | true =>
      rw [ht] at h
      cases h
      intro H locs ls hP hS hL hl
      refine lv_icmp_gt hx hb hd (tgt_ok ht) (fun hc => ?_) (fun hc => ?_)
      · have hF := hF H locs ls hP hS hL hl
        first
          | (simp only [br, decide_eq_true hc, Bool.not_true, Bool.not_false, cond_true, cond_false] at hF; exact hF)
          | (simp only [br, decide_eq_false hc, Bool.not_true, Bool.not_false, cond_true, cond_false] at hF; exact hF)
          | (simp only [br, decide_eq_false (Int32.not_lt.mpr hc), Bool.not_true, Bool.not_false, cond_true, cond_false] at hF; exact hF)
          | (simp only [br, decide_eq_false (Int32.not_le.mpr hc), Bool.not_true, Bool.not_false, cond_true, cond_false] at hF; exact hF)
      · have hF := hF H locs ls hP hS hL hl
        first
          | (simp only [br, decide_eq_true hc, Bool.not_true, Bool.not_false, cond_true, cond_false] at hF; exact hF)
          | (simp only [br, decide_eq_false hc, Bool.not_true, Bool.not_false, cond_true, cond_false] at hF; exact hF)
          | (simp only [br, decide_eq_true (Decidable.not_not.mp hc), Bool.not_true, Bool.not_false, cond_true, cond_false] at hF; exact hF)
          | (simp only [br, decide_eq_true (Int32.not_le.mp hc), Bool.not_true, Bool.not_false, cond_true, cond_false] at hF; exact hF)
          | (simp only [br, decide_eq_true (Int32.not_lt.mp hc), Bool.not_true, Bool.not_false, cond_true, cond_false] at hF; exact hF)
  · cases h

theorem sn_if_icmp_le (hx : p.tables.exec = Jvm.exec) (hb : c.code = cc) {pc n k : Nat} {lo : List (Option Value)} {st : List Value} {M : Mem} {r : St ⊕ Ou} {off : Int} (hd : decode cc pc = .ok (.if_icmp .le off, n)) (hn : n = 3) (h : xi C pc lo st M k n (.if_icmp .le off) = some r) (hF : FinR p l e R s m args below meth c Q A G C nL B o0 M0 r) : AW p l e R s m args below meth c Q A G C nL B (pc, lo, st, M, k) := by
  subst hn
  simp only [xi] at h
  split at h
  · rename_i y x r0
    cases ht : tgtok pc off with
    | false => rw [ht] at h; cases h
    | true =>
      rw [ht] at h
      cases h
      intro H locs ls hP hS hL hl
      refine lv_icmp_le hx hb hd (tgt_ok ht) (fun hc => ?_) (fun hc => ?_)
      · have hF := hF H locs ls hP hS hL hl
        first
          | (simp only [br, decide_eq_true hc, Bool.not_true, Bool.not_false, cond_true, cond_false] at hF; exact hF)
          | (simp only [br, decide_eq_false hc, Bool.not_true, Bool.not_false, cond_true, cond_false] at hF; exact hF)
          | (simp only [br, decide_eq_false (Int32.not_lt.mpr hc), Bool.not_true, Bool.not_false, cond_true, cond_false] at hF; exact hF)
          | (simp only [br, decide_eq_false (Int32.not_le.mpr hc), Bool.not_true, Bool.not_false, cond_true, cond_false] at hF; exact hF)
      · have hF := hF H locs ls hP hS hL hl
        first
          | (simp only [br, decide_eq_true hc, Bool.not_true, Bool.not_false, cond_true, cond_false] at hF; exact hF)
          | (simp only [br, decide_eq_false hc, Bool.not_true, Bool.not_false, cond_true, cond_false] at hF; exact hF)
          | (simp only [br, decide_eq_true (Decidable.not_not.mp hc), Bool.not_true, Bool.not_false, cond_true, cond_false] at hF; exact hF)
          | (simp only [br, decide_eq_true (Int32.not_le.mp hc), Bool.not_true, Bool.not_false, cond_true, cond_false] at hF; exact hF)
          | (simp only [br, decide_eq_true (Int32.not_lt.mp hc), Bool.not_true, Bool.not_false, cond_true, cond_false] at hF; exact hF)
  · cases h

theorem sn_tableswitch (hx : p.tables.exec = Jvm.exec) (hb : c.code = cc) {pc n k : Nat} {lo : List (Option Value)} {st : List Value} {M : Mem} {r : St ⊕ Ou} {dflt lw hg : Int} {offs : Array Int} (hd : decode cc pc = .ok (.tableswitch dflt lw hg offs, n))  (h : xi C pc lo st M k n (.tableswitch dflt lw hg offs) = some r) (hF : FinR p l e R s m args below meth c Q A G C nL B o0 M0 r) : AW p l e R s m args below meth c Q A G C nL B (pc, lo, st, M, k) := by
  simp only [xi] at h
  split at h
  · rename_i x r0
    split at h
    · rename_i t ht
      cases h
      intro H locs ls hP hS hL hl
      unfold tsw at ht
      split at ht
      · rename_i hout
        split at ht
        · rename_i h0
          cases ht
          exact lv_tableOut hx hb hd hout (by unfold tgt; exact (Int.toNat_of_nonneg h0).symm) (hF H locs ls hP hS hL hl)
        · cases ht
      · rename_i hin
        split at ht
        · rename_i off hoff
          split at ht
          · rename_i h0
            cases ht
            exact lv_tableIn hx hb hd (fun z => hin (Or.inl z)) (fun z => hin (Or.inr z)) hoff (by unfold tgt; exact (Int.toNat_of_nonneg h0).symm) (hF H locs ls hP hS hL hl)
          · cases ht
        · cases ht
    · cases h
  · cases h

end Snd
