/-! THE MACHINE'S STEPS ON CELLS -/
theorem inb_in {i : Int32} {n : Nat} (h : inb i n = true) : vp_in i n := by
  unfold inb at h
  simp only [Bool.and_eq_true, decide_eq_true_eq] at h
  exact vp_in_iff.mpr h
def fldb (own : String) (e : Nat × Nat × Nat) : Bool := match LAY[e.2.1]? with
  | some (.inl (ci, tys)) => (match vwCl[ci]? with
    | some (_, T, N) => decide (tys.length = N) && decide (e.2.2 < N) && decide (Cond.fieldLink own e.1 (T e.2.2).1 (T e.2.2).2.1 (T e.2.2).2.2.1 ∈ TB) &&
      (match tys[e.2.2]? with
       | some 0 => !(T e.2.2).2.2.2 && decide (parseFieldDescriptor (T e.2.2).2.2.1 = some .int)
       | some 1 => !(T e.2.2).2.2.2 && decide (parseFieldDescriptor (T e.2.2).2.2.1 = some .long)
       | _ => true)
    | none => false)
  | _ => false
theorem cls_ok : ∀ (ci : Nat) (q : vw_C), vwCl[ci]? = some q → (∀ w ∈ u_ws q.1 q.2.1 q.2.2, w ∈ TB) ∧ (∃ ty0 : Nat → FieldType, ∀ k, k < q.2.2 → parseFieldDescriptor (q.2.1 k).2.2.1 = some (ty0 k)) ∧ (∀ a, a < q.2.2 → ∀ b, b < q.2.2 → a ≠ b → (q.2.1 a).2.1 ≠ (q.2.1 b).2.1) := by
  intro ci q h
  match ci, h with
  | 0, h => cases h; exact ⟨by decide +kernel, ⟨tyX0, tyX0_ok⟩, nmX0⟩
  | 1, h => cases h; exact ⟨by decide +kernel, ⟨tyX1, tyX1_ok⟩, nmX1⟩
  | 2, h => cases h; exact ⟨by decide +kernel, ⟨tyX2, tyX2_ok⟩, nmX2⟩
  | 3, h => cases h; exact ⟨by decide +kernel, ⟨tyX3, tyX3_ok⟩, nmX3⟩
  | 4, h => cases h; exact ⟨by decide +kernel, ⟨tyX6, tyX6_ok⟩, nmX6⟩
  | 5, h => cases h; exact ⟨by decide +kernel, ⟨tyX7, tyX7_ok⟩, nmX7⟩
  | k + 6, h => simp [vwCl] at h
theorem slots_setI {G : Gh} {M : Mem} {c j n : Nat} {tys : List Nat} {x : Int32} (ht : tys[j]? = some 0) (hj : j < n) :
    ((List.range n).map (slotV G M c tys)).set j (.int x) = (List.range n).map (slotV G (sI M c j x) c tys) := by
  apply List.ext_getElem?
  intro i
  by_cases hi : i = j
  · subst hi
    rw [List.getElem?_set_self (by simpa using hj)]
    simp [hj, slotV, ht, sI]
  · rw [List.getElem?_set_ne (Ne.symm hi)]
    simp only [List.getElem?_map]
    cases h : (List.range n)[i]? with
    | none => rfl
    | some v =>
      have hv : v = i := by
        have := List.getElem?_eq_some_iff.mp h
        obtain ⟨h1, h2⟩ := this
        simpa using h2.symm
      subst hv
      simp only [Option.map_some, slotV]
      rw [show (sI M c j x).1 c v = M.1 c v by simp [sI, hi], show (sI M c j x).2 = M.2 from rfl]
theorem slots_setL {G : Gh} {M : Mem} {c j n : Nat} {tys : List Nat} {x : Int64} (ht : tys[j]? = some 1) (hj : j < n) :
    ((List.range n).map (slotV G M c tys)).set j (.long x) = (List.range n).map (slotV G (sL M c j x) c tys) := by
  apply List.ext_getElem?
  intro i
  by_cases hi : i = j
  · subst hi
    rw [List.getElem?_set_self (by simpa using hj)]
    simp [hj, slotV, ht, sL]
  · rw [List.getElem?_set_ne (Ne.symm hi)]
    simp only [List.getElem?_map]
    cases h : (List.range n)[i]? with
    | none => rfl
    | some v =>
      have hv : v = i := by
        have := List.getElem?_eq_some_iff.mp h
        obtain ⟨h1, h2⟩ := this
        simpa using h2.symm
      subst hv
      simp only [Option.map_some, slotV]
      rw [show (sL M c j x).2 c v = M.2 c v by simp [sL, hi], show (sL M c j x).1 = M.1 from rfl]
theorem cellE_obj {G : Gh} {M : Mem} {k ci : Nat} {tys : List Nat} (h : LAY[k]? = some (.inl (ci, tys))) : cellE G M k = .inr (ci, (List.range tys.length).map (slotV G M k tys)) := by
  unfold cellE; rw [h]
theorem cellE_I {G : Gh} {M : Mem} {k len : Nat} (h : LAY[k]? = some (.inr (0, len))) : cellE G M k = .inl (G.cA 0, len, .inl (M.1 k)) := by
  unfold cellE; rw [h]; rfl
theorem cellE_L {G : Gh} {M : Mem} {k len : Nat} (h : LAY[k]? = some (.inr (1, len))) : cellE G M k = .inl (G.cA 1, len, .inr (.inl (M.2 k))) := by
  unfold cellE; rw [h]; rfl
theorem LAY_ty : ∀ e ∈ LAY, (match e with | .inl _ => true | .inr q => Nat.ble q.1 1) = true := by decide +kernel
theorem cellE_Z {G : Gh} {M : Mem} {k len : Nat} (h : LAY[k]? = some (.inr (2, len))) : cellE G M k = .inl (G.cA 2, len, .inl (M.1 k)) := by
  unfold cellE; rw [h]; rfl
theorem sI_upd (M : Mem) (k j : Nat) (x : Int32) : (sI M k j x).1 k = upd (M.1 k) j x := by
  funext b; simp [sI, upd]
theorem sL_upd (M : Mem) (k j : Nat) (x : Int64) : (sL M k j x).2 k = vp_updL (M.2 k) j x := by
  funext b; simp [sL, vp_updL]
theorem wl_sI {G : Gh} {M : Mem} {cs : List Nat} (hn : cs.Nodup) {q0 k j : Nat} {x : Int32} (hq : cs[q0]? = some k) : (wl G M cs).set q0 (G.ad k, cellE G (sI M k j x) k) = wl G (sI M k j x) cs :=
  wl_set hn hq fun k' hne => cellE_congr (sI_1 M k j x hne) rfl
theorem wl_sL {G : Gh} {M : Mem} {cs : List Nat} (hn : cs.Nodup) {q0 k j : Nat} {x : Int64} (hq : cs[q0]? = some k) : (wl G M cs).set q0 (G.ad k, cellE G (sL M k j x) k) = wl G (sL M k j x) cs :=
  wl_set hn hq fun k' hne => cellE_congr rfl (sL_2 M k j x hne)
section SndC
variable {p : Program} {l : Launch} {e : Env} {R : Room} {s : State} {m : MethodId} {args : Array Value} {below : List Frame} {meth : Method} {c : Code} {Q : State → Prop} {A : Nat → Prop} {G : Gh} {C : Cfg} {nL sz : Nat} {B : Bd} {cc : ByteArray} {own : String} {o0 : Res} {M0 : Mem}
variable {pc n k : Nat} {lo : List (Option Value)} {st : List Value} {M : Mem} {r : St ⊕ Ou}
/-- a field by the tables -/
theorem fld_sp (hts : ∀ w ∈ TB, w.before args s = true) {i c1 j ci : Nat} {tys : List Nat} (h : fldb own (i, c1, j) = true) (hl : LAY[c1]? = some (.inl (ci, tys))) :
    ∃ (Cn : String) (T : u_T) (N : Nat), vwCl[ci]? = some (Cn, T, N) ∧ tys.length = N ∧ j < N ∧ (Cond.fieldLink own i (T j).1 (T j).2.1 (T j).2.2.1).before args s = true ∧ (tys[j]? = some 0 → (T j).2.2.2 = false ∧ parseFieldDescriptor (T j).2.2.1 = some .int) ∧ (tys[j]? = some 1 → (T j).2.2.2 = false ∧ parseFieldDescriptor (T j).2.2.1 = some .long) := by
  unfold fldb at h
  simp only [hl] at h
  cases hv : vwCl[ci]? with
  | none => rw [hv] at h; cases h
  | some q =>
    obtain ⟨Cn, T, N⟩ := q
    rw [hv] at h
    simp only [Bool.and_eq_true, decide_eq_true_eq] at h
    obtain ⟨⟨⟨h1, h2⟩, h3⟩, h4⟩ := h
    refine ⟨Cn, T, N, rfl, h1, h2, hts _ h3, fun h0 => ?_, fun h0 => ?_⟩
    · rw [h0] at h4; simpa using h4
    · rw [h0] at h4; simpa using h4
theorem sn_getfield (hx : p.tables.exec = Jvm.exec) (hb : c.code = cc) (hts : ∀ w ∈ TB, w.before args s = true) (hown : s.vm.findClass own = some m.cls) (hK : va_K G.D vwCl (arrT G) s) (hC : ∀ e ∈ C.fld, fldb own e = true) {i : Nat} (hd : decode cc pc = .ok (.getfield i, n)) (hn : n = 3)
    (h : xi C pc lo st M k n (.getfield i) = some r) (hF : FinR p l e R s m args below meth c Q A G C nL B o0 M0 r) : AW p l e R s m args below meth c Q A G C nL B (pc, lo, st, M, k) := by
  subst hn
  simp only [xi] at h
  split at h
  · rename_i a r0
    split at h
    · rename_i c1 j hlk
      cases hac : (Nat.beq a c1 && C.cs.contains c1) with
      | false => rw [hac] at h; cases h
      | true =>
        rw [hac] at h
        simp only [Bool.and_eq_true] at hac
        obtain rfl := Nat.eq_of_beq_eq_true hac.1
        have hmem : a ∈ C.cs := List.contains_iff_mem.mp hac.2
        simp only [cond_true] at h
        split at h
        · rename_i ci tys hl
          obtain ⟨Cn, T, N, hcl, hN, hj, hlink, -, -⟩ := fld_sp hts (hC _ (lk_mem hlk)) hl
          obtain ⟨hin, -, -⟩ := cls_ok ci _ hcl
          have key : ∀ {v : Value}, slotV G M a tys j = v → (∀ H locs ls, va_P G.D vwCl (wl G M C.cs) H → va_S A s.heap H locs → lo.length = nL → lv_has ls nL (lvl G lo) → W p l e R s m args below meth c H locs (B.1 + k) (B.2.1 + 6 * k) Q (F0 m (pc + 3) ls (v :: r0.map (cv G)))) →
              AW p l e R s m args below meth c Q A G C nL B (pc, lo, .ref a :: r0, M, k) := by
            intro v hv hW H locs ls hP hS hL hl0
            obtain ⟨q0, hq1, hq2⟩ := wl_at (G := G) (M := M) hmem
            rw [cellE_obj hl] at hq2
            refine va_get hx hb hts hin hown hK hP q0 hq2 hcl j hj hlink (fun x hx => hx) (v := v) ?_ hd (hW H locs ls hP hS hL hl0)
            rw [List.getElem?_map, List.getElem?_range (by rw [hN]; exact hj)]
            simp [hv]
          split at h
          · rename_i ht
            cases h
            exact key (v := .int (M.1 a j)) (by unfold slotV; rw [ht]) hF
          · rename_i ht
            cases h
            exact key (v := .long (M.2 a j)) (by unfold slotV; rw [ht]) hF
          · rename_i t ht
            cases h
            exact key (v := .ref (G.ad t)) (by unfold slotV; rw [ht]) hF
          · cases h
        · cases h
    · cases h
  · cases h
theorem sn_putfield (hx : p.tables.exec = Jvm.exec) (hb : c.code = cc) (hts : ∀ w ∈ TB, w.before args s = true) (hown : s.vm.findClass own = some m.cls) (hK : va_K G.D vwCl (arrT G) s) (hnd : C.cs.Nodup) (hG : GhOK G C.cs sz) (hC : ∀ e ∈ C.fld, fldb own e = true) {i : Nat} (hd : decode cc pc = .ok (.putfield i, n)) (hn : n = 3)
    (h : xi C pc lo st M k n (.putfield i) = some r) (hF : FinR p l e R s m args below meth c Q (AG G C.cs sz) G C nL B o0 M0 r) : AW p l e R s m args below meth c Q (AG G C.cs sz) G C nL B (pc, lo, st, M, k) := by
  subst hn
  simp only [xi] at h
  split at h
  · rename_i x a r0
    split at h
    · rename_i c1 j hlk
      cases hac : (Nat.beq a c1 && C.cs.contains c1) with
      | false => rw [hac] at h; cases h
      | true =>
        rw [hac] at h
        simp only [Bool.and_eq_true] at hac
        obtain rfl := Nat.eq_of_beq_eq_true hac.1
        have hmem : a ∈ C.cs := List.contains_iff_mem.mp hac.2
        simp only [cond_true] at h
        split at h
        · rename_i ci tys hl
          obtain ⟨Cn, T, N, hcl, hN, hj, hlink, h0, h1⟩ := fld_sp hts (hC _ (lk_mem hlk)) hl
          obtain ⟨hin, ⟨ty0, hty⟩, hnm⟩ := cls_ok ci _ hcl
          split at h
          · rename_i ht
            cases h
            intro H locs ls hP hS hL hl0
            obtain ⟨q0, hq1, hq2⟩ := wl_at (G := G) (M := M) hmem
            rw [cellE_obj hl] at hq2
            refine va_put hx hb hts hin ty0 hty hnm hown hK hP (wl_D hnd hG) hS q0 hq2 hcl j hj hlink (fun x hx => hx) (h0 ht).1 (h0 ht).2 (v := .int x) rfl rfl (by rw [List.length_map, List.length_range, hN]; exact hj) hd (fun H1 locs1 hP1 _ hS1 => ?_)
            rw [slots_setI ht (by rw [hN]; exact hj), ← cellE_obj hl, wl_sI hnd hq1] at hP1
            exact hF H1 locs1 ls hP1 hS1 hL hl0
          · cases h
        · cases h
    · cases h
  · rename_i x a r0
    split at h
    · rename_i c1 j hlk
      cases hac : (Nat.beq a c1 && C.cs.contains c1) with
      | false => rw [hac] at h; cases h
      | true =>
        rw [hac] at h
        simp only [Bool.and_eq_true] at hac
        obtain rfl := Nat.eq_of_beq_eq_true hac.1
        have hmem : a ∈ C.cs := List.contains_iff_mem.mp hac.2
        simp only [cond_true] at h
        split at h
        · rename_i ci tys hl
          obtain ⟨Cn, T, N, hcl, hN, hj, hlink, h0, h1⟩ := fld_sp hts (hC _ (lk_mem hlk)) hl
          obtain ⟨hin, ⟨ty0, hty⟩, hnm⟩ := cls_ok ci _ hcl
          split at h
          · rename_i ht
            cases h
            intro H locs ls hP hS hL hl0
            obtain ⟨q0, hq1, hq2⟩ := wl_at (G := G) (M := M) hmem
            rw [cellE_obj hl] at hq2
            refine va_put hx hb hts hin ty0 hty hnm hown hK hP (wl_D hnd hG) hS q0 hq2 hcl j hj hlink (fun x hx => hx) (h1 ht).1 (h1 ht).2 (v := .long x) rfl rfl (by rw [List.length_map, List.length_range, hN]; exact hj) hd (fun H1 locs1 hP1 _ hS1 => ?_)
            rw [slots_setL ht (by rw [hN]; exact hj), ← cellE_obj hl, wl_sL hnd hq1] at hP1
            exact hF H1 locs1 ls hP1 hS1 hL hl0
          · cases h
        · cases h
    · cases h
  · cases h
/-- the script, where a method sees it -/
def ScrOK (C : Cfg) (G : Gh) (A : Nat → Prop) (s : State) : Prop := ∀ (L : Nat) (xs : Nat → Int32), C.scr = some (L, xs) → va_X (G.ad 30) L xs s s.heap ∧ G.ad 30 < s.heap.size ∧ ¬ A (G.ad 30)
theorem sn_iaload (hx : p.tables.exec = Jvm.exec) (hb : c.code = cc) (hK : va_K G.D vwCl (arrT G) s) (hX : ScrOK C G A s) (hd : decode cc pc = .ok (.iaload, n)) (hn : n = 1)
    (h : xi C pc lo st M k n .iaload = some r) (hF : FinR p l e R s m args below meth c Q A G C nL B o0 M0 r) : AW p l e R s m args below meth c Q A G C nL B (pc, lo, st, M, k) := by
  subst hn
  simp only [xi] at h
  split at h
  · rename_i i a r0
    cases ha : Nat.beq a 30 with
    | true =>
      rw [ha] at h
      obtain rfl := Nat.eq_of_beq_eq_true ha
      simp only [cond_true] at h
      split at h
      · rename_i L xs hs
        split at h
        · rename_i hin
          cases h
          intro H locs ls hP hS hL hl0
          obtain ⟨x1, x2, x3⟩ := hX L xs hs
          exact va_sld hx hb x1 x2 x3 hS (inb_in hin) hd (hF H locs ls hP hS hL hl0)
        · cases h
      · cases h
    | false =>
      rw [ha] at h
      simp only [cond_false] at h
      split at h
      · rename_i len hl
        cases hm : C.cs.contains a with
        | false => rw [hm] at h; cases h
        | true =>
          rw [hm] at h
          simp only [cond_true] at h
          split at h
          · rename_i hin
            cases h
            intro H locs ls hP hS hL hl0
            obtain ⟨q0, hq1, hq2⟩ := wl_at (G := G) (M := M) (List.contains_iff_mem.mp hm)
            rw [cellE_I hl] at hq2
            exact va_iald hx hb hK hP q0 0 hq2 rfl (inb_in hin) hd (hF H locs ls hP hS hL hl0)
          · cases h
      · cases h
  · cases h
theorem sn_laload (hx : p.tables.exec = Jvm.exec) (hb : c.code = cc) (hK : va_K G.D vwCl (arrT G) s) (hd : decode cc pc = .ok (.laload, n)) (hn : n = 1)
    (h : xi C pc lo st M k n .laload = some r) (hF : FinR p l e R s m args below meth c Q A G C nL B o0 M0 r) : AW p l e R s m args below meth c Q A G C nL B (pc, lo, st, M, k) := by
  subst hn
  simp only [xi] at h
  split at h
  · rename_i i a r0
    split at h
    · rename_i len hl
      cases hm : C.cs.contains a with
      | false => rw [hm] at h; cases h
      | true =>
        rw [hm] at h
        simp only [cond_true] at h
        split at h
        · rename_i hin
          cases h
          intro H locs ls hP hS hL hl0
          obtain ⟨q0, hq1, hq2⟩ := wl_at (G := G) (M := M) (List.contains_iff_mem.mp hm)
          rw [cellE_L hl] at hq2
          exact va_lald hx hb hK hP q0 1 hq2 rfl (inb_in hin) hd (hF H locs ls hP hS hL hl0)
        · cases h
    · cases h
  · cases h
theorem sn_iastore (hx : p.tables.exec = Jvm.exec) (hb : c.code = cc) (hK : va_K G.D vwCl (arrT G) s) (hnd : C.cs.Nodup) (hG : GhOK G C.cs sz) (hd : decode cc pc = .ok (.iastore, n)) (hn : n = 1)
    (h : xi C pc lo st M k n .iastore = some r) (hF : FinR p l e R s m args below meth c Q (AG G C.cs sz) G C nL B o0 M0 r) : AW p l e R s m args below meth c Q (AG G C.cs sz) G C nL B (pc, lo, st, M, k) := by
  subst hn
  simp only [xi] at h
  split at h
  · rename_i x i a r0
    split at h
    · rename_i len hl
      cases hm : C.cs.contains a with
      | false => rw [hm] at h; cases h
      | true =>
        rw [hm] at h
        simp only [cond_true] at h
        split at h
        · rename_i hin
          cases h
          intro H locs ls hP hS hL hl0
          obtain ⟨q0, hq1, hq2⟩ := wl_at (G := G) (M := M) (List.contains_iff_mem.mp hm)
          rw [cellE_I hl] at hq2
          refine va_iast hx hb hK hP (wl_D hnd hG) hS q0 0 hq2 rfl (inb_in hin) hd (fun H1 locs1 hP1 _ hS1 => ?_)
          rw [← sI_upd, ← cellE_I hl, wl_sI hnd hq1] at hP1
          exact hF H1 locs1 ls hP1 hS1 hL hl0
        · cases h
    · cases h
  · cases h
theorem sn_lastore (hx : p.tables.exec = Jvm.exec) (hb : c.code = cc) (hK : va_K G.D vwCl (arrT G) s) (hnd : C.cs.Nodup) (hG : GhOK G C.cs sz) (hd : decode cc pc = .ok (.lastore, n)) (hn : n = 1)
    (h : xi C pc lo st M k n .lastore = some r) (hF : FinR p l e R s m args below meth c Q (AG G C.cs sz) G C nL B o0 M0 r) : AW p l e R s m args below meth c Q (AG G C.cs sz) G C nL B (pc, lo, st, M, k) := by
  subst hn
  simp only [xi] at h
  split at h
  · rename_i x i a r0
    split at h
    · rename_i len hl
      cases hm : C.cs.contains a with
      | false => rw [hm] at h; cases h
      | true =>
        rw [hm] at h
        simp only [cond_true] at h
        split at h
        · rename_i hin
          cases h
          intro H locs ls hP hS hL hl0
          obtain ⟨q0, hq1, hq2⟩ := wl_at (G := G) (M := M) (List.contains_iff_mem.mp hm)
          rw [cellE_L hl] at hq2
          refine va_last hx hb hK hP (wl_D hnd hG) hS q0 1 hq2 rfl (inb_in hin) hd (fun H1 locs1 hP1 _ hS1 => ?_)
          rw [← sL_upd, ← cellE_L hl, wl_sL hnd hq1] at hP1
          exact hF H1 locs1 ls hP1 hS1 hL hl0
        · cases h
    · cases h
  · cases h
theorem sn_arraylength (hx : p.tables.exec = Jvm.exec) (hb : c.code = cc) (hK : va_K G.D vwCl (arrT G) s) (hX : ScrOK C G A s) (hd : decode cc pc = .ok (.arraylength, n)) (hn : n = 1)
    (h : xi C pc lo st M k n .arraylength = some r) (hF : FinR p l e R s m args below meth c Q A G C nL B o0 M0 r) : AW p l e R s m args below meth c Q A G C nL B (pc, lo, st, M, k) := by
  subst hn
  simp only [xi] at h
  split at h
  · rename_i a r0
    cases ha : Nat.beq a 30 with
    | true =>
      rw [ha] at h
      obtain rfl := Nat.eq_of_beq_eq_true ha
      simp only [cond_true] at h
      split at h
      · rename_i L xs hs
        cases h
        intro H locs ls hP hS hL hl0
        obtain ⟨x1, x2, x3⟩ := hX L _ hs
        exact va_slen hx hb x1 x2 x3 hS hd (hF H locs ls hP hS hL hl0)
      · cases h
    | false =>
      rw [ha] at h
      simp only [cond_false] at h
      split at h
      · rename_i ty len hl
        cases hm : C.cs.contains a with
        | false => rw [hm] at h; cases h
        | true =>
          rw [hm] at h
          cases h
          intro H locs ls hP hS hL hl0
          obtain ⟨q0, hq1, hq2⟩ := wl_at (G := G) (M := M) (List.contains_iff_mem.mp hm)
          have hF := hF H locs ls hP hS hL hl0
          match ty, hl with
          | 0, hl => rw [cellE_I hl] at hq2; exact va_alen hx hb hK hP q0 0 hq2 rfl rfl hd hF
          | 1, hl => rw [cellE_L hl] at hq2; exact va_alen hx hb hK hP q0 1 hq2 rfl rfl hd hF
          | t + 2, hl =>
            have h2 : t + 2 ≤ 1 := Nat.le_of_ble_eq_true (LAY_ty _ (List.mem_of_getElem? hl))
            exact absurd h2 (by omega)
      · cases h
  · cases h
end SndC
